theorem hT_hX (c : Nat) (h : jHp) (b : Nat) (F : Nat → Value) (A : Nat → Nat → Int32) (n s : Nat) : hT (hX c h b F A) n s = hX c (hT h n s) b F A := rfl
theorem hT_hT (h : jHp) (n s n' s' : Nat) : hT (hT h n s) n' s' = hT h n' s' := rfl
theorem pF_out {c : Nat} {h : jHp} {b a c' k : Nat} {v : Value} {F : Nat → Value} {A : Nat → Nat → Int32} {h' : jHp} (ho : a < b ∨ b + oN c < a) (e : pF h a c' k v = some h') : pF (hX c h b F A) a c' k v = some (hX c h' b F A) := by
  unfold pF at e ⊢
  rw [gO_out ho]
  cases q : gO h a c' with
  | none => rw [q] at e; cases e
  | some G =>
    rw [q] at e
    rw [Option.bind_some] at e ⊢
    cases e
    rw [hset_out _ ho]
def rd0 : jRD := (0, 0, 0, none, fun _ => 0, fun _ => 0, fun _ => 0, fun _ => 0)
theorem roA_0 : roA rd0 = zA := by
  funext i j
  match i with
  | 0 => rfl
  | 1 => rfl
  | 2 => rfl
  | 3 => rfl
  | 4 => rfl
  | i + 5 => rfl
theorem rd_end (b k : Nat) : updV (updV (updV (updV (updV (updV (dflt 4) 3 (.int (-nI 9))) 4 (.int (-nI 9))) 5 (.ref (b + 0 + 1))) 6 (.ref (b + (0 + 1) + 1))) 7 (.ref (b + (0 + 1 + 1) + 1))) 8 (.ref (b + (0 + 1 + 1 + 1) + 1)) k = oF 4 b (rdF rd0) k := by
  rcases nat9 k with rfl | rfl | rfl | rfl | rfl | rfl | rfl | rfl | rfl | ⟨t, rfl⟩
  all_goals rfl
theorem c_initRoad (h : jHp) : mc 3 [.ref h.2.1] (newO h 4) = some (none, hX 4 (hT h (h.2.1 + 5) (h.2.2 + 9 + 6 + 6 + 16 + 12)) h.2.1 (rdF rd0) (roA rd0)) := by
  rw [M3, hB_new, roA_0]
  rw [hB_p, obd_some, hB_p, obd_some, hB_I (n := 6) (by decide) rfl, obd_some, hB_next, hB_p, obd_some, hB_I (n := 6) (by decide) rfl, obd_some, hB_next, hB_p, obd_some, hB_I (n := 16) (by decide) rfl, obd_some, hB_next, hB_p, obd_some, B3_40]
  rw [hB_I (n := 12) (by decide) rfl, obd_some, hB_next, hB_p, obd_some]
  exact congrArg (fun x => some (none, x)) (hB_end (m := 0 + 1 + 1 + 1 + 1) rfl (rd_end h.2.1))
def sd0 : jSD := (none, 0, fun _ => 0)
theorem sdA_0 : sdA sd0 = zA := by
  funext i j
  match i with
  | 0 => rfl
  | 1 => rfl
  | i + 2 => rfl
theorem sd_end (b k : Nat) : updV (updV (dflt 6) 0 (.ref (b + 0 + 1))) 1 (.int (-nI 9)) k = oF 6 b (sdF sd0) k := by
  rcases nat9 k with rfl | rfl | rfl | rfl | rfl | rfl | rfl | rfl | rfl | ⟨t, rfl⟩
  all_goals rfl
theorem c_initSheet (h : jHp) : mc 4 [.ref h.2.1] (newO h 6) = some (none, hX 6 (hT h (h.2.1 + 2) (h.2.2 + 3 + 120)) h.2.1 (sdF sd0) (sdA sd0)) := by
  rw [M4, hB_new, sdA_0]
  rw [hB_I (n := 120) (by decide) rfl, obd_some, hB_next, hB_p, obd_some, hB_p, obd_some]
  exact congrArg (fun x => some (none, x)) (hB_end (m := 0 + 1) rfl (sd_end h.2.1))
theorem rr_end (a b i n r k : Nat) : updV (updV (updV (updV (dflt 3) 0 (.ref b)) 1 (.int (nI i))) 2 (.int (nI n))) 3 (.ref r) k = oF 3 a (rrF b i n r 0) k := by
  rcases nat9 k with rfl | rfl | rfl | rfl | rfl | rfl | rfl | rfl | rfl | ⟨t, rfl⟩
  all_goals rfl
theorem c_initReader (h : jHp) (b i n r : Nat) : mc 11 [.ref h.2.1, .ref b, .int (nI i), .int (nI n), .ref r] (newO h 3) = some (none, hX 3 (hT h (h.2.1 + 1) (h.2.2 + 5)) h.2.1 (rrF b i n r 0) zA) := by
  rw [M11, hB_new]
  rw [hB_p, obd_some, hB_p, obd_some, hB_p, obd_some, hB_p, obd_some]
  exact congrArg (fun x => some (none, x)) (hB_end (m := 0) rfl (rr_end h.2.1 b i n r))
/-- a Best's fields: its road, rows that are right, whether it was searched, and with whom lame -/
def bF (r b : Nat) (rr ws lp lf : Int32) : Nat → Value := fun k => match k with | 0 => .ref r | 1 => .int rr | 2 => .ref (b + 4) | 3 => .int ws | 4 => .int lp | 5 => .int lf | _ => .null
def bF0 (r : Nat) : Nat → Value := fun k => match k with | 0 => .ref r | 1 => .int 0 | 2 => .null | 3 => .int 0 | 4 => .int 0 | 5 => .int 0 | _ => .null
theorem b_end (b r k : Nat) : updV (updV (updV (updV (dflt 0) 6 (.ref (b + 0 + 1))) 7 (.ref (b + (0 + 1) + 1))) 8 (.ref (b + (0 + 1 + 1) + 1))) 0 (.ref r) k = oF 0 b (bF0 r) k := by
  rcases nat9 k with rfl | rfl | rfl | rfl | rfl | rfl | rfl | rfl | rfl | ⟨t, rfl⟩
  all_goals rfl
theorem bF0_2 (r b : Nat) : updV (bF0 r) 2 (.ref (b + 4)) = bF r b 0 0 0 0 := by
  funext k; unfold updV
  by_cases e : k = 2
  · subst e; rfl
  · rw [if_neg e]
    match k, e with
    | 0, _ => rfl
    | 1, _ => rfl
    | 3, _ => rfl
    | 4, _ => rfl
    | 5, _ => rfl
    | k + 6, _ => rfl
theorem c_initBest (h : jHp) (r : Nat) : mc 23 [.ref h.2.1, .ref r] (newO h 0) = some (none, jJ (hX 0 (hT h (h.2.1 + 13) (h.2.2 + 9 + 165 + 5 + 24 + 9 + 28 + 28 + 28 + 14 + 14 + 14 + 7 + 7)) h.2.1 (bF r h.2.1 0 0 0 0) zA) (h.2.1 + 4) r zA) := by
  rw [M23, hB_new]
  rw [hB_I (n := 165) (by decide) rfl, obd_some, hB_next, hB_p, obd_some, hB_I (n := 5) (by decide) rfl, obd_some, hB_next, hB_p, obd_some, hB_I (n := 24) (by decide) rfl, obd_some, hB_next, hB_p, obd_some, hB_p, obd_some]
  rw [hB_end (m := 0 + 1 + 1 + 1) (c := 0) rfl (b_end h.2.1 r), B23_38]
  have e := c_initJourney (hX 0 (h.1, h.2.1 + (0 + 1 + 1 + 1) + 1, h.2.2 + fNT 0 + 165 + 5 + 24) h.2.1 (bF0 r) zA) r
  rw [e, obd_some]
  dsimp only
  simp only [obd_some, obd_none, Option.toList_some, Option.toList_none, List.cons_append, List.nil_append, cond_true, cond_false]
  rw [B23_42]
  have e2 : pF (hX 0 (hT h (h.2.1 + 13) (h.2.2 + 9 + 165 + 5 + 24 + 9 + 28 + 28 + 28 + 14 + 14 + 14 + 7 + 7)) h.2.1 (bF0 r) zA) h.2.1 0 2 (.ref (h.2.1 + 4)) = some (hX 0 (hT h (h.2.1 + 13) (h.2.2 + 9 + 165 + 5 + 24 + 9 + 28 + 28 + 28 + 14 + 14 + 14 + 7 + 7)) h.2.1 (bF r h.2.1 0 0 0 0) zA) := by
    rw [p0_2, bF0_2]
  have e3 := pF_out (c := 1) (b := h.2.1 + 4) (F := jF r) (A := zA) (a := h.2.1) (Or.inl (by omega)) e2
  exact (congrArg (fun x => obd none x fun h1 => some (none, h1)) e3).trans rfl
/-- a Plan's fields -/
def pnF (p kd x r g mn : Nat) : Nat → Value := fun k => match k with | 0 => .int (nI kd) | 1 => .int (nI x) | 2 => .ref r | 3 => .int (nI g) | 4 => .int (nI mn) | 6 => .ref (p + 2) | _ => .null
def pnF0 (kd x r g mn : Nat) : Nat → Value := fun k => match k with | 0 => .int (nI kd) | 1 => .int (nI x) | 2 => .ref r | 3 => .int (nI g) | 4 => .int (nI mn) | _ => .null
theorem pn_end (b kd x r g mn k : Nat) : updV (updV (updV (updV (updV (updV (dflt 2) 5 (.ref (b + 0 + 1))) 0 (.int (nI kd))) 1 (.int (nI x))) 2 (.ref r)) 3 (.int (nI g))) 4 (.int (nI mn)) k = oF 2 b (pnF0 kd x r g mn) k := by
  rcases nat9 k with rfl | rfl | rfl | rfl | rfl | rfl | rfl | rfl | rfl | ⟨t, rfl⟩
  all_goals rfl
theorem pnF0_6 (p kd x r g mn : Nat) : updV (pnF0 kd x r g mn) 6 (.ref (p + 2)) = pnF p kd x r g mn := by
  funext k; unfold updV
  by_cases e : k = 6
  · subst e; rfl
  · rw [if_neg e]
    match k, e with
    | 0, _ => rfl
    | 1, _ => rfl
    | 2, _ => rfl
    | 3, _ => rfl
    | 4, _ => rfl
    | 5, _ => rfl
    | k + 7, _ => rfl