theorem bF_3 (r b : Nat) (rr ws lp lf x : Int32) : updV (bF r b rr ws lp lf) 3 (.int x) = bF r b rr x lp lf := by
  funext k; unfold updV
  by_cases e : k = 3
  · subst e; rfl
  · rw [if_neg e]
    match k, e with
    | 0, _ => rfl
    | 1, _ => rfl
    | 2, _ => rfl
    | 4, _ => rfl
    | 5, _ => rfl
    | k + 6, _ => rfl
theorem bF_4 (r b : Nat) (rr ws lp lf x : Int32) : updV (bF r b rr ws lp lf) 4 (.int x) = bF r b rr ws x lf := by
  funext k; unfold updV
  by_cases e : k = 4
  · subst e; rfl
  · rw [if_neg e]
    match k, e with
    | 0, _ => rfl
    | 1, _ => rfl
    | 2, _ => rfl
    | 3, _ => rfl
    | 5, _ => rfl
    | k + 6, _ => rfl
theorem bF_5 (r b : Nat) (rr ws lp lf x : Int32) : updV (bF r b rr ws lp lf) 5 (.int x) = bF r b rr ws lp x := by
  funext k; unfold updV
  by_cases e : k = 5
  · subst e; rfl
  · rw [if_neg e]
    match k, e with
    | 0, _ => rfl
    | 1, _ => rfl
    | 2, _ => rfl
    | 3, _ => rfl
    | 4, _ => rfl
    | k + 6, _ => rfl
def fillA (A : Nat → Nat → Int32) (i : Nat) : Nat → Nat → Int32 := fun a t => if a = 1 ∧ t < i then -nI 9 else A a t
theorem fillA_s (A : Nat → Nat → Int32) (i : Nat) : uA (fillA A i) 1 i (-nI 9) = fillA A (i + 1) := by
  funext a t
  unfold uA fillA
  by_cases e : a = 1 ∧ t = i
  · rw [if_pos e, if_pos (by omega)]
  · rw [if_neg e]
    by_cases e2 : a = 1 ∧ t < i
    · rw [if_pos e2, if_pos (by omega)]
    · rw [if_neg e2, if_neg (by omega)]
section BSrch
variable {h : jHp} {b r : Nat} {d : jRD} {rr ws lp lf : Int32} {A AJ : Nat → Nat → Int32}
theorem bb_p3 (x : Int32) : pF (bJ h b r rr ws lp lf A AJ) b 0 3 (.int x) = some (bJ h b r rr x lp lf A AJ) := by
  unfold bJ; rw [p0_3, bF_3]
theorem bb_p4 (x : Int32) : pF (bJ h b r rr ws lp lf A AJ) b 0 4 (.int x) = some (bJ h b r rr ws x lf A AJ) := by
  unfold bJ; rw [p0_4, bF_4]
theorem bb_p5 (x : Int32) : pF (bJ h b r rr ws lp lf A AJ) b 0 5 (.int x) = some (bJ h b r rr ws lp x A AJ) := by
  unfold bJ; rw [p0_5, bF_5]
theorem l_fill : ∀ m i, i + m = 165 → R 1 38 34 [some (.ref b), some (.int (nI i))] [] (bJ h b r rr ws lp lf (fillA A i) AJ) = R 1 38 34 [some (.ref b), some (.int (nI 165))] [] (bJ h b r rr ws lp lf (fillA A 165) AJ) := by
  intro m
  induction m with
  | zero =>
    intro i hi
    obtain rfl : i = 165 := hi
    rfl
  | succ m ih =>
    intro i him
    rw [B38_34, bb_6, obd_some, bbl_1, obd_some, if_pos (show nI i < nI 165 by rw [nJ_lt (by omega) (by omega)]; omega), obd_some, bbw_1 (by omega), obd_some, nJ_add, fillA_s]
    exact ih (i + 1) (by omega)
theorem c_forgetAll (H : bEnv h b r d) : mc 38 [.ref b] (bJ h b r rr ws lp lf A AJ) = some (none, bJ h b r (nI 0) (nI 1) (lwho (rL d)) (lfro (rL d)) (fillA A 165) AJ) := by
  have hr0 : ∀ rr ws lp lf, RoadAt (bJ h b r rr ws lp lf A AJ) r d := fun _ _ _ _ => be_road H
  rw [M38, bb_p3, obd_some, bb_0, obd_some, rd_3 (hr0 _ _ _ _), obd_some, bb_p4, obd_some, bb_0, obd_some, rd_4 (hr0 _ _ _ _), obd_some, bb_p5, obd_some, bb_p1, obd_some]
  have f := l_fill (h := h) (b := b) (r := r) (rr := nI 0) (ws := nI 1) (lp := lwho (rL d)) (lf := lfro (rL d)) (A := A) (AJ := AJ) 165 0 rfl
  rw [show fillA A 0 = A by funext a t; unfold fillA; rw [if_neg (by omega)]] at f
  rw [f, B38_34, bb_6, obd_some, bbl_1, obd_some, if_neg (show ¬ nI 165 < nI 165 by decide)]
theorem c_exploreAll (H : bEnv h b r d) (hE : 0 < rE d) (hP : 0 < rP d) (hN : (rB d + 1) ^ (rP d * rE d) ≤ 65536) (hG : GateIs d AJ 0 gs0) :
    ∃ A2 AJ2, mc 39 [.ref b, .int (nI 0), .int (nI 0)] (bJ h b r (nI 0) (nI 1) (lwho (rL d)) (lfro (rL d)) (fillA A 165) AJ) = some (none, bJ h b r (bR d ((rB d + 1) ^ (rP d * rE d))) (nI 1) (lwho (rL d)) (lfro (rL d)) A2 AJ2) ∧ TabIs A2 (acc d ((rB d + 1) ^ (rP d * rE d))).1 ∧ GateIs d AJ2 0 gs0 := by
  have g := c_explore (ws := nI 1) (lp := lwho (rL d)) (lf := lfro (rL d)) H hE hN (rP d - 1) 0 0 (by omega) (by rw [Nat.zero_mul, Nat.zero_add, Nat.zero_mul, Nat.sub_zero]; exact hN)
  rw [Nat.zero_mul, Nat.zero_mul, Nat.sub_zero] at g
  obtain ⟨A2, AJ2, e1, e2, e3⟩ := g (fillA A 165) AJ ⟨hG, fun i hi => absurd hi (by rw [Nat.zero_mul]; exact Nat.not_lt_zero i), fun i hi => absurd hi (Nat.not_lt_zero i)⟩ (fun aim t ha ht => by
    show fillA A 165 1 (slt aim t) = -nI 9
    have := slt_le ha ht
    unfold fillA; rw [if_pos ⟨rfl, by omega⟩])
  rw [Nat.zero_add] at e1 e2
  exact ⟨A2, AJ2, e1, e2, e3.2 0 gs0 (Nat.le_refl 0) hG⟩
end BSrch
