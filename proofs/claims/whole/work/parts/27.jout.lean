theorem mnB_le {g : Nat → Nat} : ∀ n, mnB g n ≤ 2147483647
  | 0 => Nat.le_refl _
  | n + 1 => by
    have := mnB_le (g := g) n
    rw [mnB]; split <;> omega
section JRows7
variable {h : jHp} {j r ca : Nat} {d : jRD} {C : Nat → Int32} {A : Nat → Nat → Int32}
theorem c_lastMinute (H : jEnv h j r d ca C) {s : jGS} (hs : gOk (rP d) s) (hG : GateIs d A (rP d) s) : mc 78 [.ref j] (jJ h j r A) = some (some (.int (nI (lastN d s))), jJ h j r A) := by
  have h6 := H.2.1.1
  have hr0 : RoadAt (jJ h j r A) r d := je_road H
  rw [M78]
  simp only [jj_0, rd_0 hr0, obd_some, obd_none, Option.toList_some, Option.toList_none, List.cons_append, List.nil_append, cond_true, cond_false, jj_o]
  rw [c_latestAt H (Nat.le_refl _) (fun p => by have := hs.1 p; omega) (fun p hp => (hG.1 p hp).1)]
  simp only [obd_some, obd_none, Option.toList_some, Option.toList_none, List.cons_append, List.nil_append, cond_true, cond_false, B78_11]
  rfl
theorem l_first (H : jEnv h j r d ca C) {s : jGS} (hs : gOk (rP d) s) (hG : GateIs d A (rP d) s) :
    ∀ m p, p + m = rE d → R 3 79 15 [some (.ref j), some (.int (nI (mnB (ga s) p))), some (.int (nI p))] [] (jJ h j r A) = some (some (.int (nI (frstN d s))), jJ h j r A) := by
  have h6 := H.2.1.1
  have h4 := H.2.1.2.1
  have hr0 : RoadAt (jJ h j r A) r d := je_road H
  intro m
  induction m with
  | zero =>
    intro p hp
    obtain rfl : p = rE d := hp
    rw [B79_15]
    simp (disch := omega) only [jj_0, rd_1 hr0, obd_some, obd_none, Option.toList_some, Option.toList_none, List.cons_append, List.nil_append, cond_true, cond_false, nJ_add, nI_mul, nJ_lt, nJ_le, nI_inj, nI_lt0, nI_eq0, nI_gt0, toNat_nI, Nat.lt_irrefl, if_false]
    rfl
  | succ m ih =>
    intro p hpm
    have hp : p < rE d := by omega
    have hfp := hs.1 p
    have hmx := mnB_le (g := ga s) p
    rw [B79_15]
    simp (disch := omega) only [jj_0, rd_1 hr0, rd_0 hr0, obd_some, obd_none, Option.toList_some, Option.toList_none, List.cons_append, List.nil_append, cond_true, cond_false, nJ_add, nI_mul, nJ_lt, nJ_le, nI_inj, nI_lt0, nI_eq0, nI_gt0, toNat_nI, hp, if_true, jj_o, c_arrivalOf H hp (Nat.le_refl _), (hG.1 p hp).1, B79_39, c_min, B79_42]
    rw [← ih (p + 1) (by omega), mnB]
theorem c_firstMinute (H : jEnv h j r d ca C) {s : jGS} (hs : gOk (rP d) s) (hG : GateIs d A (rP d) s) (hE : 0 < rE d) : mc 79 [.ref j] (jJ h j r A) = some (some (.int (nI (frstN d s))), jJ h j r A) := by
  have h6 := H.2.1.1
  have hr0 : RoadAt (jJ h j r A) r d := je_road H
  have ha := hs.1 0
  rw [M79]
  simp only [jj_0, rd_0 hr0, obd_some, obd_none, Option.toList_some, Option.toList_none, List.cons_append, List.nil_append, cond_true, cond_false, jj_o]
  rw [c_arrivalOf H hE (Nat.le_refl _)]
  simp only [obd_some, obd_none, Option.toList_some, Option.toList_none, List.cons_append, List.nil_append, cond_true, cond_false, B79_12, (hG.1 0 hE).1]
  have g := l_first H hs hG (rE d - 1) 1 (by omega)
  rw [show mnB (ga s) 1 = ga s 0 by rw [mnB, mnB, if_pos (by omega)]] at g
  exact g
theorem l_most (H : jEnv h j r d ca C) {s : jGS} (hs : gOk (rP d) s) (hG : GateIs d A (rP d) s) :
    ∀ m p, p + m = rE d → R 3 81 4 [some (.ref j), some (.int (nI (maxB (fun _ => true) (gf s) 0 p))), some (.int (nI p))] [] (jJ h j r A) = some (some (.int (nI (mostN d s))), jJ h j r A) := by
  have h6 := H.2.1.1
  have h4 := H.2.1.2.1
  have hr0 : RoadAt (jJ h j r A) r d := je_road H
  intro m
  induction m with
  | zero =>
    intro p hp
    obtain rfl : p = rE d := hp
    rw [B81_4]
    simp (disch := omega) only [jj_0, rd_1 hr0, obd_some, obd_none, Option.toList_some, Option.toList_none, List.cons_append, List.nil_append, cond_true, cond_false, nJ_add, nI_mul, nJ_lt, nJ_le, nI_inj, nI_lt0, nI_eq0, nI_gt0, toNat_nI, Nat.lt_irrefl, if_false]
    rfl
  | succ m ih =>
    intro p hpm
    have hp : p < rE d := by omega
    have hfp := hs.2.1 p
    have hmx := maxB_le (f := fun _ => true) (x := 0) (Nat.zero_le _) hs.2.1 p
    rw [B81_4]
    simp (disch := omega) only [jj_0, rd_1 hr0, obd_some, obd_none, Option.toList_some, Option.toList_none, List.cons_append, List.nil_append, cond_true, cond_false, nJ_add, nI_mul, nJ_lt, nJ_le, nI_inj, nI_lt0, nI_eq0, nI_gt0, toNat_nI, hp, if_true, jj_o, c_walkedBy H hp, (hG.1 p hp).2, B81_21, c_max, B81_24]
    rw [← ih (p + 1) (by omega), maxB, if_pos rfl]
theorem c_mostWalked (H : jEnv h j r d ca C) {s : jGS} (hs : gOk (rP d) s) (hG : GateIs d A (rP d) s) : mc 81 [.ref j] (jJ h j r A) = some (some (.int (nI (mostN d s))), jJ h j r A) := by
  rw [M81]
  exact l_most H hs hG (rE d) 0 (Nat.zero_add _)
end JRows7
/-! making objects: a block being made -/
def hB (c : Nat) (h : jHp) (b : Nat) (F : Nat → Value) (m s : Nat) : jHp := (fun a => if b ≤ a ∧ a ≤ b + m then some (if a = b then cO c F else cI (oSz c (a - b)) (fun _ => 0)) else h.1 a, b + m + 1, s)
theorem hB_new (h : jHp) (c : Nat) : newO h c = hB c h h.2.1 (dflt c) 0 (h.2.2 + fNT c) := by
  unfold newO hnew hB
  refine Prod.ext ?_ rfl
  funext q
  dsimp only
  by_cases e : q = h.2.1
  · subst e; rw [if_pos rfl, if_pos ⟨Nat.le_refl _, Nat.le_refl _⟩, if_pos rfl]
  · rw [if_neg e, if_neg (by omega)]
theorem hB_next (c : Nat) (h : jHp) (b : Nat) (F : Nat → Value) (m s : Nat) : (hB c h b F m s).2.1 = b + m + 1 := rfl
theorem hB_I {c : Nat} {h : jHp} {b : Nat} {F : Nat → Value} {m s n : Nat} (hn : n ≤ 100000) (e : oSz c (m + 1) = n) : newI (hB c h b F m s) (nI n) = some (hB c h b F (m + 1) (s + n)) := by
  unfold newI
  rw [toNat_nI (by omega), if_neg (by rintro (q | q); exact nI_nneg (by omega) q; omega)]
  unfold hnew hB
  refine congrArg some (Prod.ext ?_ rfl)
  funext q
  dsimp only
  by_cases e1 : q = b + m + 1
  · subst e1
    rw [if_pos rfl, if_pos (by omega), if_neg (by omega), show b + m + 1 - b = m + 1 by omega, e]
  · rw [if_neg e1]
    by_cases e2 : b ≤ q ∧ q ≤ b + m
    · rw [if_pos e2, if_pos (show b ≤ q ∧ q ≤ b + (m + 1) by omega)]
    · rw [if_neg e2, if_neg (by omega)]
theorem hB_O {c : Nat} {h : jHp} {b : Nat} {F : Nat → Value} {m s : Nat} : gO (hB c h b F m s) b c = some F := by
  refine gO_of ?_
  unfold hB
  dsimp only
  rw [if_pos ⟨Nat.le_refl _, Nat.le_add_right _ _⟩, if_pos rfl]
theorem hB_p {c : Nat} {h : jHp} {b : Nat} {F : Nat → Value} {m s k : Nat} {v : Value} : pF (hB c h b F m s) b c k v = some (hB c h b (updV F k v) m s) := by
  unfold pF
  rw [hB_O, Option.bind_some]
  unfold hset hB
  refine congrArg some (Prod.ext ?_ rfl)
  funext q
  dsimp only
  by_cases e : q = b
  · subst e
    rw [if_pos rfl, if_pos ⟨Nat.le_refl _, Nat.le_add_right _ _⟩, if_pos rfl]
  · rw [if_neg e]
    by_cases e2 : b ≤ q ∧ q ≤ b + m
    · rw [if_pos e2, if_pos e2, if_neg e, if_neg e]
    · rw [if_neg e2, if_neg e2]
theorem hB_end {c : Nat} {h : jHp} {b : Nat} {F F' : Nat → Value} {m s : Nat} (hm : oN c = m) (e : ∀ k, F k = oF c b F' k) : hB c h b F m s = hX c (h.1, b + m + 1, s) b F' zA := by
  unfold hB hX
  rw [hm, show F = oF c b F' from funext e]
  rfl
/-- a heap with some of its room taken -/
def hT (h : jHp) (n s : Nat) : jHp := (h.1, n, s)
theorem c_initJourney (h : jHp) (r : Nat) : mc 26 [.ref h.2.1, .ref r] (newO h 1) = some (none, jJ (hT h (h.2.1 + 9) (h.2.2 + 9 + 154 - 14 + 0)) h.2.1 r zA) := by
  rw [M26, hB_new]
  simp (disch := decide) only [hB_I, hB_p, hB_next, obd_some, obd_none, Option.toList_some, Option.toList_none, List.cons_append, List.nil_append, cond_true, cond_false, B26_39, oSz]
  exact I
