theorem mnB_le {g : Nat → Nat} : ∀ n, mnB g n ≤ 2147483647
  | 0 => Nat.le_refl _
  | n + 1 => by
    have := mnB_le (g := g) n
    rw [mnB]; split <;> omega
section JRows7
variable {h : jHp} {j r ca : Nat} {d : jRD} {C : Nat → Int32} {A : Nat → Nat → Int32}
theorem c_lastMinute (H : jEnv h j r d ca C) {s : jGS} (hs : gOk (rP d) s) (hG : GateIs d A (rP d) s) : mc 55 [.ref j] (jJ h j r A) = some (some (.int (nI (lastN d s))), jJ h j r A) := by
  have h6 := H.2.1.1
  have hr0 : RoadAt (jJ h j r A) r d := je_road H
  rw [M55]
  simp only [jj_0, rd_0 hr0, obd_some, obd_none, Option.toList_some, Option.toList_none, List.cons_append, List.nil_append, cond_true, cond_false, jj_o]
  rw [c_latestAt H (Nat.le_refl _) (fun p => by have := hs.1 p; omega) (fun p hp => (hG.1 p hp).1)]
  simp only [obd_some, obd_none, Option.toList_some, Option.toList_none, List.cons_append, List.nil_append, cond_true, cond_false, B55_11]
  rfl
theorem l_first (H : jEnv h j r d ca C) {s : jGS} (hs : gOk (rP d) s) (hG : GateIs d A (rP d) s) :
    ∀ m p, p + m = rE d → R 3 59 15 [some (.ref j), some (.int (nI (mnB (ga s) p))), some (.int (nI p))] [] (jJ h j r A) = some (some (.int (nI (frstN d s))), jJ h j r A) := by
  have h6 := H.2.1.1
  have h4 := H.2.1.2.1
  have hr0 : RoadAt (jJ h j r A) r d := je_road H
  intro m
  induction m with
  | zero =>
    intro p hp
    obtain rfl : p = rE d := hp
    rw [B59_15]
    simp (disch := omega) only [jj_0, rd_1 hr0, obd_some, obd_none, Option.toList_some, Option.toList_none, List.cons_append, List.nil_append, cond_true, cond_false, nJ_add, nI_mul, nJ_lt, nJ_le, nI_inj, nI_lt0, nI_eq0, nI_gt0, toNat_nI, Nat.lt_irrefl, if_false]
    rfl
  | succ m ih =>
    intro p hpm
    have hp : p < rE d := by omega
    have hfp := hs.1 p
    have hmx := mnB_le (g := ga s) p
    rw [B59_15]
    simp (disch := omega) only [jj_0, rd_1 hr0, rd_0 hr0, obd_some, obd_none, Option.toList_some, Option.toList_none, List.cons_append, List.nil_append, cond_true, cond_false, nJ_add, nI_mul, nJ_lt, nJ_le, nI_inj, nI_lt0, nI_eq0, nI_gt0, toNat_nI, hp, if_true, jj_o, c_arrivalOf H hp (Nat.le_refl _), (hG.1 p hp).1, B59_39, c_min, B59_42]
    rw [← ih (p + 1) (by omega), mnB]
theorem c_firstMinute (H : jEnv h j r d ca C) {s : jGS} (hs : gOk (rP d) s) (hG : GateIs d A (rP d) s) (hE : 0 < rE d) : mc 59 [.ref j] (jJ h j r A) = some (some (.int (nI (frstN d s))), jJ h j r A) := by
  have h6 := H.2.1.1
  have hr0 : RoadAt (jJ h j r A) r d := je_road H
  have ha := hs.1 0
  rw [M59]
  simp only [jj_0, rd_0 hr0, obd_some, obd_none, Option.toList_some, Option.toList_none, List.cons_append, List.nil_append, cond_true, cond_false, jj_o]
  rw [c_arrivalOf H hE (Nat.le_refl _)]
  simp only [obd_some, obd_none, Option.toList_some, Option.toList_none, List.cons_append, List.nil_append, cond_true, cond_false, B59_12, (hG.1 0 hE).1]
  have g := l_first H hs hG (rE d - 1) 1 (by omega)
  rw [show mnB (ga s) 1 = ga s 0 by rw [mnB, mnB, if_pos (by omega)]] at g
  exact g
theorem l_most (H : jEnv h j r d ca C) {s : jGS} (hs : gOk (rP d) s) (hG : GateIs d A (rP d) s) :
    ∀ m p, p + m = rE d → R 3 61 4 [some (.ref j), some (.int (nI (maxB (fun _ => true) (gf s) 0 p))), some (.int (nI p))] [] (jJ h j r A) = some (some (.int (nI (mostN d s))), jJ h j r A) := by
  have h6 := H.2.1.1
  have h4 := H.2.1.2.1
  have hr0 : RoadAt (jJ h j r A) r d := je_road H
  intro m
  induction m with
  | zero =>
    intro p hp
    obtain rfl : p = rE d := hp
    rw [B61_4]
    simp (disch := omega) only [jj_0, rd_1 hr0, obd_some, obd_none, Option.toList_some, Option.toList_none, List.cons_append, List.nil_append, cond_true, cond_false, nJ_add, nI_mul, nJ_lt, nJ_le, nI_inj, nI_lt0, nI_eq0, nI_gt0, toNat_nI, Nat.lt_irrefl, if_false]
    rfl
  | succ m ih =>
    intro p hpm
    have hp : p < rE d := by omega
    have hfp := hs.2.1 p
    have hmx := maxB_le (f := fun _ => true) (x := 0) (Nat.zero_le _) hs.2.1 p
    rw [B61_4]
    simp (disch := omega) only [jj_0, rd_1 hr0, obd_some, obd_none, Option.toList_some, Option.toList_none, List.cons_append, List.nil_append, cond_true, cond_false, nJ_add, nI_mul, nJ_lt, nJ_le, nI_inj, nI_lt0, nI_eq0, nI_gt0, toNat_nI, hp, if_true, jj_o, c_walkedBy H hp, (hG.1 p hp).2, B61_21, c_max, B61_24]
    rw [← ih (p + 1) (by omega), maxB, if_pos rfl]
theorem c_mostWalked (H : jEnv h j r d ca C) {s : jGS} (hs : gOk (rP d) s) (hG : GateIs d A (rP d) s) : mc 61 [.ref j] (jJ h j r A) = some (some (.int (nI (mostN d s))), jJ h j r A) := by
  rw [M61]
  exact l_most H hs hG (rE d) 0 (Nat.zero_add _)
end JRows7
