section RoadCell
variable {h : jHp} {r : Nat} {d : jRD}
theorem c_cellOfCode (H : RoadAt h r d) (hd : rdOk d) {code k p : Nat} (hk : k < rP d) (hp : p < rE d) (hc : code < 100000) (hN : nRows d ≤ 65536) : mc 71 [.ref r, .int (nI code), .int (nI k), .int (nI p)] h = some (some (.int (nI (dg d code (k * rE d + p)))), h) := by
  have h6 := hd.1
  have h4 := hd.2.1
  have h2 := hd.2.2.1
  have h24 := cells_le hd
  have hkE : k * rE d + rE d ≤ rP d * rE d := by rw [← Nat.succ_mul]; exact Nat.mul_le_mul hk (Nat.le_refl _)
  have hu : (rB d + 1) ^ (rP d * rE d - 1 - k * rE d - p) ≤ 65536 := Nat.le_trans (Nat.pow_le_pow_right (Nat.succ_pos _) (by omega)) hN
  have hu0 : 0 < (rB d + 1) ^ (rP d * rE d - 1 - k * rE d - p) := Nat.pow_pos (Nat.succ_pos _)
  have hq : code / (rB d + 1) ^ (rP d * rE d - 1 - k * rE d - p) ≤ code := Nat.div_le_self _ _
  rw [M71]
  simp only [rd_2 H, obd_some, obd_none, Option.toList_some, Option.toList_none, List.cons_append, List.nil_append, cond_true, cond_false, rd_o H, c_cellsOfPlan H, B71_14, rd_1 H, nJ_add, nI_mul]
  rw [nI_sub (show 1 ≤ rP d * rE d by omega), nI_sub (show k * rE d ≤ rP d * rE d - 1 by omega), nI_sub (show p ≤ rP d * rE d - 1 - k * rE d by omega), c_power (show rB d + 1 ≤ 3 by omega) (by omega), pwl_eq (Nat.succ_pos _) _ hu]
  simp only [obd_some, obd_none, Option.toList_some, Option.toList_none, List.cons_append, List.nil_append, cond_true, cond_false, B71_28]
  generalize hU : (rB d + 1) ^ (rP d * rE d - 1 - k * rE d - p) = u at hu hu0 hq ⊢
  rw [if_neg (show ¬ nI u < nI 1 by rw [nJ_lt (by omega) (by omega)]; omega), if_neg (show ¬ nI (rB d + 1) < nI 1 by rw [nJ_lt (by omega) (by omega)]; omega), if_neg (show ¬ nI u = 0 by rw [nI_eq0 (by omega)]; omega), if_neg (show ¬ nI (rB d + 1) = 0 by rw [nI_eq0 (by omega)]; omega), nI_div (by omega) (by omega), nI_mod (by omega) (by omega), B71_53]
  unfold dg
  rw [← hU, show rP d * rE d - 1 - (k * rE d + p) = rP d * rE d - 1 - k * rE d - p by omega]
end RoadCell
