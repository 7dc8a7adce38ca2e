section BExpl3
variable {h : jHp} {b r : Nat} {d : jRD} {ws lp lf : Int32}
theorem expl_go (H : bEnv h b r d) (hE : 0 < rE d) (hN : (rB d + 1) ^ (rP d * rE d) ≤ 65536) {k code : Nat} (hk : k < rP d) (hlt : code * (rB d + 1) ^ (rP d * rE d - k * rE d) + (rB d + 1) ^ (rP d * rE d - k * rE d) ≤ 65536)
    (hI : ∀ code', code' * (rB d + 1) ^ (rP d * rE d - (k + 1) * rE d) + (rB d + 1) ^ (rP d * rE d - (k + 1) * rE d) ≤ 65536 → k + 1 < rP d → Expl h b r d ws lp lf (k + 1) code' (code' * (rB d + 1) ^ (rP d * rE d - (k + 1) * rE d)) ((rB d + 1) ^ (rP d * rE d - (k + 1) * rE d))) :
    Expl h b r d ws lp lf k code (code * (rB d + 1) ^ (rP d * rE d - k * rE d)) ((rB d + 1) ^ (rP d * rE d - k * rE d)) := by
  intro A AJ hS hT
  have hd := H.2.1
  have h6 := hd.1
  have h4 := hd.2.1
  have h2 := hd.2.2.1
  have h0 : (k + 1) * rE d ≤ rP d * rE d := Nat.mul_le_mul hk (Nat.le_refl _)
  have hE1 : rE d ≤ rP d * rE d := Nat.le_trans (by rw [Nat.succ_mul]; omega) h0
  have hcN : (rB d + 1) ^ rE d ≤ 65536 := Nat.le_trans (Nat.pow_le_pow_right (Nat.succ_pos _) hE1) hN
  have hcw : (rB d + 1) ^ rE d * (rB d + 1) ^ (rP d * rE d - (k + 1) * rE d) = (rB d + 1) ^ (rP d * rE d - k * rE d) := by
    rw [← Nat.pow_add, show rE d + (rP d * rE d - (k + 1) * rE d) = rP d * rE d - k * rE d by rw [Nat.succ_mul] at h0 ⊢; omega]
  have hr0 : RoadAt (bJ h b r (bR d (code * (rB d + 1) ^ (rP d * rE d - k * rE d))) ws lp lf A AJ) r d := be_road H
  rw [← hcw] at hlt hS hT ⊢
  rw [← hcw] at hr0
  obtain ⟨A2, AJ2, e1, e2, e3⟩ := l_expl (ws := ws) (lp := lp) (lf := lf) (code := code) H hE hk rfl (by omega) rfl hcw hlt hI ((rB d + 1) ^ rE d) 0 A AJ (Nat.zero_add _) hS (by rw [Nat.zero_mul, Nat.add_zero]; exact hT)
  rw [Nat.zero_mul, Nat.add_zero] at e1
  refine ⟨A2, AJ2, ?_, e2, e3⟩
  rw [← e1, M39, bb_0, obd_some, rd_o hr0, obd_some, rkE _ _ _ (by omega), cal_ok (by show (1 : Nat) < _; omega) (Nat.le_of_ble_eq_true rfl), c_hasPiece hr0 hd]
  simp (disch := omega) only [obd_some, obd_none, Option.toList_some, Option.toList_none, List.cons_append, List.nil_append, cond_true, cond_false, B39_8, b2i_0, inN_iff, hk, not_true_eq_false, if_false, bb_0, rd_2 hr0, rd_1 hr0, nJ_add]
  rw [cal_ok (by show (1 : Nat) < _; omega) (Nat.le_of_ble_eq_true rfl), c_power (show rB d + 1 ≤ 3 by omega) (show rE d ≤ 1000000 by omega), pwl_eq (Nat.succ_pos _) _ hcN]
  simp only [obd_some, obd_none, Option.toList_some, Option.toList_none, List.cons_append, List.nil_append, cond_true, cond_false, B39_31]
  rfl
theorem c_explore (H : bEnv h b r d) (hE : 0 < rE d) (hN : (rB d + 1) ^ (rP d * rE d) ≤ 65536) :
    ∀ n k code, k + n + 1 = rP d → code * (rB d + 1) ^ (rP d * rE d - k * rE d) + (rB d + 1) ^ (rP d * rE d - k * rE d) ≤ 65536 → Expl h b r d ws lp lf k code (code * (rB d + 1) ^ (rP d * rE d - k * rE d)) ((rB d + 1) ^ (rP d * rE d - k * rE d)) := by
  have hd := H.2.1
  have h6 := hd.1
  have h4 := hd.2.1
  have h2 := hd.2.2.1
  intro n
  induction n with
  | zero =>
    intro k code hkn hlt A AJ hS hT
    have hk : k < rP d := by omega
    exact expl_go H hE hN hk hlt (fun code' _ q => absurd q (by omega)) A AJ hS hT
  | succ n ih =>
    intro k code hkn hlt A AJ hS hT
    have hk : k < rP d := by omega
    exact expl_go H hE hN hk hlt (fun code' q _ => ih (k + 1) code' (by omega) q) A AJ hS hT
end BExpl3
