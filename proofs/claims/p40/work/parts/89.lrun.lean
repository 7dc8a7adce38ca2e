/-! The law's whole run. -/
section LRun
variable {x : Nat} {b L : Nat} {xs : Nat → Int32}
theorem lw_trn {S : jST} {e : Nat} {h : jHp} (I : LW x S b L xs h) (H : StI S e) (he : e < 3) (hL : L ≤ 260) :
    ∃ S' h', R 26 0 24 [some (.ref b), some (.ref x), some (.int (nI e)), none, none, none, none, none, none, none, none, none, none, none, none, none, none, none, none, none, none, none, none, none, none, none, none, none, none, none, none, none, none, none, none, none, none, none, none, none, none, none] [] h = R 26 0 24 [some (.ref b), some (.ref x), some (.int (nI (e + 1))), none, none, none, none, none, none, none, none, none, none, none, none, none, none, none, none, none, none, none, none, none, none, none, none, none, none, none, none, none, none, none, none, none, none, none, none, none, none, none] [] h' ∧ LW x S' b L xs h' ∧ StI S' (e + 1) ∧ h'.2.1 ≤ h.2.1 + 2943 ∧ h'.2.2 ≤ h.2.2 + 64836 := by
  obtain ⟨S1, h1, r, p, fr, F, d, cl, rw, few, e1, I1, H1, hD, hr, hP3, hE3, h34, hQ1, hcl, hc6, hrw, hrl, hfew, R0, u1, u2, u3, u4⟩ := l_init I H he hL
  have hz : e < zn S1 := by rw [H1.1]; omega
  have hgo := I1.1.2.1.2.2.2.2.1 e hz
  rw [hD] at hgo
  obtain ⟨hd, hP, hE, -⟩ := hgo
  obtain ⟨F2, h2, can, fe, so, e2, I2, R2, v1, v2, v3, v4⟩ := l_rows (e := e) hr hd hE hP hcl hrw hrl (by omega) rw 0 F h1 (nI 0) (-nI 9) (nI 999999) (by omega) I1 R0
  subst hrw
  have hM : ¬ many d := by show ¬ 65536 < nRows d; omega
  obtain ⟨h3, e3, I3, z3⟩ := l_three (cl := cl) I2 hz hD hM rfl R2
  obtain ⟨h4, e4, I4, z4⟩ := l_six (can := can) hr hd hE hcl (show nRows d = (rB d + 1) ^ cl by rw [hcl]; rfl) hz he hD hM hfew hc6 hrl R2.2.2 6 0 h3 (by omega) I3
  obtain ⟨h5, e5, I5, z5⟩ := l_even (cl := cl) (rw := nRows d) I4 hr hd hE hP3 hE3 h34 hQ1 hz hD hrl R2
  exact ⟨S1, h5, e1.trans (e2.trans (e3.trans (e4.trans e5))), I5.1, H1, by rw [z5, z4, z3]; omega, by rw [z5, z4, z3]; omega⟩
theorem l_last {S : jST} {h : jHp} (I : LW x S b L xs h) (H : zn S = 3) :
    ∃ h', R 26 0 24 [some (.ref b), some (.ref x), some (.int (nI 3)), none, none, none, none, none, none, none, none, none, none, none, none, none, none, none, none, none, none, none, none, none, none, none, none, none, none, none, none, none, none, none, none, none, none, none, none, none, none, none] [] h = some (some (.int (nI 1)), h') ∧ h'.2 = h.2 := by
  have hS := I.2.1
  obtain ⟨G1, o1⟩ := I.o
  have hM : mc 91 [.ref x, .int (nI 0)] h = some (some (.int (aMany S (nI 0))), h) := by
    obtain ⟨⟨dr, ra, ba, pa, W⟩, -, -⟩ := I
    exact T_many W hS (nI 0)
  have em : aMany S (nI 0) = nI 3 := by
    unfold aMany
    rw [if_pos (show inN (nI 0) 4 from inN_of (by omega) (by omega))]
    show nI (zn S) = nI 3
    rw [H]
  rw [em] at hM
  have z0 : inN (nI 0) (zn S) := by rw [H]; exact inN_of (by omega) (by omega)
  have z3 : ¬ inN (nI 3) (zn S) := by rw [H]; decide
  have z6 : ¬ inN (nI 6) (rP (zD S (nI 0).toNatClampNeg)) := by
    have := (hS.2.2.2.2.1 0 (by omega)).1.1
    show ¬ inN (nI 6) (rP (zD S 0))
    intro z
    have z2 := z.2
    rw [toInt_nI (by omega)] at z2
    omega
  obtain ⟨h1, c1, I1, K1⟩ := I.call hS (fun dr ra ba pa W => T_best W hS (nI 0) (nI 3) (-nI 9) (nI 0))
  have a1 : aBest S (nI 0) (nI 3) (-nI 9) (nI 0) = -nI 2 := by
    unfold aBest
    rw [if_pos z0, if_neg (show ¬ aimOk (nI 3) (-nI 9) from fun z => absurd z.1 (by decide))]
  rw [a1] at c1
  obtain ⟨G2, o2⟩ := I1.o
  obtain ⟨h2, c2, I2, K2⟩ := I1.call hS (fun dr ra ba pa W => T_best W hS (nI 3) (nI 0) (-nI 9) (nI 0))
  have a2 : aBest S (nI 3) (nI 0) (-nI 9) (nI 0) = -nI 1 := by
    unfold aBest
    rw [if_neg z3]
  rw [a2] at c2
  obtain ⟨G3, o3⟩ := I2.o
  obtain ⟨h3, c3, I3, K3⟩ := I2.call hS (fun dr ra ba pa W => T_row W hS (nI 0) (nI 0) (-nI 9) (nI 6) (nI 0))
  have a3 : aRow S (nI 0) (nI 0) (-nI 9) (nI 6) (nI 0) = -nI 1 := by
    unfold aRow
    rw [if_pos z0, if_neg z6]
  rw [a3] at c3
  refine ⟨h3, ?_, by rw [K3.2.2, K2.2.2, K1.2.2]⟩
  rw [B0_24, if_neg (show ¬ nI 3 < nI 3 by decide), o1, obd_some, hM]
  simp only [obd_some, obd_none, Option.toList_some, Option.toList_none, List.cons_append, List.nil_append, cond_true, cond_false]
  rw [B0_1449, if_pos rfl, o1, obd_some, c1]
  simp only [obd_some, obd_none, Option.toList_some, Option.toList_none, List.cons_append, List.nil_append, cond_true, cond_false]
  rw [B0_1462, if_pos rfl, o2, obd_some, c2]
  simp only [obd_some, obd_none, Option.toList_some, Option.toList_none, List.cons_append, List.nil_append, cond_true, cond_false]
  rw [B0_1476, if_pos rfl, o3, obd_some, c3]
  simp only [obd_some, obd_none, Option.toList_some, Option.toList_none, List.cons_append, List.nil_append, cond_true, cond_false]
  rw [B0_1491, if_pos rfl]
theorem lw_trns (hL : L ≤ 260) : ∀ m e S h, e + m = 3 → LW x S b L xs h → StI S e →
    ∃ h', R 26 0 24 [some (.ref b), some (.ref x), some (.int (nI e)), none, none, none, none, none, none, none, none, none, none, none, none, none, none, none, none, none, none, none, none, none, none, none, none, none, none, none, none, none, none, none, none, none, none, none, none, none, none, none] [] h = some (some (.int (nI 1)), h') ∧ h'.2.1 ≤ h.2.1 + 2943 * m ∧ h'.2.2 ≤ h.2.2 + 64836 * m
  | 0, e, S, h, he, I, H => by
    obtain rfl : e = 3 := he
    obtain ⟨h1, e1, z1⟩ := l_last I H.1
    exact ⟨h1, e1, by rw [z1]; omega, by rw [z1]; omega⟩
  | m + 1, e, S, h, he, I, H => by
    obtain ⟨S1, h1, e1, I1, H1, u1, u2⟩ := lw_trn I H (by omega) hL
    obtain ⟨h2, e2, v1, v2⟩ := lw_trns hL m (e + 1) S1 h1 (by omega) I1 H1
    exact ⟨h2, e1.trans e2, by omega, by omega⟩
end LRun
theorem law_run {h : jHp} {b L : Nat} {xs : Nat → Int32} (w : wf h) (s : Sa h b L xs) (hL : L ≤ 260) : ∃ h', mc 0 [.ref b] h = some (some (.int (nI 1)), h') ∧ h'.2.1 ≤ h.2.1 + 20000 ∧ h'.2.2 ≤ h.2.2 + 400000 := by
  obtain ⟨h1, e1, W1, K1, v1⟩ := T_init w
  have I1 : LW h.2.1 st0 b L xs h1 := ⟨⟨_, _, _, _, W1⟩, st0_ok, K1.2 b L xs s⟩
  obtain ⟨G1, o1⟩ := I1.o
  have es : rSheet st0 (nI 0) (nI 0) (nI 120) = (nI 1, setS (setF st0 0) 0 (rnw (zS st0 0) (some 0) 120 120)) := by
    unfold rSheet
    rw [if_pos (show inN (nI 0) 4 from inN_of (by omega) (by omega)), if_pos (show inN (nI 0) 3 from inN_of (by omega) (by omega)), if_neg (show ¬ nI 120 < nI 120 by decide), if_neg (show ¬ nI 120 < 0 by decide), toNat_nI (show 0 < 2147483648 by omega), toNat_nI (show 120 < 2147483648 by omega)]
  have hS2 : stOk (setS (setF st0 0) 0 (rnw (zS st0 0) (some 0) 120 120)) := stOk_S (stOk_F st0_ok (by omega)) (sdOk_rnw (by omega) (fun z => by cases z) (fun y z => by cases z; omega) 120)
  obtain ⟨h2, e2, I2, K2⟩ := I1.call hS2 (rc := mc 89 [.ref h.2.1, .int (nI 0), .int (nI 0), .int (nI 120)] h1) (v := .int (nI 1)) (fun dr ra ba pa W => by
    have := T_sheet W st0_ok (nI 0) (nI 0) (nI 120)
    rw [es] at this
    exact this)
  obtain ⟨h3, e3, u1, u2⟩ := lw_trns hL 3 0 _ h2 (by omega) I2 ⟨rfl, rfl, rfl, fun i hi => absurd hi (Nat.not_lt_zero i)⟩
  refine ⟨h3, ?_, ?_, ?_⟩
  · rw [M0, show mc 1 [.ref h.2.1] (newO h 7) = some (none, h1) from e1]
    simp only [obd_some, obd_none, Option.toList_some, Option.toList_none, List.cons_append, List.nil_append, cond_true, cond_false]
    rw [B0_7, o1, obd_some, e2]
    simp only [obd_some, obd_none, Option.toList_some, Option.toList_none, List.cons_append, List.nil_append, cond_true, cond_false]
    rw [B0_16, if_pos rfl]
    exact e3
  · rw [K2.2.2, v1] at u1; dsimp only at u1; omega
  · rw [K2.2.2, v1] at u2; dsimp only at u2; omega
