/-! Calls that answer with longs. -/
section GvD
variable {x dr : Nat} {S : jST} {ra ba pa : Nat → Nat} {h : jHp}
def Gv (x dr : Nat) (ra ba pa : Nat → Nat) (S' : jST) (h : jHp) (r : jRs) (v : Value) : Prop := ∃ h', r = some (some v, h') ∧ XW x S' dr ra ba pa h' ∧ Keep0 h h'
theorem Gv.same (W : XW x S dr ra ba pa h) {r : jRs} {v : Value} (e : r = some (some v, h)) : Gv x dr ra ba pa S h r v := ⟨h, e, W, Keep0.id h⟩
end GvD
def lostJ : Int64 := -lN 9223372036854775808
def hlf (q : Nat × Nat) (w : Int32) : Int64 := if w = nI 0 then lN q.1 else lN q.2
def evnA (d : jRD) : Nat × Nat := red ((evn d).1 * sumN (rM d) (rP d)) (evn d).2
def aEven (S : jST) (v w : Int32) : Int64 := if inN v (zn S) then (if inN w 2 then (if rB (zD S v.toNatClampNeg) = 0 then lostJ else hlf (evnA (zD S v.toNatClampNeg)) w) else lostJ) else lostJ
def aShare (S : jST) (v p w : Int32) : Int64 := if inN v (zn S) then (if inN p (rE (zD S v.toNatClampNeg)) then (if inN w 2 then (if rB (zD S v.toNatClampNeg) = 0 then lostJ else hlf (ridn (zD S v.toNatClampNeg) p.toNatClampNeg (evn (zD S v.toNatClampNeg))) w) else lostJ) else lostJ) else lostJ
theorem red_step {a b c e : Nat} (hb : 0 < b) (he : 0 < e) : red ((red a b).1 * c) ((red a b).2 * e) = red (a * c) (b * e) := by
  have h1 := red_cross (a := a) hb
  refine red_eq (Nat.mul_pos (red_pos hb) he) (Nat.mul_pos hb he) ?_
  calc (red a b).1 * c * (b * e) = ((red a b).1 * b) * (c * e) := by rw [Nat.mul_mul_mul_comm]
    _ = a * (red a b).2 * (c * e) := by rw [h1]
    _ = a * c * ((red a b).2 * e) := by rw [Nat.mul_mul_mul_comm]
theorem c_noHalf (w : Int32) (h : jHp) : mc 77 [.int w] h = some (some (.int (b2i (¬ inN w 2))), h) := by
  rw [M77]
  unfold b2i
  by_cases w0 : w = nI 0
  · subst w0
    rw [if_pos (show nI 0 = 0 from rfl), if_neg (not_not_intro (inN_of (by decide) (by decide)))]
  · rw [if_neg (show ¬ w = 0 from w0)]
    by_cases w1 : w = nI 1
    · subst w1
      rw [if_pos rfl, if_neg (not_not_intro (inN_of (by decide) (by decide)))]
    · rw [if_neg w1, if_pos]
      intro z
      obtain ⟨t, ht, rfl⟩ := inN_nI z
      rcases (by omega : t = 0 ∨ t = 1) with rfl | rfl
      · exact w0 rfl
      · exact w1 rfl
theorem c_half {h : jHp} {s : Nat} {q : Nat × Nat} (H : ShareAt h s q) {w : Int32} (hw : inN w 2) : mc 86 [.ref s, .int w] h = some (some (.long (hlf q w)), h) := by
  obtain ⟨t, ht, rfl⟩ := inN_nI hw
  unfold hlf
  rcases (by omega : t = 0 ∨ t = 1) with rfl | rfl
  · rw [if_pos rfl]; exact c_half0 H
  · rw [if_neg (show ¬ nI 1 = nI 0 by decide)]; exact c_half1 H
section TLong
variable {x dr : Nat} {S : jST} {ra ba pa : Nat → Nat} {h : jHp}
theorem evn_ok {d : jRD} (hd : rdOk d) : qOk (evn d) := evG_ok hd _ (by have := Nat.one_le_two_pow (n := rE d); omega)
theorem T_even (W : XW x S dr ra ba pa h) (hS : stOk S) (v w : Int32) : Gv x dr ra ba pa S h (mc 76 [.ref x, .int v, .int w] h) (.long (aEven S v w)) := by
  have h3 := hS.1
  rw [M76, xw_o W, obd_some]
  unfold aEven
  by_cases hv : inN v (zn S)
  · obtain ⟨i, hi, rfl⟩ := inN_nI hv
    have R0 := xw_road W hi
    have hd := (hS.2.2.2.2.1 i hi).1
    have h2 := hd.2.2.1
    have h6 := hd.1
    rw [if_pos hv, c_roadOf W hS hi, toNat_nI (by omega)]
    simp only [obd_some, obd_none, Option.toList_some, Option.toList_none, List.cons_append, List.nil_append, cond_true, cond_false, B76_5r, c_noHalf, B76_14r, b2i_0]
    by_cases hw : inN w 2
    · rw [if_pos (not_not_intro hw), if_pos hw, rd_2 R0, obd_some]
      by_cases hB : rB (zD S i) = 0
      · rw [if_pos (show nI (rB (zD S i)) = 0 by rw [hB]; rfl), if_pos hB]
        exact Gv.same W rfl
      · obtain ⟨q0, H0⟩ := W.2.2.1
        rw [if_neg (show ¬ nI (rB (zD S i)) = 0 by rw [nI_eq0 (by omega)]; exact hB), if_neg hB, xw_4 W, obd_some, se_o H0, obd_some, c_becomeEven H0 R0 hd (by omega) (by have := H0.apart R0 (H0.nc R0 (by decide)); simp only [oN] at this; omega)]
        simp only [obd_some, obd_none, Option.toList_some, Option.toList_none, List.cons_append, List.nil_append, cond_true, cond_false, B76_36r]
        have W1 := W.share (evn (zD S i))
        have H1 : ShareAt (hX 5 h (x + 5) (shF (evn (zD S i))) zA) (x + 5) (evn (zD S i)) := At.own _ _ _ _ _
        have R1 := xw_road W1 hi
        obtain ⟨k0, k1, k2⟩ := evn_ok hd
        have hall := sumN_le hd.2.2.2.1 (rP (zD S i))
        have hb : (evn (zD S i)).1 * sumN (rM (zD S i)) (rP (zD S i)) ≤ 400000000 * 54 := Nat.mul_le_mul k1 (by omega)
        rw [xw_4 W1, obd_some, obd_some, se_0 H1, obd_some, rd_o R1, obd_some, c_allMiles R1 hd]
        simp only [obd_some, obd_none, Option.toList_some, Option.toList_none, List.cons_append, List.nil_append, cond_true, cond_false, B76_51r]
        rw [xw_4 W1, obd_some, se_1 H1, obd_some, se_o H1, obd_some, nI_l (by omega), lN_mul, c_become H1 k0 (by omega) (by omega)]
        simp only [obd_some, obd_none, Option.toList_some, Option.toList_none, List.cons_append, List.nil_append, cond_true, cond_false, B76_63r, hX_hX]
        have W2 := W.share (evnA (zD S i))
        have H2 : ShareAt (hX 5 h (x + 5) (shF (evnA (zD S i))) zA) (x + 5) (evnA (zD S i)) := At.own _ _ _ _ _
        refine ⟨hX 5 h (x + 5) (shF (evnA (zD S i))) zA, ?_, W2, Keep0.mv H0 (by decide) _ _⟩
        show obd none (gA (hX 5 h (x + 5) (shF (evnA (zD S i))) zA) x 7 4) _ = _
        rw [xw_4 W2, obd_some]
        show obd none (gO (hX 5 h (x + 5) (shF (evnA (zD S i))) zA) (x + 5) 5) _ = _
        rw [se_o H2, obd_some]
        show obd none (mc 86 [.ref (x + 5), .int w] (hX 5 h (x + 5) (shF (evnA (zD S i))) zA)) _ = _
        rw [c_half H2 hw]
        simp only [obd_some, obd_none, Option.toList_some, Option.toList_none, List.cons_append, List.nil_append, cond_true, cond_false, B76_71r]
    · rw [if_neg (show ¬ ¬ ¬ inN w 2 from fun z => z hw), if_neg hw]
      exact Gv.same W rfl
  · rw [if_neg hv, c_roadNo W hS hv]
    simp only [obd_some, obd_none, Option.toList_some, Option.toList_none, List.cons_append, List.nil_append, cond_true, cond_false, B76_5n]
    exact Gv.same W rfl
theorem T_share (W : XW x S dr ra ba pa h) (hS : stOk S) (v p w : Int32) : Gv x dr ra ba pa S h (mc 87 [.ref x, .int v, .int p, .int w] h) (.long (aShare S v p w)) := by
  have h3 := hS.1
  rw [M87, xw_o W, obd_some]
  unfold aShare
  by_cases hv : inN v (zn S)
  · obtain ⟨i, hi, rfl⟩ := inN_nI hv
    have R0 := xw_road W hi
    have hd := (hS.2.2.2.2.1 i hi).1
    have h2 := hd.2.2.1
    have h4 := hd.2.1
    rw [if_pos hv, c_roadOf W hS hi, toNat_nI (by omega)]
    simp only [obd_some, obd_none, Option.toList_some, Option.toList_none, List.cons_append, List.nil_append, cond_true, cond_false, B87_5r, rd_o R0, c_hasPerson R0 hd, B87_18r, b2i_0]
    by_cases hp : inN p (rE (zD S i))
    · obtain ⟨u, hu, rfl⟩ := inN_nI hp
      rw [if_neg (not_not_intro hp), if_pos hp, toNat_nI (by omega), c_noHalf]
      simp only [obd_some, obd_none, Option.toList_some, Option.toList_none, List.cons_append, List.nil_append, cond_true, cond_false, B87_25r, b2i_0]
      by_cases hw : inN w 2
      · rw [if_pos (not_not_intro hw), if_pos hw, rd_2 R0, obd_some]
        by_cases hB : rB (zD S i) = 0
        · rw [if_pos (show nI (rB (zD S i)) = 0 by rw [hB]; rfl), if_pos hB, B87_36, B87_39]
          exact Gv.same W rfl
        · obtain ⟨q0, H0⟩ := W.2.2.1
          rw [if_neg (show ¬ nI (rB (zD S i)) = 0 by rw [nI_eq0 (by omega)]; exact hB), if_neg hB, xw_4 W, obd_some, se_o H0, obd_some, c_becomeEven H0 R0 hd (by omega) (by have := H0.apart R0 (H0.nc R0 (by decide)); simp only [oN] at this; omega)]
          simp only [obd_some, obd_none, Option.toList_some, Option.toList_none, List.cons_append, List.nil_append, cond_true, cond_false, B87_49r]
          have W1 := W.share (evn (zD S i))
          have H1 : ShareAt (hX 5 h (x + 5) (shF (evn (zD S i))) zA) (x + 5) (evn (zD S i)) := At.own _ _ _ _ _
          have R1 := xw_road W1 hi
          rw [xw_4 W1, obd_some, se_o H1, obd_some, c_becomeRidden H1 R1 hd (by omega) (evn_ok hd) hu]
          simp only [obd_some, obd_none, Option.toList_some, Option.toList_none, List.cons_append, List.nil_append, cond_true, cond_false, B87_59r, hX_hX]
          have W2 := W.share (ridn (zD S i) u (evn (zD S i)))
          have H2 : ShareAt (hX 5 h (x + 5) (shF (ridn (zD S i) u (evn (zD S i)))) zA) (x + 5) (ridn (zD S i) u (evn (zD S i))) := At.own _ _ _ _ _
          rw [xw_4 W2, obd_some, se_o H2, obd_some, c_half H2 hw]
          simp only [obd_some, obd_none, Option.toList_some, Option.toList_none, List.cons_append, List.nil_append, cond_true, cond_false, B87_67r]
          exact ⟨_, rfl, W2, Keep0.mv H0 (by decide) _ _⟩
      · rw [if_neg (show ¬ ¬ ¬ inN w 2 from fun z => z hw), if_neg hw, B87_36, B87_39]
        exact Gv.same W rfl
    · rw [if_pos hp, if_neg hp, B87_36, B87_39]
      exact Gv.same W rfl
  · rw [if_neg hv, c_roadNo W hS hv]
    simp only [obd_some, obd_none, Option.toList_some, Option.toList_none, List.cons_append, List.nil_append, cond_true, cond_false, B87_5n, B87_36, B87_39]
    exact Gv.same W rfl
end TLong
