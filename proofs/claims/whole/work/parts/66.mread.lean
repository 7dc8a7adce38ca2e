/-! The reference's calls that look. -/
theorem MR.f0 {S : jST} {F : Nat → Value} {A : Nat → Nat → Int32} (H : MR S F A) (f : Nat) : MR (setF S f) (updV F 0 (.int (nI f))) A :=
  ⟨⟨rfl, H.1.2.1, H.1.2.2.1, H.1.2.2.2.1, H.1.2.2.2.2⟩, H.2⟩
theorem MR.g0 {S : jST} {F : Nat → Value} {A : Nat → Nat → Int32} (H : MR S F A) (g : Nat) : MR (setG S g) (updV F 20 (.int (nI g))) A :=
  ⟨⟨H.1.1, H.1.2.1, rfl, H.1.2.2.2.1, H.1.2.2.2.2⟩, H.2⟩
theorem MR.t0 {S : jST} {F : Nat → Value} {A : Nat → Nat → Int32} (H : MR S F A) (t : Int32) : MR (setT S t) (updV F 44 (.int t)) A :=
  ⟨⟨H.1.1, H.1.2.1, H.1.2.2.1, H.1.2.2.2.1, rfl⟩, H.2⟩
section MRead
variable {h : jHp} {m : Nat} {S : jST} {F : Nat → Value} {A : Nat → Nat → Int32}
theorem Mv.same (R0 : MR S F A) {r : jRs} {v : Value} (e : r = some (some v, hX 8 h m F A)) : Mv m S h r v := ⟨F, A, e, R0⟩
theorem c_refused (v : Int32) : mc 145 [.ref m, .int v] (hX 8 h m F A) = some (some (.int v), hX 8 h m (updV F 0 (.int (nI 0))) A) := by
  rw [M145, p8_0, obd_some]
theorem c_mfailed (f : Nat) : mc 148 [.ref m, .int (nI f)] (hX 8 h m F A) = some (some (.int (fI f)), hX 8 h m (updV F 0 (.int (nI f))) A) := by
  rw [M148, p8_0, obd_some]; rfl
theorem c_failedLong (f : Nat) : mc 218 [.ref m, .int (nI f)] (hX 8 h m F A) = some (some (.long lostJ), hX 8 h m (updV F 0 (.int (nI f))) A) := by
  rw [M218, p8_0, obd_some, M197]
  simp only [obd_some, obd_none, Option.toList_some, Option.toList_none, List.cons_append, List.nil_append, cond_true, cond_false, B218_8]; rfl
theorem c_traced (R0 : MR S F A) (n : Int32) : mc 221 [.ref m, .int n] (hX 8 h m F A) = some (none, hX 8 h m (updV F 44 (.int (lv (zt S) n))) A) := by
  rw [M221, x8_44, R0.1.2.2.2.2, vI_i, obd_some, p8_44, obd_some]; rfl
theorem M_ofRoad (R0 : MR S F A) (hS : stOk S) (v w : Int32) : Mv m S h (mc 158 [.ref m, .int v, .int w] (hX 8 h m F A)) (.int (aOfRoad S v w)) := by
  have h3 := hS.1
  refine Mv.same R0 ?_
  rw [M158, m_o, obd_some, c_noRoad R0 hS]
  simp only [obd_some, obd_none, Option.toList_some, Option.toList_none, List.cons_append, List.nil_append, cond_true, cond_false, B158_5, b2i_0]
  unfold aOfRoad
  by_cases hv : inN v (zn S)
  · obtain ⟨i, hi, rfl⟩ := inN_nI hv
    have D0 := R0.2.1 i hi
    have hd := (hS.2.2.2.2.1 i hi).1
    rw [if_pos (not_not_intro hv), if_pos hv, toNat_nI (by omega), B158_11]
    by_cases hw : inN w 6
    · obtain ⟨t, ht, rfl⟩ := inN_nI hw
      rw [if_pos hw, toNat_nI (by omega), swT_in (by omega) (by omega)]
      rcases (by omega : t = 0 ∨ t = 1 ∨ t = 2 ∨ t = 3 ∨ t = 4 ∨ t = 5) with rfl | rfl | rfl | rfl | rfl | rfl
      · exact (B158_48 _ _ _ _).trans (by rw [x8_2, obd_some, m_1 (by omega), D0.1]; rfl)
      · exact (B158_55 _ _ _ _).trans (by rw [x8_3, obd_some, m_2 (by omega), D0.2.1]; rfl)
      · exact (B158_62 _ _ _ _).trans (by rw [x8_4, obd_some, m_3 (by omega), D0.2.2.1]; rfl)
      · refine (B158_69 _ _ _ _).trans ?_
        rw [m_o, obd_some, c_mAll D0 hd (by omega)]
        simp only [obd_some, obd_none, Option.toList_some, Option.toList_none, List.cons_append, List.nil_append, cond_true, cond_false, B158_74]
        rfl
      · exact (B158_75 _ _ _ _).trans (by rw [x8_9, obd_some, m_8 (by omega), D0.2.2.2.2.2.2.1]; rfl)
      · exact (B158_82 _ _ _ _).trans (by rw [x8_10, obd_some, m_9 (by omega), D0.2.2.2.2.2.2.2]; rfl)
    · rw [if_neg hw, swT_out (fun z => hw ⟨z.1, by omega⟩)]
      exact B158_89 _ _ _ _
  · rw [if_neg (show ¬ ¬ ¬ _ from fun z => z hv), if_neg hv]
theorem M_ofPiece (R0 : MR S F A) (hS : stOk S) (v k w : Int32) : Mv m S h (mc 161 [.ref m, .int v, .int k, .int w] (hX 8 h m F A)) (.int (aOfPiece S v k w)) := by
  have h3 := hS.1
  refine Mv.same R0 ?_
  rw [M161, m_o, obd_some]
  unfold aOfPiece
  by_cases hv : inN v (zn S)
  · obtain ⟨i, hi, rfl⟩ := inN_nI hv
    have D0 := R0.2.1 i hi
    have h6 := (hS.2.2.2.2.1 i hi).1.1
    rw [c_noPiece R0 hS hi, if_pos hv, toNat_nI (by omega)]
    simp only [obd_some, obd_none, Option.toList_some, Option.toList_none, List.cons_append, List.nil_append, cond_true, cond_false, B161_6, b2i_0]
    by_cases hk : inN k (rP (zD S i))
    · obtain ⟨t, ht, rfl⟩ := inN_nI hk
      rw [if_pos (not_not_intro hk), if_pos hk, toNat_nI (by omega), x8_5, obd_some, x8_6, obd_some, nI_mul, nJ_add, m_4 (by omega), obd_some, m_5 (by omega), obd_some, (D0.2.2.2.1 t ht).1, (D0.2.2.2.1 t ht).2]
      by_cases w0 : w = nI 0
      · rw [if_pos (show w = 0 from w0), if_pos w0]
      · rw [if_neg (show ¬ w = 0 from w0), if_neg w0]
        by_cases w1 : w = nI 1
        · rw [if_pos w1, if_pos w1]
        · rw [if_neg w1, if_neg w1]
    · rw [if_neg (fun z => z hk), if_neg hk]
  · rw [c_noPieceNo R0 hS hv, if_neg hv]
    simp only [obd_some, obd_none, Option.toList_some, Option.toList_none, List.cons_append, List.nil_append, cond_true, cond_false, B161_6]
    rw [if_neg (show ¬ nI 1 = 0 by decide)]
theorem M_ofPerson (R0 : MR S F A) (hS : stOk S) (v p w : Int32) : Mv m S h (mc 163 [.ref m, .int v, .int p, .int w] (hX 8 h m F A)) (.int (aOfPerson S v p w)) := by
  have h3 := hS.1
  refine Mv.same R0 ?_
  rw [M163, m_o, obd_some]
  unfold aOfPerson
  by_cases hv : inN v (zn S)
  · obtain ⟨i, hi, rfl⟩ := inN_nI hv
    have D0 := R0.2.1 i hi
    have hd := (hS.2.2.2.2.1 i hi).1
    have h4 := hd.2.1
    rw [c_noPerson R0 hS hi, if_pos hv, toNat_nI (by omega)]
    simp only [obd_some, obd_none, Option.toList_some, Option.toList_none, List.cons_append, List.nil_append, cond_true, cond_false, B163_6, b2i_0]
    by_cases hk : inN p (rE (zD S i))
    · obtain ⟨t, ht, rfl⟩ := inN_nI hk
      rw [if_pos (not_not_intro hk), if_pos hk, toNat_nI (by omega), c_inN w (by decide)]
      simp only [obd_some, obd_none, Option.toList_some, Option.toList_none, List.cons_append, List.nil_append, cond_true, cond_false, B163_20, b2i_0]
      by_cases hw : inN w 4
      · obtain ⟨u, hu, rfl⟩ := inN_nI hw
        rw [if_neg (not_not_intro hw), if_pos hw, m_o, obd_some, c_ofP D0 hd (by omega) ht hu, toNat_nI (by omega)]
        simp only [obd_some, obd_none, Option.toList_some, Option.toList_none, List.cons_append, List.nil_append, cond_true, cond_false, B163_30]
      · rw [if_pos hw, if_neg hw]
    · rw [if_neg (fun z => z hk), if_neg hk]
  · rw [c_noPersonNo R0 hS hv, if_neg hv]
    simp only [obd_some, obd_none, Option.toList_some, Option.toList_none, List.cons_append, List.nil_append, cond_true, cond_false, B163_6]
    rw [if_neg (show ¬ nI 1 = 0 by decide)]
theorem M_ofBeast (R0 : MR S F A) (hS : stOk S) (v p w : Int32) : Mv m S h (mc 166 [.ref m, .int v, .int p, .int w] (hX 8 h m F A)) (.int (aOfBeast S v p w)) := by
  have h3 := hS.1
  refine Mv.same R0 ?_
  rw [M166, m_o, obd_some]
  unfold aOfBeast
  by_cases hv : inN v (zn S)
  · obtain ⟨i, hi, rfl⟩ := inN_nI hv
    have D0 := R0.2.1 i hi
    have hd := (hS.2.2.2.2.1 i hi).1
    have h4 := hd.2.2.1
    rw [c_noBeast R0 hS hi, if_pos hv, toNat_nI (by omega)]
    simp only [obd_some, obd_none, Option.toList_some, Option.toList_none, List.cons_append, List.nil_append, cond_true, cond_false, B166_6, b2i_0]
    by_cases hk : inN p (rB (zD S i))
    · obtain ⟨t, ht, rfl⟩ := inN_nI hk
      rw [if_pos (not_not_intro hk), if_pos hk, toNat_nI (by omega), c_inN w (by decide)]
      simp only [obd_some, obd_none, Option.toList_some, Option.toList_none, List.cons_append, List.nil_append, cond_true, cond_false, B166_20, b2i_0]
      by_cases hw : inN w 6
      · obtain ⟨u, hu, rfl⟩ := inN_nI hw
        rw [if_neg (not_not_intro hw), if_pos hw, m_o, obd_some, c_ofB D0 hd (by omega) ht hu, toNat_nI (by omega)]
        simp only [obd_some, obd_none, Option.toList_some, Option.toList_none, List.cons_append, List.nil_append, cond_true, cond_false, B166_30]
      · rw [if_pos hw, if_neg hw]
    · rw [if_neg (fun z => z hk), if_neg hk]
  · rw [c_noBeastNo R0 hS hv, if_neg hv]
    simp only [obd_some, obd_none, Option.toList_some, Option.toList_none, List.cons_append, List.nil_append, cond_true, cond_false, B166_6]
    rw [if_neg (show ¬ nI 1 = 0 by decide)]
theorem M_walks (R0 : MR S F A) (hS : stOk S) (v p k : Int32) : Mv m S h (mc 170 [.ref m, .int v, .int p, .int k] (hX 8 h m F A)) (.int (aWalks S v p k)) := by
  have h3 := hS.1
  refine Mv.same R0 ?_
  rw [M170, m_o, obd_some]
  unfold aWalks
  by_cases hv : inN v (zn S)
  · obtain ⟨i, hi, rfl⟩ := inN_nI hv
    have D0 := R0.2.1 i hi
    have hd := (hS.2.2.2.2.1 i hi).1
    have h4 := hd.2.1
    have h6 := hd.1
    rw [c_noPerson R0 hS hi, if_pos hv, toNat_nI (by omega)]
    simp only [obd_some, obd_none, Option.toList_some, Option.toList_none, List.cons_append, List.nil_append, cond_true, cond_false, B170_6, b2i_0]
    by_cases hp : inN p (rE (zD S i))
    · obtain ⟨t, ht, rfl⟩ := inN_nI hp
      rw [if_pos (not_not_intro hp), if_pos hp, toNat_nI (by omega), m_o, obd_some, c_noPiece R0 hS hi]
      simp only [obd_some, obd_none, Option.toList_some, Option.toList_none, List.cons_append, List.nil_append, cond_true, cond_false, B170_15, b2i_0]
      by_cases hk : inN k (rP (zD S i))
      · obtain ⟨u, hu, rfl⟩ := inN_nI hk
        rw [if_pos (not_not_intro hk), if_pos hk, m_o, obd_some, c_walkingTime D0 hd (by omega) ht hu, toNat_nI (by omega)]
        simp only [obd_some, obd_none, Option.toList_some, Option.toList_none, List.cons_append, List.nil_append, cond_true, cond_false, B170_29]
      · rw [if_neg (fun z => z hk), if_neg hk, B170_29]
    · rw [if_neg (fun z => z hp), if_neg hp, B170_29]
  · rw [c_noPersonNo R0 hS hv, if_neg hv]
    simp only [obd_some, obd_none, Option.toList_some, Option.toList_none, List.cons_append, List.nil_append, cond_true, cond_false, B170_6]
    rw [if_neg (show ¬ nI 1 = 0 by decide), B170_29]
theorem M_rides (R0 : MR S F A) (hS : stOk S) (v p k : Int32) : Mv m S h (mc 172 [.ref m, .int v, .int p, .int k] (hX 8 h m F A)) (.int (aRides S v p k)) := by
  have h3 := hS.1
  refine Mv.same R0 ?_
  rw [M172, m_o, obd_some]
  unfold aRides
  by_cases hv : inN v (zn S)
  · obtain ⟨i, hi, rfl⟩ := inN_nI hv
    have D0 := R0.2.1 i hi
    have hd := (hS.2.2.2.2.1 i hi).1
    have h4 := hd.2.2.1
    have h6 := hd.1
    rw [c_noBeast R0 hS hi, if_pos hv, toNat_nI (by omega)]
    simp only [obd_some, obd_none, Option.toList_some, Option.toList_none, List.cons_append, List.nil_append, cond_true, cond_false, B172_6, b2i_0]
    by_cases hp : inN p (rB (zD S i))
    · obtain ⟨t, ht, rfl⟩ := inN_nI hp
      rw [if_pos (not_not_intro hp), if_pos hp, toNat_nI (by omega), m_o, obd_some, c_noPiece R0 hS hi]
      simp only [obd_some, obd_none, Option.toList_some, Option.toList_none, List.cons_append, List.nil_append, cond_true, cond_false, B172_15, b2i_0]
      by_cases hk : inN k (rP (zD S i))
      · obtain ⟨u, hu, rfl⟩ := inN_nI hk
        rw [if_pos (not_not_intro hk), if_pos hk, m_o, obd_some, c_ridingTime D0 hd (by omega) ht hu, toNat_nI (by omega)]
        simp only [obd_some, obd_none, Option.toList_some, Option.toList_none, List.cons_append, List.nil_append, cond_true, cond_false, B172_29]
      · rw [if_neg (fun z => z hk), if_neg hk, B172_29]
    · rw [if_neg (fun z => z hp), if_neg hp, B172_29]
  · rw [c_noBeastNo R0 hS hv, if_neg hv]
    simp only [obd_some, obd_none, Option.toList_some, Option.toList_none, List.cons_append, List.nil_append, cond_true, cond_false, B172_6]
    rw [if_neg (show ¬ nI 1 = 0 by decide), B172_29]
theorem M_ofPlan (R0 : MR S F A) (hS : stOk S) (v w : Int32) : Mv m S h (mc 176 [.ref m, .int v, .int w] (hX 8 h m F A)) (.int (aOfPlan S v w)) := by
  have h3 := hS.2.1
  refine Mv.same R0 ?_
  rw [M176, m_o, obd_some, c_noPlan R0 hS]
  simp only [obd_some, obd_none, Option.toList_some, Option.toList_none, List.cons_append, List.nil_append, cond_true, cond_false, B176_5, b2i_0]
  unfold aOfPlan
  by_cases hv : inN v (zm S)
  · obtain ⟨i, hi, rfl⟩ := inN_nI hv
    have P0 := R0.2.2.1 i hi
    rw [if_pos (not_not_intro hv), if_pos hv, toNat_nI (by omega), B176_11]
    by_cases hw : inN w 4
    · obtain ⟨t, ht, rfl⟩ := inN_nI hw
      rw [if_pos hw, toNat_nI (by omega), swT_in (by omega) (by omega)]
      rcases (by omega : t = 0 ∨ t = 1 ∨ t = 2 ∨ t = 3) with rfl | rfl | rfl | rfl
      · exact (B176_40 _ _ _ _).trans (by rw [x8_22, obd_some, m_14 (by omega), P0.1]; rfl)
      · exact (B176_47 _ _ _ _).trans (by rw [x8_23, obd_some, m_15 (by omega), P0.2.1]; rfl)
      · exact (B176_54 _ _ _ _).trans (by rw [x8_24, obd_some, m_16 (by omega), P0.2.2.1]; rfl)
      · exact (B176_61 _ _ _ _).trans (by rw [x8_25, obd_some, m_17 (by omega), P0.2.2.2.1]; rfl)
    · rw [if_neg hw, swT_out (fun z => hw ⟨z.1, by omega⟩)]
      exact B176_68 _ _ _ _
  · rw [if_neg (show ¬ ¬ ¬ _ from fun z => z hv), if_neg hv]
theorem M_does (R0 : MR S F A) (hS : stOk S) (v k p : Int32) : Mv m S h (mc 178 [.ref m, .int v, .int k, .int p] (hX 8 h m F A)) (.int (aDoes S v k p)) := by
  have h3 := hS.2.1
  have hz := hS.1
  refine Mv.same R0 ?_
  rw [M178, m_o, obd_some, c_noPlan R0 hS]
  simp only [obd_some, obd_none, Option.toList_some, Option.toList_none, List.cons_append, List.nil_append, cond_true, cond_false, B178_5, b2i_0]
  unfold aDoes
  by_cases hv : inN v (zm S)
  · obtain ⟨i, hi, rfl⟩ := inN_nI hv
    have P0 := R0.2.2.1 i hi
    have hx := (hS.2.2.2.2.2.1 i hi).1
    have D0 := R0.2.1 _ hx
    have hd := (hS.2.2.2.2.1 _ hx).1
    have h4 := hd.2.1
    have h6 := hd.1
    rw [if_pos (not_not_intro hv), if_pos hv, toNat_nI (by omega), x8_23, obd_some, m_15 (by omega), obd_some, P0.2.1, m_o, obd_some, c_noPiece R0 hS hx]
    simp only [obd_some, obd_none, Option.toList_some, Option.toList_none, List.cons_append, List.nil_append, cond_true, cond_false, B178_19, b2i_0]
    by_cases hk : inN k (rP (zD S (pX (zP S i))))
    · obtain ⟨t, ht, rfl⟩ := inN_nI hk
      rw [if_pos (not_not_intro hk), if_pos (show inN (nI t) (rP (zR S i)) from hk), x8_23, obd_some, m_15 (by omega), obd_some, P0.2.1, m_o, obd_some, c_noPerson R0 hS hx]
      simp only [obd_some, obd_none, Option.toList_some, Option.toList_none, List.cons_append, List.nil_append, cond_true, cond_false, B178_33, b2i_0]
      by_cases hp : inN p (rE (zD S (pX (zP S i))))
      · obtain ⟨u, hu, rfl⟩ := inN_nI hp
        have hkE : t * rE (zD S (pX (zP S i))) + rE (zD S (pX (zP S i))) ≤ rP (zD S (pX (zP S i))) * rE (zD S (pX (zP S i))) := by rw [← Nat.succ_mul]; exact Nat.mul_le_mul ht (Nat.le_refl _)
        have h24 := cells_le hd
        rw [if_pos (not_not_intro hp), if_pos (show inN (nI u) (rE (zR S i)) from hp), x8_26, obd_some, x8_3, obd_some, x8_23, obd_some, m_15 (by omega), obd_some, P0.2.1, m_2 (by omega), obd_some, D0.2.1, nI_mul, nI_mul, nJ_add, nJ_add, Nat.mul_comm (rE (zD S (pX (zP S i)))) t, Nat.add_assoc, m_18 (by omega), obd_some, P0.2.2.2.2 _ (show t * rE (zD S (pX (zP S i))) + u < rP (zR S i) * rE (zR S i) by show t * rE (zD S (pX (zP S i))) + u < rP (zD S (pX (zP S i))) * rE (zD S (pX (zP S i))); omega), toNat_nI (by omega), toNat_nI (by omega)]
        rfl
      · rw [if_neg (fun z => z hp), if_neg (show ¬ inN p (rE (zR S i)) from hp)]
    · rw [if_neg (fun z => z hk), if_neg (show ¬ inN k (rP (zR S i)) from hk)]
  · rw [if_neg (show ¬ ¬ ¬ _ from fun z => z hv), if_neg hv]
theorem M_gone (R0 : MR S F A) (hS : stOk S) (v : Int32) : Mv m (rGone S v).2 h (mc 174 [.ref m, .int v] (hX 8 h m F A)) (.int (rGone S v).1) := by
  rw [M174, c_inN v (by decide)]
  simp only [obd_some, obd_none, Option.toList_some, Option.toList_none, List.cons_append, List.nil_append, cond_true, cond_false, B174_9, b2i_0]
  unfold rGone
  by_cases hv : inN v 13
  · obtain ⟨t, ht, rfl⟩ := inN_nI hv
    rw [if_neg (not_not_intro hv), if_pos hv, x8_20, R0.1.2.2.1, vI_i, obd_some, p8_20, obd_some, toNat_nI (by omega)]
    exact ⟨_, _, rfl, R0.g0 t⟩
  · rw [if_pos hv, if_neg hv]
    exact Mv.same R0 rfl
theorem M_trace (R0 : MR S F A) : mc 224 [.ref m] (hX 8 h m F A) = some (some (.int (zt S)), hX 8 h m F A) := by
  rw [M224, x8_44, R0.1.2.2.2.2, vI_i, obd_some]
theorem M_fault (R0 : MR S F A) : mc 225 [.ref m] (hX 8 h m F A) = some (some (.int (nI (zf S))), hX 8 h m F A) := by
  rw [M225, x8_0, R0.1.1, vI_i, obd_some]
theorem l_mMany (R0 : MR S F A) (hS : stOk S) (w : Int32) : ∀ n i, i + n = zn S → R 1 226 7 [some (.ref m), some (.int w), some (.int (nI (sumN (fun i => rE (zD S i)) i))), some (.int (nI (sumN (fun i => rB (zD S i)) i))), some (.int (nI i))] [] (hX 8 h m F A) = some (some (.int (aMany S w)), hX 8 h m F A) := by
  have h3 := hS.1
  intro n
  induction n with
  | zero =>
    intro i hi
    obtain rfl : i = zn S := hi
    rw [B226_7, x8_1, R0.1.2.1, vI_i, obd_some, if_neg (show ¬ nI (zn S) < nI (zn S) from Int32.lt_irrefl), obd_some, x8_21, R0.1.2.2.2.1, vI_i, obd_some]
    simp only [B226_85]
    unfold aMany
    by_cases hw : inN w 4
    · obtain ⟨t, ht, rfl⟩ := inN_nI hw
      rw [if_pos hw, toNat_nI (by omega)]
      rcases (by omega : t = 0 ∨ t = 1 ∨ t = 2 ∨ t = 3) with rfl | rfl | rfl | rfl <;> rfl
    · have n0 : ∀ t, t < 4 → ¬ w = nI t := fun t ht z => hw (z ▸ inN_of ht (by decide))
      rw [if_neg hw, if_neg (show ¬ w = 0 from n0 0 (by omega)), if_neg (n0 1 (by omega)), if_neg (n0 2 (by omega)), if_neg (n0 3 (by omega))]
  | succ n ih =>
    intro i hin
    have hi : i < zn S := by omega
    have D0 := R0.2.1 i hi
    rw [B226_7, x8_1, R0.1.2.1, vI_i, obd_some, if_pos (show nI i < nI (zn S) by rw [nJ_lt (by omega) (by omega)]; exact hi), x8_3, obd_some, m_2 (by omega), obd_some, x8_4, obd_some, m_3 (by omega), obd_some, D0.2.1, D0.2.2.1, nJ_add, nJ_add, nJ_add]
    exact ih (i + 1) (by omega)
theorem M_many (R0 : MR S F A) (hS : stOk S) (w : Int32) : mc 226 [.ref m, .int w] (hX 8 h m F A) = some (some (.int (aMany S w)), hX 8 h m F A) := by
  rw [M226]
  exact l_mMany R0 hS w (zn S) 0 (Nat.zero_add _)
theorem M_as (R0 : MR S F A) (hS : stOk S) (v k : Int32) : Mv m (rAs S v k).2 h (mc 223 [.ref m, .int v, .int k] (hX 8 h m F A)) (.int (rAs S v k).1) := by
  have h3 := hS.2.1
  rw [M223, m_o, obd_some, c_noPlan R0 hS]
  simp only [obd_some, obd_none, Option.toList_some, Option.toList_none, List.cons_append, List.nil_append, cond_true, cond_false, B223_5, b2i_0]
  unfold rAs
  by_cases hv : inN v (zm S)
  · obtain ⟨i, hi, rfl⟩ := inN_nI hv
    have P0 := R0.2.2.1 i hi
    rw [if_pos (not_not_intro hv), if_pos hv, toNat_nI (by omega), c_inN k (by decide)]
    simp only [obd_some, obd_none, Option.toList_some, Option.toList_none, List.cons_append, List.nil_append, cond_true, cond_false, B223_23, b2i_0]
    by_cases hk : inN k 3
    · rw [if_neg (not_not_intro hk), if_pos hk, x8_22, obd_some, m_14 (by omega), obd_some, P0.1]
      by_cases c : nI (pK (zP S i)) < k
      · rw [if_pos c, if_pos c, m_o, obd_some, c_mfailed]
        simp only [obd_some, obd_none, Option.toList_some, Option.toList_none, List.cons_append, List.nil_append, cond_true, cond_false, B223_56]
        exact ⟨_, _, rfl, R0.f0 2⟩
      · rw [if_neg c, if_neg c, m_o, obd_some, c_refused]
        simp only [obd_some, obd_none, Option.toList_some, Option.toList_none, List.cons_append, List.nil_append, cond_true, cond_false, B223_48, B223_56]
        exact ⟨_, _, rfl, R0.f0 0⟩
    · rw [if_pos hk, if_neg hk, m_o, obd_some, c_refused]
      simp only [obd_some, obd_none, Option.toList_some, Option.toList_none, List.cons_append, List.nil_append, cond_true, cond_false, B223_32]
      exact ⟨_, _, rfl, R0.f0 0⟩
  · rw [if_neg (show ¬ ¬ ¬ _ from fun z => z hv), if_neg hv, m_o, obd_some, c_refused]
    simp only [obd_some, obd_none, Option.toList_some, Option.toList_none, List.cons_append, List.nil_append, cond_true, cond_false, B223_13]
    exact ⟨_, _, rfl, R0.f0 0⟩
theorem M_call (R0 : MR S F A) (hS : stOk S) (v : Int32) : Mv m (rCall S v).2 h (mc 222 [.ref m, .int v] (hX 8 h m F A)) (.int (rCall S v).1) := by
  have h3 := hS.2.1
  rw [M222, m_o, obd_some, c_noPlan R0 hS]
  simp only [obd_some, obd_none, Option.toList_some, Option.toList_none, List.cons_append, List.nil_append, cond_true, cond_false, B222_5, b2i_0]
  unfold rCall
  by_cases hv : inN v (zm S)
  · obtain ⟨i, hi, rfl⟩ := inN_nI hv
    have P0 := R0.2.2.1 i hi
    have hk := (hS.2.2.2.2.2.1 i hi).2.1
    rw [if_pos (not_not_intro hv), if_pos hv, toNat_nI (by omega), x8_22, obd_some, m_14 (by omega), obd_some, P0.1]
    by_cases e : pK (zP S i) = 2
    · rw [if_pos (show nI (pK (zP S i)) = nI 2 by rw [e]), if_pos e, m_o, obd_some, c_traced R0]
      simp only [obd_some, obd_none, Option.toList_some, Option.toList_none, List.cons_append, List.nil_append, cond_true, cond_false, B222_29]
      rw [x8_22, obd_some, m_14 (by omega), obd_some, P0.1, if_pos (show nI (pK (zP S i)) = nI 2 by rw [e])]
      exact ⟨_, _, rfl, R0.t0 _⟩
    · have ne : ¬ nI (pK (zP S i)) = nI 2 := by rw [nI_inj (by omega) (by omega)]; exact e
      rw [if_neg ne, if_neg e, m_o, obd_some, c_traced R0]
      simp only [obd_some, obd_none, Option.toList_some, Option.toList_none, List.cons_append, List.nil_append, cond_true, cond_false, B222_29]
      rw [x8_22, obd_some, m_14 (by omega), obd_some, P0.1, if_neg ne]
      exact ⟨_, _, rfl, R0.t0 _⟩
  · rw [if_neg (show ¬ ¬ ¬ _ from fun z => z hv), if_neg hv]
    exact Mv.same R0 rfl
end MRead
