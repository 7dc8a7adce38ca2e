/-! The law, call by call. -/
theorem cs_r {h : jHp} {b n t : Nat} {f : Nat → Int32} (e : h.1 b = some (cS n f)) (ht : t < n) (hn : n < 2147483648) : alI h b (nI t) = some (f t) := by
  have e1 : aI h b = some (n, f) := by unfold aI; rw [e]; rfl
  unfold alI
  rw [e1, Option.bind_some, toNat_nI (by omega), if_neg]
  rintro (q | q)
  · exact nI_nneg (by omega) q
  · exact absurd ht (Nat.not_lt.mpr q)
theorem cs_len {h : jHp} {b n : Nat} {f : Nat → Int32} (e : h.1 b = some (cS n f)) : alen h b = some (nI n) := by
  unfold alen; rw [e]; rfl
theorem cmp_rfl (v : Int64) : lg_cmp v v = 0 := by
  have h1 := Int64.le_toInt v
  have h2 := Int64.toInt_lt v
  have e : v = lz v.toInt := (Int64.ofInt_toInt v).symm
  rw [e, cmp_eq ⟨by omega, by omega⟩ ⟨by omega, by omega⟩]
def LI (x m b n : Nat) (f : Nat → Int32) (S : jST) (h : jHp) : Prop := stOk S ∧ (∃ dr ra ba pa, XW x S dr ra ba pa h) ∧ (∃ F A, At 8 h m F A ∧ MR S F A) ∧ h.1 b = some (cS n f)
theorem op_two {x m b n : Nat} {f : Nat → Int32} {S S' : jST} {h : jHp} {v : Value} {rc : jRs} {km : Nat} {am : List Value} (I : LI x m b n f S h) (hs : stOk S') (hc : Gw x S' h rc v) (hm : ∀ (h : jHp) (F : Nat → Value) (A : Nat → Nat → Int32), MR S F A → Mv m S' h (mc km am (hX 8 h m F A)) v) :
    ∃ h1 h2 F1, rc = some (some v, h1) ∧ h1.1 b = some (cS n f) ∧ gO h1 m 8 = some F1 ∧ mc km am h1 = some (some v, h2) ∧ LI x m b n f S' h2 ∧ h2.2.1 ≤ h.2.1 + 20 ∧ h2.2.2 ≤ h.2.2 + 600 := by
  obtain ⟨hS, _, ⟨F, A, hA, R0⟩, hb⟩ := I
  obtain ⟨h1, dr, ra, ba, pa, e1, W1, K⟩ := hc
  have A1 := K.1 m F A hA
  have c1 := K.2.1 b n f hb
  obtain ⟨F2, A2, e2, R2⟩ := hm h1 F A R0
  rw [show hX 8 h1 m F A = h1 from A1] at e2
  exact ⟨h1, hX 8 h1 m F2 A2, _, e1, c1, gO_of A1.cell0, e2, ⟨hs, ⟨dr, ra, ba, pa, W1.other A1 (Or.inr (Nat.le_refl 8))⟩, ⟨F2, A2, At.own 8 h1 m F2 A2, R2⟩, cS_mv c1 A1 F2 A2⟩, K.2.2.2.1, K.2.2.2.2.2⟩
theorem ok_gone {S : jST} (hS : stOk S) (v : Int32) : stOk (rGone S v).2 := by
  unfold rGone
  by_cases hv : inN v 13
  · obtain ⟨u, hu, rfl⟩ := inN_nI hv
    rw [if_pos hv, toNat_nI (by omega)]; exact stOk_G hS (by omega)
  · rw [if_neg hv]; exact hS
theorem ok_lame {S : jST} (hS : stOk S) (v p k : Int32) : stOk (rLame S v p k).2 := by
  unfold rLame
  by_cases hv : inN v (zn S)
  · have h3 := hS.1
    obtain ⟨u, hu, rfl⟩ := inN_nI hv
    have hd := (hS.2.2.2.2.1 u hu).1
    have h4 := hd.2.1
    have h6 := hd.1
    rw [if_pos hv, toNat_nI (by omega)]
    by_cases p9 : p = -nI 9
    · rw [if_pos p9]; exact stOk_L hS (fun x z => by cases z)
    · rw [if_neg p9]
      by_cases hp : inN p (rE (zD S u))
      · rw [if_pos hp]
        by_cases hk : inN k (rP (zD S u))
        · rw [if_pos hk]
          obtain ⟨up, hup, rfl⟩ := inN_nI hp
          obtain ⟨uk, huk, rfl⟩ := inN_nI hk
          rw [toNat_nI (by omega), toNat_nI (by omega)]
          exact stOk_L hS (fun x z => by cases z; exact ⟨by dsimp only; omega, by dsimp only; omega⟩)
        · rw [if_neg hk]; exact hS
      · rw [if_neg hp]; exact hS
  · rw [if_neg hv]; exact hS
theorem ok_sheet {S : jST} (hS : stOk S) (k l n : Int32) : stOk (rSheet S k l n).2 := by
  unfold rSheet
  by_cases hk : inN k 4
  · rw [if_pos hk]
    by_cases hl : inN l 3
    · rw [if_pos hl]
      by_cases n1 : nI 120 < n
      · rw [if_pos n1]; exact stOk_F hS (by omega)
      · rw [if_neg n1]
        by_cases n0 : n < 0
        · rw [if_pos n0]; exact stOk_F hS (by omega)
        · rw [if_neg n0]
          rw [gt_int (by decide)] at n1
          rw [lt0_int] at n0
          obtain ⟨w, hw, rfl⟩ := inN_nI (k := n) (n := 121) ⟨by omega, by omega⟩
          obtain ⟨u, hu, rfl⟩ := inN_nI hl
          rw [toNat_nI (show w < 2147483648 by omega), toNat_nI (show u < 2147483648 by omega)]
          exact stOk_S (stOk_F hS (by omega)) (sdOk_rnw (by omega) (fun z => by cases z) (fun y z => by cases z; exact hu) 120)
    · rw [if_neg hl]; exact stOk_F hS (by omega)
  · rw [if_neg hk]; exact stOk_F hS (by omega)
theorem ok_lose {S : jST} (hS : stOk S) (k : Int32) : stOk (rLose S k).2 := by
  unfold rLose
  by_cases hk : inN k 4
  · rw [if_pos hk]
    by_cases hl : sL (zS S k.toNatClampNeg) = none
    · rw [if_pos hl]; exact hS
    · rw [if_neg hl]; exact stOk_S hS (sdOk_rnw (by omega) (fun _ => rfl) (fun y z => by cases z) 120)
  · rw [if_neg hk]; exact hS
theorem ok_put {S : jST} (hS : stOk S) (k i v : Int32) : stOk (rPut S k i v).2 := by
  unfold rPut
  by_cases hk : inN k 4
  · rw [if_pos hk]
    obtain ⟨u, hu, rfl⟩ := inN_nI hk
    rw [toNat_nI (by omega)]
    by_cases hl : sL (zS S u) = none
    · rw [if_pos hl]; exact stOk_F hS (by omega)
    · rw [if_neg hl]
      by_cases hi : inN i (sN (zS S u))
      · rw [if_pos hi]; exact stOk_S (stOk_F hS (by omega)) (hS.2.2.2.2.2.2 u hu)
      · rw [if_neg hi]; exact stOk_F hS (by omega)
  · rw [if_neg hk]; exact stOk_F hS (by omega)
theorem ok_cell {S : jST} (hS : stOk S) (k i l : Int32) : stOk (rCell S k i l).2 := by
  unfold rCell
  have hc : ∀ d, fCell d l i ≤ 4 := by
    intro d
    unfold fCell
    by_cases a : sL d = none
    · rw [if_pos a]; omega
    · rw [if_neg a]
      by_cases b : ¬ laneI (sL d) = l
      · rw [if_pos b]; omega
      · rw [if_neg b]
        by_cases c : inN i (sN d)
        · rw [if_pos c]; omega
        · rw [if_neg c]; omega
  by_cases hk : inN k 4
  · rw [if_pos hk]
    by_cases hl : inN l 3
    · rw [if_pos hl]
      by_cases hf : fCell (zS S k.toNatClampNeg) l i = 0
      · rw [if_pos hf]; exact stOk_F hS (by omega)
      · rw [if_neg hf]; exact stOk_F hS (hc _)
    · rw [if_neg hl]; exact stOk_F hS (by omega)
  · rw [if_neg hk]; exact stOk_F hS (by omega)
theorem ok_copy {S : jST} (hS : stOk S) (k i o j n : Int32) : stOk (rCopy S k i o j n).2 := by
  unfold rCopy
  by_cases hk : inN k 4
  · rw [if_pos hk]
    by_cases ho : inN o 4
    · rw [if_pos ho]
      obtain ⟨u, hu, rfl⟩ := inN_nI ho
      rw [toNat_nI (show u < 2147483648 by omega)]
      by_cases c1 : sL (zS S k.toNatClampNeg) = none ∨ sL (zS S u) = none
      · rw [if_pos c1]; exact stOk_F hS (by omega)
      · rw [if_neg c1]
        by_cases c2 : ¬ sL (zS S k.toNatClampNeg) = sL (zS S u)
        · rw [if_pos c2]; exact stOk_F hS (by omega)
        · rw [if_neg c2]
          by_cases c3 : inCs i n (sN (zS S k.toNatClampNeg)) ∧ inCs j n (sN (zS S u))
          · rw [if_pos c3]; exact stOk_S (stOk_F hS (by omega)) (hS.2.2.2.2.2.2 u hu)
          · rw [if_neg c3]; exact stOk_F hS (by omega)
    · rw [if_neg ho]; exact stOk_F hS (by omega)
  · rw [if_neg hk]; exact stOk_F hS (by omega)
theorem ok_tell {S : jST} (hS : stOk S) (v : Int32) : stOk (rTell S v).2 := by
  unfold rTell
  by_cases hv : inN v (zm S)
  · rw [if_pos hv]; exact stOk_T hS _
  · rw [if_neg hv]; exact hS
theorem ok_call {S : jST} (hS : stOk S) (v : Int32) : stOk (rCall S v).2 := by
  unfold rCall
  by_cases hv : inN v (zm S)
  · rw [if_pos hv]
    by_cases c : pK (zP S v.toNatClampNeg) = 2
    · rw [if_pos c]; exact stOk_T hS _
    · rw [if_neg c]; exact stOk_T hS _
  · rw [if_neg hv]; exact hS
theorem ok_as {S : jST} (hS : stOk S) (v k : Int32) : stOk (rAs S v k).2 := by
  unfold rAs
  by_cases hv : inN v (zm S)
  · rw [if_pos hv]
    by_cases hk : inN k 3
    · rw [if_pos hk]
      by_cases c : nI (pK (zP S v.toNatClampNeg)) < k
      · rw [if_pos c]; exact stOk_F hS (by omega)
      · rw [if_neg c]; exact stOk_F hS (by omega)
    · rw [if_neg hk]; exact stOk_F hS (by omega)
  · rw [if_neg hv]; exact stOk_F hS (by omega)
def OpR (x m b n : Nat) (f : Nat → Int32) (i : Nat) (h : jHp) (r : jRs) : Prop := ∃ S' h', r = R 26 0 18 [some (.ref b), some (.ref x), some (.ref m), some (.int (nI (i + 9)))] [] h' ∧ LI x m b n f S' h' ∧ h'.2.1 ≤ h.2.1 + 20 ∧ h'.2.2 ≤ h.2.2 + 600
section LawOps
variable {x m b n i : Nat} {f : Nat → Int32} {S : jST} {h : jHp}
theorem op_0 (I : LI x m b n f S h) (hn : n < 2147483648) (hi : i + 8 < n) : OpR x m b n f i h (R 26 0 196 [some (.ref b), some (.ref x), some (.ref m), some (.int (nI i))] [] h) := by
  have I0 := I
  obtain ⟨hS, ⟨dr, ra, ba, pa, W⟩, hM, hb⟩ := I0
  obtain ⟨d0, hd0, hL0, hs, hg⟩ := T_road W hS (f (i + 1)) (f (i + 2)) (f (i + 3)) (f (i + 4))
  obtain ⟨h1, h2, F1, e1, c1, o1, e2, I2, b1, b2⟩ := op_two (km := 142) (am := [.ref m, .int (f (i + 1)), .int (f (i + 2)), .int (f (i + 3)), .int (f (i + 4))]) (S' := (rRoad S d0 (f (i + 1)) (f (i + 2)) (f (i + 3)) (f (i + 4))).2) I (hs) (hg) (fun h F A R0 => M_road R0 hS hL0 (f (i + 1)) (f (i + 2)) (f (i + 3)) (f (i + 4)))
  refine ⟨_, h2, ?_, I2, b1, b2⟩
  simp (disch := omega) only [B0_196, B0_215, B0_220, B0_240, B0_244, nJ_add, cs_r hb, xw_o W, e1, obd_some, obd_none, Option.toList_some, Option.toList_none, List.cons_append, List.nil_append, cond_true, cond_false, cs_r c1, o1, e2, ite_true]

theorem op_1 (I : LI x m b n f S h) (hn : n < 2147483648) (hi : i + 8 < n) : OpR x m b n f i h (R 26 0 249 [some (.ref b), some (.ref x), some (.ref m), some (.int (nI i))] [] h) := by
  have I0 := I
  obtain ⟨hS, ⟨dr, ra, ba, pa, W⟩, hM, hb⟩ := I0
  obtain ⟨h1, h2, F1, e1, c1, o1, e2, I2, b1, b2⟩ := op_two (km := 158) (am := [.ref m, .int (f (i + 1)), .int (f (i + 2))]) (S' := S) I (hS) ((Gv.same W (T_ofRoad W hS (f (i + 1)) (f (i + 2)))).w) (fun h F A R0 => M_ofRoad R0 hS (f (i + 1)) (f (i + 2)))
  refine ⟨_, h2, ?_, I2, b1, b2⟩
  simp (disch := omega) only [B0_249, B0_263, B0_277, nJ_add, cs_r hb, xw_o W, e1, obd_some, obd_none, Option.toList_some, Option.toList_none, List.cons_append, List.nil_append, cond_true, cond_false, cs_r c1, o1, e2, ite_true]

theorem op_2 (I : LI x m b n f S h) (hn : n < 2147483648) (hi : i + 8 < n) : OpR x m b n f i h (R 26 0 282 [some (.ref b), some (.ref x), some (.ref m), some (.int (nI i))] [] h) := by
  have I0 := I
  obtain ⟨hS, ⟨dr, ra, ba, pa, W⟩, hM, hb⟩ := I0
  obtain ⟨h1, h2, F1, e1, c1, o1, e2, I2, b1, b2⟩ := op_two (km := 161) (am := [.ref m, .int (f (i + 1)), .int (f (i + 2)), .int (f (i + 3))]) (S' := S) I (hS) ((Gv.same W (T_ofPiece W hS (f (i + 1)) (f (i + 2)) (f (i + 3)))).w) (fun h F A R0 => M_ofPiece R0 hS (f (i + 1)) (f (i + 2)) (f (i + 3)))
  refine ⟨_, h2, ?_, I2, b1, b2⟩
  simp (disch := omega) only [B0_282, B0_301, B0_320, nJ_add, cs_r hb, xw_o W, e1, obd_some, obd_none, Option.toList_some, Option.toList_none, List.cons_append, List.nil_append, cond_true, cond_false, cs_r c1, o1, e2, ite_true]

theorem op_3 (I : LI x m b n f S h) (hn : n < 2147483648) (hi : i + 8 < n) : OpR x m b n f i h (R 26 0 325 [some (.ref b), some (.ref x), some (.ref m), some (.int (nI i))] [] h) := by
  have I0 := I
  obtain ⟨hS, ⟨dr, ra, ba, pa, W⟩, hM, hb⟩ := I0
  obtain ⟨h1, h2, F1, e1, c1, o1, e2, I2, b1, b2⟩ := op_two (km := 163) (am := [.ref m, .int (f (i + 1)), .int (f (i + 2)), .int (f (i + 3))]) (S' := S) I (hS) ((Gv.same W (T_ofPerson W hS (f (i + 1)) (f (i + 2)) (f (i + 3)))).w) (fun h F A R0 => M_ofPerson R0 hS (f (i + 1)) (f (i + 2)) (f (i + 3)))
  refine ⟨_, h2, ?_, I2, b1, b2⟩
  simp (disch := omega) only [B0_325, B0_344, B0_363, nJ_add, cs_r hb, xw_o W, e1, obd_some, obd_none, Option.toList_some, Option.toList_none, List.cons_append, List.nil_append, cond_true, cond_false, cs_r c1, o1, e2, ite_true]

theorem op_4 (I : LI x m b n f S h) (hn : n < 2147483648) (hi : i + 8 < n) : OpR x m b n f i h (R 26 0 368 [some (.ref b), some (.ref x), some (.ref m), some (.int (nI i))] [] h) := by
  have I0 := I
  obtain ⟨hS, ⟨dr, ra, ba, pa, W⟩, hM, hb⟩ := I0
  obtain ⟨h1, h2, F1, e1, c1, o1, e2, I2, b1, b2⟩ := op_two (km := 166) (am := [.ref m, .int (f (i + 1)), .int (f (i + 2)), .int (f (i + 3))]) (S' := S) I (hS) ((Gv.same W (T_ofBeast W hS (f (i + 1)) (f (i + 2)) (f (i + 3)))).w) (fun h F A R0 => M_ofBeast R0 hS (f (i + 1)) (f (i + 2)) (f (i + 3)))
  refine ⟨_, h2, ?_, I2, b1, b2⟩
  simp (disch := omega) only [B0_368, B0_387, B0_406, nJ_add, cs_r hb, xw_o W, e1, obd_some, obd_none, Option.toList_some, Option.toList_none, List.cons_append, List.nil_append, cond_true, cond_false, cs_r c1, o1, e2, ite_true]

theorem op_5 (I : LI x m b n f S h) (hn : n < 2147483648) (hi : i + 8 < n) : OpR x m b n f i h (R 26 0 411 [some (.ref b), some (.ref x), some (.ref m), some (.int (nI i))] [] h) := by
  have I0 := I
  obtain ⟨hS, ⟨dr, ra, ba, pa, W⟩, hM, hb⟩ := I0
  obtain ⟨h1, h2, F1, e1, c1, o1, e2, I2, b1, b2⟩ := op_two (km := 169) (am := [.ref m, .int (f (i + 1)), .int (f (i + 2)), .int (f (i + 3))]) (S' := (rLame S (f (i + 1)) (f (i + 2)) (f (i + 3))).2) I (ok_lame hS (f (i + 1)) (f (i + 2)) (f (i + 3))) ((T_lame W hS (f (i + 1)) (f (i + 2)) (f (i + 3))).w) (fun h F A R0 => M_lame R0 hS (f (i + 1)) (f (i + 2)) (f (i + 3)))
  refine ⟨_, h2, ?_, I2, b1, b2⟩
  simp (disch := omega) only [B0_411, B0_430, B0_449, nJ_add, cs_r hb, xw_o W, e1, obd_some, obd_none, Option.toList_some, Option.toList_none, List.cons_append, List.nil_append, cond_true, cond_false, cs_r c1, o1, e2, ite_true]

theorem op_6 (I : LI x m b n f S h) (hn : n < 2147483648) (hi : i + 8 < n) : OpR x m b n f i h (R 26 0 454 [some (.ref b), some (.ref x), some (.ref m), some (.int (nI i))] [] h) := by
  have I0 := I
  obtain ⟨hS, ⟨dr, ra, ba, pa, W⟩, hM, hb⟩ := I0
  obtain ⟨h1, h2, F1, e1, c1, o1, e2, I2, b1, b2⟩ := op_two (km := 170) (am := [.ref m, .int (f (i + 1)), .int (f (i + 2)), .int (f (i + 3))]) (S' := S) I (hS) ((Gv.same W (T_walks W hS (f (i + 1)) (f (i + 2)) (f (i + 3)))).w) (fun h F A R0 => M_walks R0 hS (f (i + 1)) (f (i + 2)) (f (i + 3)))
  refine ⟨_, h2, ?_, I2, b1, b2⟩
  simp (disch := omega) only [B0_454, B0_473, B0_492, nJ_add, cs_r hb, xw_o W, e1, obd_some, obd_none, Option.toList_some, Option.toList_none, List.cons_append, List.nil_append, cond_true, cond_false, cs_r c1, o1, e2, ite_true]

theorem op_7 (I : LI x m b n f S h) (hn : n < 2147483648) (hi : i + 8 < n) : OpR x m b n f i h (R 26 0 497 [some (.ref b), some (.ref x), some (.ref m), some (.int (nI i))] [] h) := by
  have I0 := I
  obtain ⟨hS, ⟨dr, ra, ba, pa, W⟩, hM, hb⟩ := I0
  obtain ⟨h1, h2, F1, e1, c1, o1, e2, I2, b1, b2⟩ := op_two (km := 172) (am := [.ref m, .int (f (i + 1)), .int (f (i + 2)), .int (f (i + 3))]) (S' := S) I (hS) ((Gv.same W (T_rides W hS (f (i + 1)) (f (i + 2)) (f (i + 3)))).w) (fun h F A R0 => M_rides R0 hS (f (i + 1)) (f (i + 2)) (f (i + 3)))
  refine ⟨_, h2, ?_, I2, b1, b2⟩
  simp (disch := omega) only [B0_497, B0_516, B0_535, nJ_add, cs_r hb, xw_o W, e1, obd_some, obd_none, Option.toList_some, Option.toList_none, List.cons_append, List.nil_append, cond_true, cond_false, cs_r c1, o1, e2, ite_true]

theorem op_8 (I : LI x m b n f S h) (hn : n < 2147483648) (hi : i + 8 < n) : OpR x m b n f i h (R 26 0 540 [some (.ref b), some (.ref x), some (.ref m), some (.int (nI i))] [] h) := by
  have I0 := I
  obtain ⟨hS, ⟨dr, ra, ba, pa, W⟩, hM, hb⟩ := I0
  obtain ⟨h1, h2, F1, e1, c1, o1, e2, I2, b1, b2⟩ := op_two (km := 174) (am := [.ref m, .int (f (i + 1))]) (S' := (rGone S (f (i + 1))).2) I (ok_gone hS (f (i + 1))) ((T_gone W hS (f (i + 1))).w) (fun h F A R0 => M_gone R0 hS (f (i + 1)))
  refine ⟨_, h2, ?_, I2, b1, b2⟩
  simp (disch := omega) only [B0_540, B0_549, B0_558, nJ_add, cs_r hb, xw_o W, e1, obd_some, obd_none, Option.toList_some, Option.toList_none, List.cons_append, List.nil_append, cond_true, cond_false, cs_r c1, o1, e2, ite_true]

theorem op_9 (I : LI x m b n f S h) (hn : n < 2147483648) (hi : i + 8 < n) : OpR x m b n f i h (R 26 0 563 [some (.ref b), some (.ref x), some (.ref m), some (.int (nI i))] [] h) := by
  have I0 := I
  obtain ⟨hS, ⟨dr, ra, ba, pa, W⟩, hM, hb⟩ := I0
  obtain ⟨hs, hg⟩ := T_plan W hS (f (i + 1)) (f (i + 2)) (f (i + 3)) (f (i + 4)) (f (i + 5)) (f (i + 6)) (f (i + 7)) (f (i + 8))
  obtain ⟨h1, h2, F1, e1, c1, o1, e2, I2, b1, b2⟩ := op_two (km := 175) (am := [.ref m, .int (f (i + 1)), .int (f (i + 2)), .int (f (i + 3)), .int (f (i + 4)), .int (f (i + 5)), .int (f (i + 6)), .int (f (i + 7)), .int (f (i + 8))]) (S' := (rPlan S (f (i + 1)) (f (i + 2)) (f (i + 3)) (f (i + 4)) (f (i + 5)) (f (i + 6)) (f (i + 7)) (f (i + 8))).2) I (hs) (hg) (fun h F A R0 => M_plan R0 hS (f (i + 1)) (f (i + 2)) (f (i + 3)) (f (i + 4)) (f (i + 5)) (f (i + 6)) (f (i + 7)) (f (i + 8)))
  refine ⟨_, h2, ?_, I2, b1, b2⟩
  simp (disch := omega) only [B0_563, B0_582, B0_605, B0_610, B0_630, B0_653, B0_657, nJ_add, cs_r hb, xw_o W, e1, obd_some, obd_none, Option.toList_some, Option.toList_none, List.cons_append, List.nil_append, cond_true, cond_false, cs_r c1, o1, e2, ite_true]

theorem op_10 (I : LI x m b n f S h) (hn : n < 2147483648) (hi : i + 8 < n) : OpR x m b n f i h (R 26 0 662 [some (.ref b), some (.ref x), some (.ref m), some (.int (nI i))] [] h) := by
  have I0 := I
  obtain ⟨hS, ⟨dr, ra, ba, pa, W⟩, hM, hb⟩ := I0
  obtain ⟨h1, h2, F1, e1, c1, o1, e2, I2, b1, b2⟩ := op_two (km := 176) (am := [.ref m, .int (f (i + 1)), .int (f (i + 2))]) (S' := S) I (hS) ((Gv.same W (T_ofPlan W hS (f (i + 1)) (f (i + 2)))).w) (fun h F A R0 => M_ofPlan R0 hS (f (i + 1)) (f (i + 2)))
  refine ⟨_, h2, ?_, I2, b1, b2⟩
  simp (disch := omega) only [B0_662, B0_676, B0_690, nJ_add, cs_r hb, xw_o W, e1, obd_some, obd_none, Option.toList_some, Option.toList_none, List.cons_append, List.nil_append, cond_true, cond_false, cs_r c1, o1, e2, ite_true]

theorem op_11 (I : LI x m b n f S h) (hn : n < 2147483648) (hi : i + 8 < n) : OpR x m b n f i h (R 26 0 695 [some (.ref b), some (.ref x), some (.ref m), some (.int (nI i))] [] h) := by
  have I0 := I
  obtain ⟨hS, ⟨dr, ra, ba, pa, W⟩, hM, hb⟩ := I0
  obtain ⟨h1, h2, F1, e1, c1, o1, e2, I2, b1, b2⟩ := op_two (km := 178) (am := [.ref m, .int (f (i + 1)), .int (f (i + 2)), .int (f (i + 3))]) (S' := S) I (hS) ((Gv.same W (T_does W hS (f (i + 1)) (f (i + 2)) (f (i + 3)))).w) (fun h F A R0 => M_does R0 hS (f (i + 1)) (f (i + 2)) (f (i + 3)))
  refine ⟨_, h2, ?_, I2, b1, b2⟩
  simp (disch := omega) only [B0_695, B0_714, B0_733, nJ_add, cs_r hb, xw_o W, e1, obd_some, obd_none, Option.toList_some, Option.toList_none, List.cons_append, List.nil_append, cond_true, cond_false, cs_r c1, o1, e2, ite_true]

theorem op_12 (I : LI x m b n f S h) (hn : n < 2147483648) (hi : i + 8 < n) : OpR x m b n f i h (R 26 0 738 [some (.ref b), some (.ref x), some (.ref m), some (.int (nI i))] [] h) := by
  have I0 := I
  obtain ⟨hS, ⟨dr, ra, ba, pa, W⟩, hM, hb⟩ := I0
  obtain ⟨h1, h2, F1, e1, c1, o1, e2, I2, b1, b2⟩ := op_two (km := 179) (am := [.ref m, .int (f (i + 1))]) (S' := S) I (hS) ((T_wrong W hS (f (i + 1))).w) (fun h F A R0 => M_wrong R0 hS (f (i + 1)))
  refine ⟨_, h2, ?_, I2, b1, b2⟩
  simp (disch := omega) only [B0_738, B0_747, B0_756, nJ_add, cs_r hb, xw_o W, e1, obd_some, obd_none, Option.toList_some, Option.toList_none, List.cons_append, List.nil_append, cond_true, cond_false, cs_r c1, o1, e2, ite_true]

theorem op_13 (I : LI x m b n f S h) (hn : n < 2147483648) (hi : i + 8 < n) : OpR x m b n f i h (R 26 0 761 [some (.ref b), some (.ref x), some (.ref m), some (.int (nI i))] [] h) := by
  have I0 := I
  obtain ⟨hS, ⟨dr, ra, ba, pa, W⟩, hM, hb⟩ := I0
  obtain ⟨h1, h2, F1, e1, c1, o1, e2, I2, b1, b2⟩ := op_two (km := 190) (am := [.ref m, .int (f (i + 1)), .int (f (i + 2)), .int (f (i + 3))]) (S' := S) I (hS) ((T_there W hS (f (i + 1)) (f (i + 2)) (f (i + 3))).w) (fun h F A R0 => M_there R0 hS (f (i + 1)) (f (i + 2)) (f (i + 3)))
  refine ⟨_, h2, ?_, I2, b1, b2⟩
  simp (disch := omega) only [B0_761, B0_780, B0_799, nJ_add, cs_r hb, xw_o W, e1, obd_some, obd_none, Option.toList_some, Option.toList_none, List.cons_append, List.nil_append, cond_true, cond_false, cs_r c1, o1, e2, ite_true]

theorem op_14 (I : LI x m b n f S h) (hn : n < 2147483648) (hi : i + 8 < n) : OpR x m b n f i h (R 26 0 804 [some (.ref b), some (.ref x), some (.ref m), some (.int (nI i))] [] h) := by
  have I0 := I
  obtain ⟨hS, ⟨dr, ra, ba, pa, W⟩, hM, hb⟩ := I0
  obtain ⟨h1, h2, F1, e1, c1, o1, e2, I2, b1, b2⟩ := op_two (km := 191) (am := [.ref m, .int (f (i + 1)), .int (f (i + 2)), .int (f (i + 3))]) (S' := S) I (hS) ((T_came W hS (f (i + 1)) (f (i + 2)) (f (i + 3))).w) (fun h F A R0 => M_came R0 hS (f (i + 1)) (f (i + 2)) (f (i + 3)))
  refine ⟨_, h2, ?_, I2, b1, b2⟩
  simp (disch := omega) only [B0_804, B0_823, B0_842, nJ_add, cs_r hb, xw_o W, e1, obd_some, obd_none, Option.toList_some, Option.toList_none, List.cons_append, List.nil_append, cond_true, cond_false, cs_r c1, o1, e2, ite_true]

theorem op_15 (I : LI x m b n f S h) (hn : n < 2147483648) (hi : i + 8 < n) : OpR x m b n f i h (R 26 0 847 [some (.ref b), some (.ref x), some (.ref m), some (.int (nI i))] [] h) := by
  have I0 := I
  obtain ⟨hS, ⟨dr, ra, ba, pa, W⟩, hM, hb⟩ := I0
  obtain ⟨h1, h2, F1, e1, c1, o1, e2, I2, b1, b2⟩ := op_two (km := 192) (am := [.ref m, .int (f (i + 1)), .int (f (i + 2)), .int (f (i + 3))]) (S' := S) I (hS) ((T_went W hS (f (i + 1)) (f (i + 2)) (f (i + 3))).w) (fun h F A R0 => M_went R0 hS (f (i + 1)) (f (i + 2)) (f (i + 3)))
  refine ⟨_, h2, ?_, I2, b1, b2⟩
  simp (disch := omega) only [B0_847, B0_866, B0_885, nJ_add, cs_r hb, xw_o W, e1, obd_some, obd_none, Option.toList_some, Option.toList_none, List.cons_append, List.nil_append, cond_true, cond_false, cs_r c1, o1, e2, ite_true]

theorem op_16 (I : LI x m b n f S h) (hn : n < 2147483648) (hi : i + 8 < n) : OpR x m b n f i h (R 26 0 890 [some (.ref b), some (.ref x), some (.ref m), some (.int (nI i))] [] h) := by
  have I0 := I
  obtain ⟨hS, ⟨dr, ra, ba, pa, W⟩, hM, hb⟩ := I0
  obtain ⟨h1, h2, F1, e1, c1, o1, e2, I2, b1, b2⟩ := op_two (km := 193) (am := [.ref m, .int (f (i + 1)), .int (f (i + 2))]) (S' := S) I (hS) ((T_outcome W hS (f (i + 1)) (f (i + 2))).w) (fun h F A R0 => M_outcome R0 hS (f (i + 1)) (f (i + 2)))
  refine ⟨_, h2, ?_, I2, b1, b2⟩
  simp (disch := omega) only [B0_890, B0_904, B0_918, nJ_add, cs_r hb, xw_o W, e1, obd_some, obd_none, Option.toList_some, Option.toList_none, List.cons_append, List.nil_append, cond_true, cond_false, cs_r c1, o1, e2, ite_true]

theorem op_17 (I : LI x m b n f S h) (hn : n < 2147483648) (hi : i + 8 < n) : OpR x m b n f i h (R 26 0 923 [some (.ref b), some (.ref x), some (.ref m), some (.int (nI i))] [] h) := by
  have I0 := I
  obtain ⟨hS, ⟨dr, ra, ba, pa, W⟩, hM, hb⟩ := I0
  obtain ⟨h1, h2, F1, e1, c1, o1, e2, I2, b1, b2⟩ := op_two (km := 195) (am := [.ref m, .int (f (i + 1)), .int (f (i + 2))]) (S' := S) I (hS) ((T_walked W hS (f (i + 1)) (f (i + 2))).w) (fun h F A R0 => M_walked R0 hS (f (i + 1)) (f (i + 2)))
  refine ⟨_, h2, ?_, I2, b1, b2⟩
  simp (disch := omega) only [B0_923, B0_937, B0_951, nJ_add, cs_r hb, xw_o W, e1, obd_some, obd_none, Option.toList_some, Option.toList_none, List.cons_append, List.nil_append, cond_true, cond_false, cs_r c1, o1, e2, ite_true]

theorem op_18 (I : LI x m b n f S h) (hn : n < 2147483648) (hi : i + 8 < n) : OpR x m b n f i h (R 26 0 956 [some (.ref b), some (.ref x), some (.ref m), some (.int (nI i))] [] h) := by
  have I0 := I
  obtain ⟨hS, ⟨dr, ra, ba, pa, W⟩, hM, hb⟩ := I0
  obtain ⟨h1, h2, F1, e1, c1, o1, e2, I2, b1, b2⟩ := op_two (km := 196) (am := [.ref m, .int (f (i + 1)), .int (f (i + 2))]) (S' := S) I (hS) ((T_safe W hS (f (i + 1)) (f (i + 2))).w) (fun h F A R0 => M_safe R0 hS (f (i + 1)) (f (i + 2)))
  refine ⟨_, h2, ?_, I2, b1, b2⟩
  simp (disch := omega) only [B0_956, B0_970, B0_984, nJ_add, cs_r hb, xw_o W, e1, obd_some, obd_none, Option.toList_some, Option.toList_none, List.cons_append, List.nil_append, cond_true, cond_false, cs_r c1, o1, e2, ite_true]
  rw [if_pos (cmp_rfl _)]

theorem op_19 (I : LI x m b n f S h) (hn : n < 2147483648) (hi : i + 8 < n) : OpR x m b n f i h (R 26 0 990 [some (.ref b), some (.ref x), some (.ref m), some (.int (nI i))] [] h) := by
  have I0 := I
  obtain ⟨hS, ⟨dr, ra, ba, pa, W⟩, hM, hb⟩ := I0
  obtain ⟨h1, h2, F1, e1, c1, o1, e2, I2, b1, b2⟩ := op_two (km := 200) (am := [.ref m, .int (f (i + 1)), .int (f (i + 2)), .int (f (i + 3)), .int (f (i + 4))]) (S' := S) I (hS) ((T_best W hS (f (i + 1)) (f (i + 2)) (f (i + 3)) (f (i + 4))).w) (fun h F A R0 => M_best R0 hS (f (i + 1)) (f (i + 2)) (f (i + 3)) (f (i + 4)))
  refine ⟨_, h2, ?_, I2, b1, b2⟩
  simp (disch := omega) only [B0_990, B0_1009, B0_1014, B0_1034, B0_1038, nJ_add, cs_r hb, xw_o W, e1, obd_some, obd_none, Option.toList_some, Option.toList_none, List.cons_append, List.nil_append, cond_true, cond_false, cs_r c1, o1, e2, ite_true]

theorem op_20 (I : LI x m b n f S h) (hn : n < 2147483648) (hi : i + 8 < n) : OpR x m b n f i h (R 26 0 1043 [some (.ref b), some (.ref x), some (.ref m), some (.int (nI i))] [] h) := by
  have I0 := I
  obtain ⟨hS, ⟨dr, ra, ba, pa, W⟩, hM, hb⟩ := I0
  obtain ⟨h1, h2, F1, e1, c1, o1, e2, I2, b1, b2⟩ := op_two (km := 205) (am := [.ref m, .int (f (i + 1)), .int (f (i + 2)), .int (f (i + 3)), .int (f (i + 4)), .int (f (i + 5))]) (S' := S) I (hS) ((T_row W hS (f (i + 1)) (f (i + 2)) (f (i + 3)) (f (i + 4)) (f (i + 5))).w) (fun h F A R0 => M_row R0 hS (f (i + 1)) (f (i + 2)) (f (i + 3)) (f (i + 4)) (f (i + 5)))
  refine ⟨_, h2, ?_, I2, b1, b2⟩
  simp (disch := omega) only [B0_1043, B0_1062, B0_1072, B0_1092, B0_1101, nJ_add, cs_r hb, xw_o W, e1, obd_some, obd_none, Option.toList_some, Option.toList_none, List.cons_append, List.nil_append, cond_true, cond_false, cs_r c1, o1, e2, ite_true]

theorem op_21 (I : LI x m b n f S h) (hn : n < 2147483648) (hi : i + 8 < n) : OpR x m b n f i h (R 26 0 1106 [some (.ref b), some (.ref x), some (.ref m), some (.int (nI i))] [] h) := by
  have I0 := I
  obtain ⟨hS, ⟨dr, ra, ba, pa, W⟩, hM, hb⟩ := I0
  obtain ⟨h1, h2, F1, e1, c1, o1, e2, I2, b1, b2⟩ := op_two (km := 206) (am := [.ref m, .int (f (i + 1))]) (S' := S) I (hS) ((T_cost W hS (f (i + 1))).w) (fun h F A R0 => M_cost R0 hS (f (i + 1)))
  refine ⟨_, h2, ?_, I2, b1, b2⟩
  simp (disch := omega) only [B0_1106, B0_1115, B0_1124, nJ_add, cs_r hb, xw_o W, e1, obd_some, obd_none, Option.toList_some, Option.toList_none, List.cons_append, List.nil_append, cond_true, cond_false, cs_r c1, o1, e2, ite_true]

theorem op_22 (I : LI x m b n f S h) (hn : n < 2147483648) (hi : i + 8 < n) : OpR x m b n f i h (R 26 0 1129 [some (.ref b), some (.ref x), some (.ref m), some (.int (nI i))] [] h) := by
  have I0 := I
  obtain ⟨hS, ⟨dr, ra, ba, pa, W⟩, hM, hb⟩ := I0
  obtain ⟨h1, h2, F1, e1, c1, o1, e2, I2, b1, b2⟩ := op_two (km := 207) (am := [.ref m, .int (f (i + 1))]) (S' := S) I (hS) ((T_fewest W hS (f (i + 1))).w) (fun h F A R0 => M_fewest R0 hS (f (i + 1)))
  refine ⟨_, h2, ?_, I2, b1, b2⟩
  simp (disch := omega) only [B0_1129, B0_1138, B0_1147, nJ_add, cs_r hb, xw_o W, e1, obd_some, obd_none, Option.toList_some, Option.toList_none, List.cons_append, List.nil_append, cond_true, cond_false, cs_r c1, o1, e2, ite_true]

theorem op_23 (I : LI x m b n f S h) (hn : n < 2147483648) (hi : i + 8 < n) : OpR x m b n f i h (R 26 0 1152 [some (.ref b), some (.ref x), some (.ref m), some (.int (nI i))] [] h) := by
  have I0 := I
  obtain ⟨hS, ⟨dr, ra, ba, pa, W⟩, hM, hb⟩ := I0
  obtain ⟨h1, h2, F1, e1, c1, o1, e2, I2, b1, b2⟩ := op_two (km := 208) (am := [.ref m, .int (f (i + 1))]) (S' := S) I (hS) ((T_rows W hS (f (i + 1))).w) (fun h F A R0 => M_rows R0 hS (f (i + 1)))
  refine ⟨_, h2, ?_, I2, b1, b2⟩
  simp (disch := omega) only [B0_1152, B0_1161, B0_1170, nJ_add, cs_r hb, xw_o W, e1, obd_some, obd_none, Option.toList_some, Option.toList_none, List.cons_append, List.nil_append, cond_true, cond_false, cs_r c1, o1, e2, ite_true]

theorem op_24 (I : LI x m b n f S h) (hn : n < 2147483648) (hi : i + 8 < n) : OpR x m b n f i h (R 26 0 1175 [some (.ref b), some (.ref x), some (.ref m), some (.int (nI i))] [] h) := by
  have I0 := I
  obtain ⟨hS, ⟨dr, ra, ba, pa, W⟩, hM, hb⟩ := I0
  obtain ⟨h1, h2, F1, e1, c1, o1, e2, I2, b1, b2⟩ := op_two (km := 209) (am := [.ref m, .int (f (i + 1)), .int (f (i + 2))]) (S' := S) I (hS) ((T_even W hS (f (i + 1)) (f (i + 2))).w) (fun h F A R0 => M_even R0 hS (f (i + 1)) (f (i + 2)))
  refine ⟨_, h2, ?_, I2, b1, b2⟩
  simp (disch := omega) only [B0_1175, B0_1189, B0_1203, nJ_add, cs_r hb, xw_o W, e1, obd_some, obd_none, Option.toList_some, Option.toList_none, List.cons_append, List.nil_append, cond_true, cond_false, cs_r c1, o1, e2, ite_true]
  rw [if_pos (cmp_rfl _)]

theorem op_25 (I : LI x m b n f S h) (hn : n < 2147483648) (hi : i + 8 < n) : OpR x m b n f i h (R 26 0 1209 [some (.ref b), some (.ref x), some (.ref m), some (.int (nI i))] [] h) := by
  have I0 := I
  obtain ⟨hS, ⟨dr, ra, ba, pa, W⟩, hM, hb⟩ := I0
  obtain ⟨h1, h2, F1, e1, c1, o1, e2, I2, b1, b2⟩ := op_two (km := 212) (am := [.ref m, .int (f (i + 1)), .int (f (i + 2)), .int (f (i + 3))]) (S' := S) I (hS) ((T_share W hS (f (i + 1)) (f (i + 2)) (f (i + 3))).w) (fun h F A R0 => M_share R0 hS (f (i + 1)) (f (i + 2)) (f (i + 3)))
  refine ⟨_, h2, ?_, I2, b1, b2⟩
  simp (disch := omega) only [B0_1209, B0_1228, B0_1247, nJ_add, cs_r hb, xw_o W, e1, obd_some, obd_none, Option.toList_some, Option.toList_none, List.cons_append, List.nil_append, cond_true, cond_false, cs_r c1, o1, e2, ite_true]
  rw [if_pos (cmp_rfl _)]

theorem op_26 (I : LI x m b n f S h) (hn : n < 2147483648) (hi : i + 8 < n) : OpR x m b n f i h (R 26 0 1253 [some (.ref b), some (.ref x), some (.ref m), some (.int (nI i))] [] h) := by
  have I0 := I
  obtain ⟨hS, ⟨dr, ra, ba, pa, W⟩, hM, hb⟩ := I0
  obtain ⟨h1, h2, F1, e1, c1, o1, e2, I2, b1, b2⟩ := op_two (km := 213) (am := [.ref m, .int (f (i + 1)), .int (f (i + 2)), .int (f (i + 3))]) (S' := (rSheet S (f (i + 1)) (f (i + 2)) (f (i + 3))).2) I (ok_sheet hS (f (i + 1)) (f (i + 2)) (f (i + 3))) ((T_sheet W hS (f (i + 1)) (f (i + 2)) (f (i + 3))).w) (fun h F A R0 => M_sheet R0 hS (f (i + 1)) (f (i + 2)) (f (i + 3)))
  refine ⟨_, h2, ?_, I2, b1, b2⟩
  simp (disch := omega) only [B0_1253, B0_1272, B0_1291, nJ_add, cs_r hb, xw_o W, e1, obd_some, obd_none, Option.toList_some, Option.toList_none, List.cons_append, List.nil_append, cond_true, cond_false, cs_r c1, o1, e2, ite_true]

theorem op_27 (I : LI x m b n f S h) (hn : n < 2147483648) (hi : i + 8 < n) : OpR x m b n f i h (R 26 0 1296 [some (.ref b), some (.ref x), some (.ref m), some (.int (nI i))] [] h) := by
  have I0 := I
  obtain ⟨hS, ⟨dr, ra, ba, pa, W⟩, hM, hb⟩ := I0
  obtain ⟨h1, h2, F1, e1, c1, o1, e2, I2, b1, b2⟩ := op_two (km := 214) (am := [.ref m, .int (f (i + 1))]) (S' := (rLose S (f (i + 1))).2) I (ok_lose hS (f (i + 1))) ((T_lose W hS (f (i + 1))).w) (fun h F A R0 => M_lose R0 hS (f (i + 1)))
  refine ⟨_, h2, ?_, I2, b1, b2⟩
  simp (disch := omega) only [B0_1296, B0_1305, B0_1314, nJ_add, cs_r hb, xw_o W, e1, obd_some, obd_none, Option.toList_some, Option.toList_none, List.cons_append, List.nil_append, cond_true, cond_false, cs_r c1, o1, e2, ite_true]

theorem op_28 (I : LI x m b n f S h) (hn : n < 2147483648) (hi : i + 8 < n) : OpR x m b n f i h (R 26 0 1319 [some (.ref b), some (.ref x), some (.ref m), some (.int (nI i))] [] h) := by
  have I0 := I
  obtain ⟨hS, ⟨dr, ra, ba, pa, W⟩, hM, hb⟩ := I0
  obtain ⟨h1, h2, F1, e1, c1, o1, e2, I2, b1, b2⟩ := op_two (km := 215) (am := [.ref m, .int (f (i + 1)), .int (f (i + 2)), .int (f (i + 3))]) (S' := (rPut S (f (i + 1)) (f (i + 2)) (f (i + 3))).2) I (ok_put hS (f (i + 1)) (f (i + 2)) (f (i + 3))) ((T_put W hS (f (i + 1)) (f (i + 2)) (f (i + 3))).w) (fun h F A R0 => M_put R0 hS (f (i + 1)) (f (i + 2)) (f (i + 3)))
  refine ⟨_, h2, ?_, I2, b1, b2⟩
  simp (disch := omega) only [B0_1319, B0_1338, B0_1357, nJ_add, cs_r hb, xw_o W, e1, obd_some, obd_none, Option.toList_some, Option.toList_none, List.cons_append, List.nil_append, cond_true, cond_false, cs_r c1, o1, e2, ite_true]

theorem op_29 (I : LI x m b n f S h) (hn : n < 2147483648) (hi : i + 8 < n) : OpR x m b n f i h (R 26 0 1362 [some (.ref b), some (.ref x), some (.ref m), some (.int (nI i))] [] h) := by
  have I0 := I
  obtain ⟨hS, ⟨dr, ra, ba, pa, W⟩, hM, hb⟩ := I0
  obtain ⟨h1, h2, F1, e1, c1, o1, e2, I2, b1, b2⟩ := op_two (km := 217) (am := [.ref m, .int (f (i + 1)), .int (f (i + 2)), .int (f (i + 3))]) (S' := (rCell S (f (i + 1)) (f (i + 2)) (f (i + 3))).2) I (ok_cell hS (f (i + 1)) (f (i + 2)) (f (i + 3))) ((T_cell W hS (f (i + 1)) (f (i + 2)) (f (i + 3))).w) (fun h F A R0 => M_cell R0 hS (f (i + 1)) (f (i + 2)) (f (i + 3)))
  refine ⟨_, h2, ?_, I2, b1, b2⟩
  simp (disch := omega) only [B0_1362, B0_1381, B0_1400, nJ_add, cs_r hb, xw_o W, e1, obd_some, obd_none, Option.toList_some, Option.toList_none, List.cons_append, List.nil_append, cond_true, cond_false, cs_r c1, o1, e2, ite_true]
  rw [if_pos (cmp_rfl _)]

theorem op_30 (I : LI x m b n f S h) (hn : n < 2147483648) (hi : i + 8 < n) : OpR x m b n f i h (R 26 0 1406 [some (.ref b), some (.ref x), some (.ref m), some (.int (nI i))] [] h) := by
  have I0 := I
  obtain ⟨hS, ⟨dr, ra, ba, pa, W⟩, hM, hb⟩ := I0
  obtain ⟨h1, h2, F1, e1, c1, o1, e2, I2, b1, b2⟩ := op_two (km := 219) (am := [.ref m, .int (f (i + 1)), .int (f (i + 2)), .int (f (i + 3)), .int (f (i + 4)), .int (f (i + 5))]) (S' := (rCopy S (f (i + 1)) (f (i + 2)) (f (i + 3)) (f (i + 4)) (f (i + 5))).2) I (ok_copy hS (f (i + 1)) (f (i + 2)) (f (i + 3)) (f (i + 4)) (f (i + 5))) ((T_copy W hS (f (i + 1)) (f (i + 2)) (f (i + 3)) (f (i + 4)) (f (i + 5))).w) (fun h F A R0 => M_copy R0 hS (f (i + 1)) (f (i + 2)) (f (i + 3)) (f (i + 4)) (f (i + 5)))
  refine ⟨_, h2, ?_, I2, b1, b2⟩
  simp (disch := omega) only [B0_1406, B0_1425, B0_1435, B0_1455, B0_1464, nJ_add, cs_r hb, xw_o W, e1, obd_some, obd_none, Option.toList_some, Option.toList_none, List.cons_append, List.nil_append, cond_true, cond_false, cs_r c1, o1, e2, ite_true]

theorem op_31 (I : LI x m b n f S h) (hn : n < 2147483648) (hi : i + 8 < n) : OpR x m b n f i h (R 26 0 1469 [some (.ref b), some (.ref x), some (.ref m), some (.int (nI i))] [] h) := by
  have I0 := I
  obtain ⟨hS, ⟨dr, ra, ba, pa, W⟩, hM, hb⟩ := I0
  obtain ⟨h1, h2, F1, e1, c1, o1, e2, I2, b1, b2⟩ := op_two (km := 220) (am := [.ref m, .int (f (i + 1))]) (S' := (rTell S (f (i + 1))).2) I (ok_tell hS (f (i + 1))) ((T_tell W hS (f (i + 1))).w) (fun h F A R0 => M_tell R0 hS (f (i + 1)))
  refine ⟨_, h2, ?_, I2, b1, b2⟩
  simp (disch := omega) only [B0_1469, B0_1478, B0_1487, nJ_add, cs_r hb, xw_o W, e1, obd_some, obd_none, Option.toList_some, Option.toList_none, List.cons_append, List.nil_append, cond_true, cond_false, cs_r c1, o1, e2, ite_true]

theorem op_32 (I : LI x m b n f S h) (hn : n < 2147483648) (hi : i + 8 < n) : OpR x m b n f i h (R 26 0 1492 [some (.ref b), some (.ref x), some (.ref m), some (.int (nI i))] [] h) := by
  have I0 := I
  obtain ⟨hS, ⟨dr, ra, ba, pa, W⟩, hM, hb⟩ := I0
  obtain ⟨h1, h2, F1, e1, c1, o1, e2, I2, b1, b2⟩ := op_two (km := 222) (am := [.ref m, .int (f (i + 1))]) (S' := (rCall S (f (i + 1))).2) I (ok_call hS (f (i + 1))) ((T_call W hS (f (i + 1))).w) (fun h F A R0 => M_call R0 hS (f (i + 1)))
  refine ⟨_, h2, ?_, I2, b1, b2⟩
  simp (disch := omega) only [B0_1492, B0_1501, B0_1510, nJ_add, cs_r hb, xw_o W, e1, obd_some, obd_none, Option.toList_some, Option.toList_none, List.cons_append, List.nil_append, cond_true, cond_false, cs_r c1, o1, e2, ite_true]

theorem op_33 (I : LI x m b n f S h) (hn : n < 2147483648) (hi : i + 8 < n) : OpR x m b n f i h (R 26 0 1515 [some (.ref b), some (.ref x), some (.ref m), some (.int (nI i))] [] h) := by
  have I0 := I
  obtain ⟨hS, ⟨dr, ra, ba, pa, W⟩, hM, hb⟩ := I0
  obtain ⟨h1, h2, F1, e1, c1, o1, e2, I2, b1, b2⟩ := op_two (km := 223) (am := [.ref m, .int (f (i + 1)), .int (f (i + 2))]) (S' := (rAs S (f (i + 1)) (f (i + 2))).2) I (ok_as hS (f (i + 1)) (f (i + 2))) ((T_as W hS (f (i + 1)) (f (i + 2))).w) (fun h F A R0 => M_as R0 hS (f (i + 1)) (f (i + 2)))
  refine ⟨_, h2, ?_, I2, b1, b2⟩
  simp (disch := omega) only [B0_1515, B0_1529, B0_1543, nJ_add, cs_r hb, xw_o W, e1, obd_some, obd_none, Option.toList_some, Option.toList_none, List.cons_append, List.nil_append, cond_true, cond_false, cs_r c1, o1, e2, ite_true]

theorem op_34 (I : LI x m b n f S h) (hn : n < 2147483648) (hi : i + 8 < n) : OpR x m b n f i h (R 26 0 1548 [some (.ref b), some (.ref x), some (.ref m), some (.int (nI i))] [] h) := by
  have I0 := I
  obtain ⟨hS, ⟨dr, ra, ba, pa, W⟩, hM, hb⟩ := I0
  obtain ⟨h1, h2, F1, e1, c1, o1, e2, I2, b1, b2⟩ := op_two (km := 224) (am := [.ref m]) (S' := S) I (hS) ((Gv.same W (T_trace W)).w) (fun h F A R0 => Mv.same R0 (M_trace R0))
  refine ⟨_, h2, ?_, I2, b1, b2⟩
  simp (disch := omega) only [B0_1548, B0_1552, B0_1556, nJ_add, cs_r hb, xw_o W, e1, obd_some, obd_none, Option.toList_some, Option.toList_none, List.cons_append, List.nil_append, cond_true, cond_false, cs_r c1, o1, e2, ite_true]

theorem op_35 (I : LI x m b n f S h) (hn : n < 2147483648) (hi : i + 8 < n) : OpR x m b n f i h (R 26 0 1561 [some (.ref b), some (.ref x), some (.ref m), some (.int (nI i))] [] h) := by
  have I0 := I
  obtain ⟨hS, ⟨dr, ra, ba, pa, W⟩, hM, hb⟩ := I0
  obtain ⟨h1, h2, F1, e1, c1, o1, e2, I2, b1, b2⟩ := op_two (km := 225) (am := [.ref m]) (S' := S) I (hS) ((Gv.same W (T_fault W)).w) (fun h F A R0 => Mv.same R0 (M_fault R0))
  refine ⟨_, h2, ?_, I2, b1, b2⟩
  simp (disch := omega) only [B0_1561, B0_1565, B0_1569, nJ_add, cs_r hb, xw_o W, e1, obd_some, obd_none, Option.toList_some, Option.toList_none, List.cons_append, List.nil_append, cond_true, cond_false, cs_r c1, o1, e2, ite_true]

theorem op_36 (I : LI x m b n f S h) (hn : n < 2147483648) (hi : i + 8 < n) : OpR x m b n f i h (R 26 0 1574 [some (.ref b), some (.ref x), some (.ref m), some (.int (nI i))] [] h) := by
  have I0 := I
  obtain ⟨hS, ⟨dr, ra, ba, pa, W⟩, hM, hb⟩ := I0
  obtain ⟨h1, h2, F1, e1, c1, o1, e2, I2, b1, b2⟩ := op_two (km := 226) (am := [.ref m, .int (f (i + 1))]) (S' := S) I (hS) ((Gv.same W (T_many W hS (f (i + 1)))).w) (fun h F A R0 => Mv.same R0 (M_many R0 hS (f (i + 1))))
  refine ⟨_, h2, ?_, I2, b1, b2⟩
  simp (disch := omega) only [B0_1574, B0_1583, B0_1592, nJ_add, cs_r hb, xw_o W, e1, obd_some, obd_none, Option.toList_some, Option.toList_none, List.cons_append, List.nil_append, cond_true, cond_false, cs_r c1, o1, e2, ite_true]

theorem op_all (I : LI x m b n f S h) (hn : n < 2147483648) (hi : i + 8 < n) {t : Nat} (ht : t < 37) : OpR x m b n f i h (R 26 0 (((33 : Nat) : Int) + (#[163, 216, 249, 292, 335, 378, 421, 464, 507, 530, 629, 662, 705, 728, 771, 814, 857, 890, 923, 957, 1010, 1073, 1096, 1119, 1142, 1176, 1220, 1263, 1286, 1329, 1373, 1436, 1459, 1482, 1515, 1528, 1541] : Array Int).getD t 0).toNat [some (.ref b), some (.ref x), some (.ref m), some (.int (nI i))] [] h) := by
  match t, ht with
  | 0, _ => exact op_0 I hn hi
  | 1, _ => exact op_1 I hn hi
  | 2, _ => exact op_2 I hn hi
  | 3, _ => exact op_3 I hn hi
  | 4, _ => exact op_4 I hn hi
  | 5, _ => exact op_5 I hn hi
  | 6, _ => exact op_6 I hn hi
  | 7, _ => exact op_7 I hn hi
  | 8, _ => exact op_8 I hn hi
  | 9, _ => exact op_9 I hn hi
  | 10, _ => exact op_10 I hn hi
  | 11, _ => exact op_11 I hn hi
  | 12, _ => exact op_12 I hn hi
  | 13, _ => exact op_13 I hn hi
  | 14, _ => exact op_14 I hn hi
  | 15, _ => exact op_15 I hn hi
  | 16, _ => exact op_16 I hn hi
  | 17, _ => exact op_17 I hn hi
  | 18, _ => exact op_18 I hn hi
  | 19, _ => exact op_19 I hn hi
  | 20, _ => exact op_20 I hn hi
  | 21, _ => exact op_21 I hn hi
  | 22, _ => exact op_22 I hn hi
  | 23, _ => exact op_23 I hn hi
  | 24, _ => exact op_24 I hn hi
  | 25, _ => exact op_25 I hn hi
  | 26, _ => exact op_26 I hn hi
  | 27, _ => exact op_27 I hn hi
  | 28, _ => exact op_28 I hn hi
  | 29, _ => exact op_29 I hn hi
  | 30, _ => exact op_30 I hn hi
  | 31, _ => exact op_31 I hn hi
  | 32, _ => exact op_32 I hn hi
  | 33, _ => exact op_33 I hn hi
  | 34, _ => exact op_34 I hn hi
  | 35, _ => exact op_35 I hn hi
  | 36, _ => exact op_36 I hn hi
  | t + 37, z => exact absurd z (by omega)
end LawOps
theorem law_loop {x m b n : Nat} {f : Nat → Int32} (hn : n ≤ 4608) : ∀ k i S h, n < i + 9 + 9 * k → i ≤ 5000 → LI x m b n f S h → ∃ h', R 26 0 18 [some (.ref b), some (.ref x), some (.ref m), some (.int (nI i))] [] h = some (some (.int (nI 1)), h') ∧ h'.2.1 ≤ h.2.1 + 20 * k ∧ h'.2.2 ≤ h.2.2 + 600 * k := by
  have hcmp : ∀ i, i ≤ 5000 → (nI n - nI 9 < nI i) = (n < i + 9) := by
    intro i hi
    have e : (nI n - nI 9).toInt = (n : Int) - 9 := by
      rw [Int32.toInt_sub, toInt_nI (by omega), toInt_nI (by omega)]
      exact Int.bmod_eq_of_le (by omega) (by omega)
    rw [Int32.lt_iff_toInt_lt, e, toInt_nI (by omega)]
    exact propext ⟨fun _ => by omega, fun _ => by omega⟩
  intro k
  induction k with
  | zero =>
    intro i S h hk hi I
    refine ⟨h, ?_, by omega, by omega⟩
    rw [B0_18, cs_len I.2.2.2, obd_some, if_pos (by rw [hcmp i hi]; omega)]
  | succ k ih =>
    intro i S h hk hi I
    by_cases c : n < i + 9
    · refine ⟨h, ?_, by omega, by omega⟩
      rw [B0_18, cs_len I.2.2.2, obd_some, if_pos (by rw [hcmp i hi]; exact c)]
    · rw [B0_18, cs_len I.2.2.2, obd_some, if_neg (by rw [hcmp i hi]; exact c), cs_r I.2.2.2 (by omega) (by omega), obd_some, B0_33]
      by_cases ho : inN (f i &&& nI 63) 37
      · obtain ⟨t, ht, e⟩ := inN_nI ho
        rw [e, swT_in (by omega) (by omega)]
        obtain ⟨S', h', e1, I1, b1, b2⟩ := op_all I (by omega) (show i + 8 < n by omega) ht
        rw [e1]
        obtain ⟨h2, e2, b3, b4⟩ := ih (i + 9) S' h' (by omega) (by omega) I1
        exact ⟨h2, e2, by omega, by omega⟩
      · rw [swT_out (fun z => ho ⟨z.1, by have := z.2; omega⟩)]
        show ∃ h', R 26 0 1597 [some (.ref b), some (.ref x), some (.ref m), some (.int (nI i))] [] h = _ ∧ _
        rw [B0_1597, nJ_add]
        obtain ⟨h2, e2, b3, b4⟩ := ih (i + 9) S h (by omega) (by omega) I
        exact ⟨h2, e2, by omega, by omega⟩
theorem law_run {h : jHp} {b n : Nat} {f : Nat → Int32} (w : wf h) (e : h.1 b = some (cS n f)) (hn : n ≤ 4608) : ∃ h', mc 0 [.ref b] h = some (some (.int (nI 1)), h') ∧ h'.2.1 ≤ h.2.1 + 20000 ∧ h'.2.2 ≤ h.2.2 + 400000 := by
  obtain ⟨h1, e1, W1, K1, v1⟩ := T_init w
  have c1 := K1.2 b n f e
  have W2 : XW h.2.1 st0 (h.2.1 + 6) (fun _ => 0) (fun _ => 0) (fun _ => 0) (fr 8 h1 (h1.2.2 + fNT 8 + 3 + 3 + 3 + 18 + 18 + 48 + 36 + 3 + 3 + 6 + 6 + 16 + 12 + 10 + 10 + 10 + 10 + 240 + 24 + 28 + 24 + 4 + 2 + 14 + 2 + 2 + 4 + 4 + 480 + 120) mF0 (mAi 4)) := W1.fr
  have I0 : LI h.2.1 h1.2.1 b n f st0 (fr 8 h1 (h1.2.2 + fNT 8 + 3 + 3 + 3 + 18 + 18 + 48 + 36 + 3 + 3 + 6 + 6 + 16 + 12 + 10 + 10 + 10 + 10 + 240 + 24 + 28 + 24 + 4 + 2 + 14 + 2 + 2 + 4 + 4 + 480 + 120) mF0 (mAi 4)) := ⟨st0_ok, ⟨_, _, _, _, W2⟩, ⟨mF0, mAi 4, fr_own, MR_st0⟩, cell_fr c1 (xw_wf W1)⟩
  have v2 : (fr 8 h1 (h1.2.2 + fNT 8 + 3 + 3 + 3 + 18 + 18 + 48 + 36 + 3 + 3 + 6 + 6 + 16 + 12 + 10 + 10 + 10 + 10 + 240 + 24 + 28 + 24 + 4 + 2 + 14 + 2 + 2 + 4 + 4 + 480 + 120) mF0 (mAi 4)).2 = (h1.2.1 + 31, h1.2.2 + 1208) := rfl
  have e2 := M_init h1
  generalize fr 8 h1 (h1.2.2 + fNT 8 + 3 + 3 + 3 + 18 + 18 + 48 + 36 + 3 + 3 + 6 + 6 + 16 + 12 + 10 + 10 + 10 + 10 + 240 + 24 + 28 + 24 + 4 + 2 + 14 + 2 + 2 + 4 + 4 + 480 + 120) mF0 (mAi 4) = h2 at I0 v2 e2
  obtain ⟨h3, e3, b1, b2⟩ := law_loop hn 512 0 st0 h2 (by omega) (by omega) I0
  refine ⟨h3, ?_, ?_, ?_⟩
  · rw [M0, show (1 : Nat) = 1 from rfl, e1]
    simp only [obd_some, obd_none, Option.toList_some, Option.toList_none, List.cons_append, List.nil_append, cond_true, cond_false, B0_7]
    rw [e2]
    simp only [obd_some, obd_none, Option.toList_some, Option.toList_none, List.cons_append, List.nil_append, cond_true, cond_false, B0_15]
    exact e3
  · rw [v2, v1] at b1; dsimp only at b1; omega
  · rw [v2, v1] at b2; dsimp only at b2; omega
