section TPlan3
variable {x dr : Nat} {S : jST} {ra ba pa : Nat → Nat} {h : jHp}
theorem T_plan (W : XW x S dr ra ba pa h) (hS : stOk S) (kd v g mn k l i n : Int32) : stOk (rPlan S kd v g mn k l i n).2 ∧ Gw x (rPlan S kd v g mn k l i n).2 h (mc 44 [.ref x, .int kd, .int v, .int g, .int mn, .int k, .int l, .int i, .int n] h) (.int (rPlan S kd v g mn k l i n).1) := by
  have W0 := W.ownF 0
  have S0 := stOk_F hS (f := 0) (by omega)
  have K0 := W.keep (xF x (setF S 0) dr)
  rw [M44, xw_f W 0, obd_some, xw_o W0, obd_some]
  unfold rPlan
  have fin : ∀ {r : jRs} {v : Value}, r = some (some v, hX 7 h x (xF x (setF S 0) dr) zA) → stOk (setF S 0) ∧ Gw x (setF S 0) h r v := fun e => ⟨S0, _, _, _, _, _, e, W0, K0.keep⟩
  have e30 : ∀ o0 o1 o2 o3 o4 o5 o6 o7 o8 o9 o10 o11 o12 (h : jHp), R 3 44 30 [o0, o1, o2, o3, o4, o5, o6, o7, o8, o9, o10, o11, o12] [] h = some (some (.int (-nI 1)), h) := by
    intro o0 o1 o2 o3 o4 o5 o6 o7 o8 o9 o10 o11 o12 h
    rw [B44_30, B44_31]
  have e52 : ∀ o0 o1 o2 o3 o4 o5 o6 o7 o8 o9 o10 o11 o12 (h : jHp), R 3 44 52 [o0, o1, o2, o3, o4, o5, o6, o7, o8, o9, o10, o11, o12] [] h = some (some (.int (-nI 2)), h) := by
    intro o0 o1 o2 o3 o4 o5 o6 o7 o8 o9 o10 o11 o12 h
    rw [B44_52, B44_54]
  have e74 : ∀ o0 o1 o2 o3 o4 o5 o6 o7 o8 o9 o10 o11 o12 (h : jHp), R 3 44 74 [o0, o1, o2, o3, o4, o5, o6, o7, o8, o9, o10, o11, o12] [] h = some (some (.int (-nI 2)), h) := by
    intro o0 o1 o2 o3 o4 o5 o6 o7 o8 o9 o10 o11 o12 h
    rw [B44_74, B44_76]
  by_cases hk : inN k 4
  · obtain ⟨a, ha, rfl⟩ := inN_nI hk
    have H0 := xw_sheet W0 ha
    have hsd : sdOk (zS S a) := hS.2.2.2.2.2.2 a ha
    rw [if_pos hk, c_sheetOf W0 ha, toNat_nI (by omega)]
    simp only [obd_some, obd_none, Option.toList_some, Option.toList_none, List.cons_append, List.nil_append, cond_true, cond_false, B44_11r, xw_o W0]
    by_cases hv : inN v (zn S)
    · have hz := hS.1
      obtain ⟨u, hu, rfl⟩ := inN_nI hv
      have R0 := xw_road W0 hu
      obtain ⟨hd, hP, hE, _⟩ := hS.2.2.2.2.1 u hu
      have h6 := hd.1
      have h2 := hd.2.2.1
      have h24 := cells_le hd
      rw [if_pos hv, c_roadOf W0 S0 hu, toNat_nI (by omega)]
      simp only [obd_some, obd_none, Option.toList_some, Option.toList_none, List.cons_append, List.nil_append, cond_true, cond_false, B44_18rr, B44_38rr]
      by_cases hkd : inN kd 3
      · obtain ⟨ukd, hukd, rfl⟩ := inN_nI hkd
        rw [if_pos hkd, if_neg (nI_nneg (by omega)), if_pos (show nI ukd < nI 3 by rw [nJ_lt (by omega) (by omega)]; exact hukd)]
        rw [ite_in (by decide)]
        by_cases hl : inN l 3
        · rw [if_pos hl, if_pos hl, B44_59rrr, c_gateAs R0 hd]
          simp only [obd_some, obd_none, Option.toList_some, Option.toList_none, List.cons_append, List.nil_append, cond_true, cond_false, B44_62rr, b2i_0]
          by_cases hg : gOk2 (nI ukd) g (zD S u)
          · rw [if_neg (show ¬ ¬ gOk2 (nI ukd) g (zD (setF S 0) u) from not_not_intro hg), if_pos hg, c_minAs]
            simp only [obd_some, obd_none, Option.toList_some, Option.toList_none, List.cons_append, List.nil_append, cond_true, cond_false, B44_71rr, b2i_0]
            by_cases hm : mOk2 (nI ukd) mn
            · rw [if_neg (not_not_intro hm), if_pos hm, sh_o H0, obd_some, c_faultOfCells H0 hsd]
              simp only [obd_some, obd_none, Option.toList_some, Option.toList_none, List.cons_append, List.nil_append, cond_true, cond_false, B44_88rr]
              have hf4 := fCells_le (zS S a) l i n
              by_cases hf : fCells (zS S a) l i n = 0
              · obtain ⟨hc, _⟩ := fCells_0 hf
                obtain ⟨ui, un, rfl, rfl, hun⟩ := inCs_nI hsd hc
                have h120 := hsd.1
                rw [if_pos (show nI (fCells (zS (setF S 0) a) l (nI ui) (nI un)) = 0 by show nI (fCells (zS S a) l (nI ui) (nI un)) = 0; rw [hf]; rfl), if_pos hf, rd_o R0, obd_some, c_cellsOfPlan R0, toNat_nI (show ui < 2147483648 by omega), toNat_nI (show un < 2147483648 by omega), show fCells (zS (setF S 0) a) l (nI ui) (nI un) = 0 from hf]
                simp only [obd_some, obd_none, Option.toList_some, Option.toList_none, List.cons_append, List.nil_append, cond_true, cond_false, B44_109rr]
                by_cases hn : nI un = nI (rP (zD S u) * rE (zD S u))
                · rw [nI_inj (by omega) (by omega)] at hn
                  subst hn
                  rw [if_pos (show nI (rP (zD S u) * rE (zD S u)) = nI (rP (zD (setF S 0) u) * rE (zD (setF S 0) u)) from rfl), if_pos rfl, rd_2 R0, obd_some, sh_o H0, obd_some, c_allWithin H0 hsd hun]
                  simp only [obd_some, obd_none, Option.toList_some, Option.toList_none, List.cons_append, List.nil_append, cond_true, cond_false]
                  by_cases hw : awB (sC (zS S a)) ui (rB (zD S u)) (rP (zD S u) * rE (zD S u)) 0 = true
                  · have hcell := awB_in (show rB (zD S u) < 2147483648 by omega) _ 0 hw
                    rw [show b2j (awB (sC (zS (setF S 0) a)) ui (rB (zD (setF S 0) u)) (rP (zD S u) * rE (zD S u)) 0) = nI 1 by show b2j (awB (sC (zS S a)) ui (rB (zD S u)) (rP (zD S u) * rE (zD S u)) 0) = nI 1; rw [hw]; rfl, if_pos hw]
                    by_cases hm10 : zm S < 10
                    · have hgg : ∃ ug, g = nI ug ∧ ug < rP (zD S u) := by
                        rcases hg with ⟨_, z⟩ | ⟨_, z1, z2⟩
                        · exact ⟨0, z, hP⟩
                        · obtain ⟨ug, q1, rfl⟩ := inN_nI (k := g) (n := rP (zD S u)) ⟨by omega, z2⟩
                          exact ⟨ug, rfl, q1⟩
                      have hmm : ∃ um, mn = nI um ∧ um ≤ 60 := by
                        rcases hm with ⟨_, z1, z2⟩ | ⟨_, z⟩
                        · obtain ⟨um, q1, rfl⟩ := inN_nI (k := mn) (n := 61) ⟨by omega, by omega⟩
                          exact ⟨um, rfl, by omega⟩
                        · exact ⟨0, z, by omega⟩
                      obtain ⟨ug, rfl, hug⟩ := hgg
                      obtain ⟨um, rfl, hum⟩ := hmm
                      have hpl : plOk (zD S u) (pdOf (nI ukd) (nI u) (nI ug) (nI um) (sC (zS S a)) ui (rP (zD S u) * rE (zD S u))) := by
                        refine ⟨?_, ?_, ?_, fun t => ?_, fun t ht => ?_⟩
                        · show (nI ukd).toNatClampNeg < 3; rw [toNat_nI (by omega)]; exact hukd
                        · show (nI ug).toNatClampNeg < _; rw [toNat_nI (by omega)]; exact hug
                        · show (nI um).toNatClampNeg ≤ 60; rw [toNat_nI (by omega)]; exact hum
                        · show (if t < rP (zD S u) * rE (zD S u) then (sC (zS S a) (ui + t)).toNatClampNeg else 0) ≤ _
                          by_cases c : t < rP (zD S u) * rE (zD S u)
                          · rw [if_pos c]; exact (hcell t (Nat.zero_le _) (by omega)).2
                          · rw [if_neg c]; exact Nat.zero_le _
                        · show (if t < rP (zD S u) * rE (zD S u) then (sC (zS S a) (ui + t)).toNatClampNeg else 0) = 0
                          rw [if_neg (by omega)]
                      obtain ⟨h', pa', q1, q2, q3, q4⟩ := l_plan129 (l := l) W0 S0 hm10 ha hu hpl (by omega) (by omega) (by omega) hun (fun t (ht : t < rP (zD S u) * rE (zD S u)) => (hcell t (Nat.zero_le _) (by omega)).1)
                      have h02 : (hX 7 h x (xF x (setF S 0) dr) zA).2 = h.2 := rfl
                      rw [if_pos hm10]
                      refine ⟨stOk_P S0 hm10 (show (nI u).toNatClampNeg < zn S by rw [toNat_nI (by omega)]; exact hu) (by
                        show plOk (zD S (nI u).toNatClampNeg) _
                        rw [toNat_nI (by omega)]; exact hpl), h', dr, ra, ba, pa', q1, q2, (K0.P.tr q3).keep ?_ ?_ ?_ ?_⟩
                      · rw [q4]; show h.2.1 ≤ h.2.1 + 11; omega
                      · rw [q4]; show h.2.1 + 11 ≤ h.2.1 + 20; omega
                      · rw [q4]; show h.2.2 ≤ h.2.2 + 180; omega
                      · rw [q4]; show h.2.2 + 180 ≤ h.2.2 + 600; omega
                    · have h10 := hS.2.1
                      rw [if_neg hm10, B44_129rr, if_neg (show ¬ nI 1 = 0 by decide), xw_7 W0, obd_some, if_neg (show ¬ nI (zm (setF S 0)) < nI 10 by show ¬ nI (zm S) < nI 10; rw [nJ_lt (by omega) (by omega)]; exact hm10)]
                      exact fin rfl
                  · rw [show b2j (awB (sC (zS (setF S 0) a)) ui (rB (zD (setF S 0) u)) (rP (zD S u) * rE (zD S u)) 0) = nI 0 by show b2j (awB (sC (zS S a)) ui (rB (zD S u)) (rP (zD S u) * rE (zD S u)) 0) = nI 0; rw [Bool.eq_false_iff.mpr hw]; rfl, if_neg hw, B44_129rr, if_pos (show nI 0 = 0 from rfl)]
                    exact fin rfl
                · rw [if_neg (show ¬ nI un = nI (rP (zD (setF S 0) u) * rE (zD (setF S 0) u)) from hn), if_neg hn]
                  exact fin rfl
              · rw [if_neg (show ¬ nI (fCells (zS (setF S 0) a) l i n) = 0 by show ¬ nI (fCells (zS S a) l i n) = 0; rw [nI_eq0 (by omega)]; exact hf), if_neg hf, xw_o W0, obd_some, c_failed W0]
                simp only [obd_some, obd_none, Option.toList_some, Option.toList_none, List.cons_append, List.nil_append, cond_true, cond_false, B44_101rr]
                exact ⟨stOk_F hS hf4, _, _, _, _, _, rfl, W0.own rfl rfl rfl rfl rfl, (K0.tr (W0.keep _)).keep⟩
            · rw [if_pos hm, if_neg hm, e74]
              exact fin rfl
          · rw [if_pos (show ¬ gOk2 (nI ukd) g (zD (setF S 0) u) from hg), if_neg hg, e74]
            exact fin rfl
        · rw [if_neg hl, if_neg hl, e52]
          exact fin rfl
      · rw [if_neg hkd]
        by_cases a0 : kd < 0
        · rw [if_pos a0, e52]
          exact fin rfl
        · rw [if_neg a0, if_neg (out_N (by decide) hkd a0), e52]
          exact fin rfl
    · rw [if_neg hv, c_roadNo W0 S0 hv]
      simp only [obd_some, obd_none, Option.toList_some, Option.toList_none, List.cons_append, List.nil_append, cond_true, cond_false, B44_18rn, e30]
      exact fin rfl
  · rw [if_neg hk, c_sheetNo hk]
    simp only [obd_some, obd_none, Option.toList_some, Option.toList_none, List.cons_append, List.nil_append, cond_true, cond_false, B44_11n, xw_o W0]
    by_cases hv : inN v (zn S)
    · have hz := hS.1
      obtain ⟨u, hu, rfl⟩ := inN_nI hv
      rw [c_roadOf W0 S0 hu]
      simp only [obd_some, obd_none, Option.toList_some, Option.toList_none, List.cons_append, List.nil_append, cond_true, cond_false, B44_18nr, e30]
      exact fin rfl
    · rw [c_roadNo W0 S0 hv]
      simp only [obd_some, obd_none, Option.toList_some, Option.toList_none, List.cons_append, List.nil_append, cond_true, cond_false, B44_18nn, e30]
      exact fin rfl
end TPlan3
