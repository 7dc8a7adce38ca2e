/-! The reference's new plan. -/
def pmA (A : Nat → Nat → Int32) (z s n : Nat) : Nat → Nat → Int32 := fun j t => if j = 18 ∧ 24 * z ≤ t ∧ t < 24 * z + n then A 29 (s + (t - 24 * z)) else A j t
theorem pmA_s (A : Nat → Nat → Int32) (z s n : Nat) : uA (pmA A z s n) 18 (24 * z + n) (A 29 (s + n)) = pmA A z s (n + 1) := by
  funext j t
  unfold uA pmA
  by_cases e4 : j = 18 ∧ t = 24 * z + n
  · rw [if_pos e4, if_pos (by omega), e4.2, Nat.add_sub_cancel_left]
  · rw [if_neg e4]
    by_cases e : j = 18 ∧ 24 * z ≤ t ∧ t < 24 * z + n
    · rw [if_pos e, if_pos (by omega)]
    · rw [if_neg e, if_neg (by omega)]
theorem pmA_n {A : Nat → Nat → Int32} {z s n j t : Nat} (hj : ¬ (j = 18 ∧ 24 * z ≤ t ∧ t < 24 * z + n)) : pmA A z s n j t = A j t := by
  unfold pmA; rw [if_neg hj]
section MPlan2
variable {h : jHp} {m : Nat} {S : jST} {F : Nat → Value} {A : Nat → Nat → Int32}
theorem l_pcells (R0 : MR S F A) (hS : stOk S) {v a i n : Nat} (hv : v < zn S) (ha : a < 4) (hi : i + n ≤ sN (zS S a)) (kd g mn : Int32) : ∀ c t (o6 o9 o10 o11 : Option Value), t + c = n →
    R 3 175 173 [some (.ref m), some (.int kd), some (.int (nI v)), some (.int g), some (.int mn), some (.int (nI a)), o6, some (.int (nI i)), some (.int (nI n)), o9, o10, o11, some (.int (nI t))] [] (hX 8 h m F A) = if awB (sC (zS S a)) i (rB (zD S v)) c t = true then (if nI (zm S) = nI 10 then R 3 175 235 [some (.ref m), some (.int kd), some (.int (nI v)), some (.int g), some (.int mn), some (.int (nI a)), none, some (.int (nI i)), some (.int (nI n)), none, none, none, some (.int (nI n))] [.int (-nI 4), .ref m] (hX 8 h m F A) else R 3 175 243 [some (.ref m), some (.int kd), some (.int (nI v)), some (.int g), some (.int mn), some (.int (nI a)), none, some (.int (nI i)), some (.int (nI n)), none, none, none, some (.int (nI n))] [.ref (m + 14)] (hX 8 h m F A)) else some (some (.int (-nI 1)), hX 8 h m (updV F 0 (.int (nI 0))) A) := by
  have h3 := hS.1
  have h120 := (hS.2.2.2.2.2.2 a ha).1
  have h2 := (hS.2.2.2.2.1 v hv).1.2.2.1
  have H := R0.2.2.2 a ha
  intro c
  induction c with
  | zero =>
    intro t o6 o9 o10 o11 ht
    obtain rfl : t = n := ht
    rw [B175_173, if_neg (show ¬ nI t < nI t from Int32.lt_irrefl), x8_21, R0.1.2.2.2.1, vI_i, obd_some, x8_22, obd_some]
    rfl
  | succ c ih =>
    intro t o6 o9 o10 o11 htc
    have b1 := Int32.le_toInt (sC (zS S a) (i + t))
    have b2 := Int32.toInt_lt (sC (zS S a) (i + t))
    rw [B175_173, if_pos (show nI t < nI n by rw [nJ_lt (by omega) (by omega)]; omega), x8_42, obd_some, B175_191, nI_mul, nJ_add, nJ_add, m_29 (by omega), obd_some, x8_4, obd_some, B175_203, m_3 (by omega), obd_some, (R0.2.1 v hv).2.2.1, Nat.add_assoc, H.2.2 (i + t) (by omega), c_inP _ (by omega)]
    simp only [obd_some, obd_none, Option.toList_some, Option.toList_none, List.cons_append, List.nil_append, cond_true, cond_false, B175_208, b2i_0]
    rw [awB]
    by_cases c1 : sC (zS S a) (i + t) < 0
    · rw [lt0_int] at c1
      rw [if_pos (show ¬ inN (sC (zS S a) (i + t)) (rB (zD S v) + 1) from fun z => by have := z.1; omega), if_pos (show sC (zS S a) (i + t) < 0 by rw [lt0_int]; exact c1), if_neg Bool.false_ne_true, m_o, obd_some, c_refused]
      simp only [obd_some, obd_none, Option.toList_some, Option.toList_none, List.cons_append, List.nil_append, cond_true, cond_false, B175_216]
    · rw [if_neg c1]
      rw [lt0_int] at c1
      by_cases c2 : nI (rB (zD S v)) < sC (zS S a) (i + t)
      · rw [if_pos c2]
        rw [gt_int (by omega)] at c2
        rw [if_pos (show ¬ inN (sC (zS S a) (i + t)) (rB (zD S v) + 1) from fun z => by have := z.2; omega), if_neg Bool.false_ne_true, m_o, obd_some, c_refused]
        simp only [obd_some, obd_none, Option.toList_some, Option.toList_none, List.cons_append, List.nil_append, cond_true, cond_false, B175_216]
      · rw [if_neg c2]
        rw [gt_int (by omega)] at c2
        rw [if_neg (not_not_intro (show inN (sC (zS S a) (i + t)) (rB (zD S v) + 1) from ⟨by omega, by omega⟩)), nJ_add]
        exact ih (t + 1) none none none none (by omega)
theorem l_pcopy {z a i n : Nat} (hz : z < 10) (ha : a < 4) (hn : n ≤ 24) (hi : i + n ≤ 120) (h21 : F 21 = .int (nI z)) : ∀ c t (o1 o2 o3 o4 o6 o9 o10 o11 : Option Value), t + c = n →
    R 3 175 283 [some (.ref m), o1, o2, o3, o4, some (.int (nI a)), o6, some (.int (nI i)), some (.int (nI n)), o9, o10, o11, some (.int (nI t))] [] (hX 8 h m F (pmA A z (120 * a + i) t)) = some (some (.int (nI z)), hX 8 h m (updV (updV F 21 (.int (nI (z + 1)))) 0 (.int (nI 0))) (pmA A z (120 * a + i) n)) := by
  intro c
  induction c with
  | zero =>
    intro t o1 o2 o3 o4 o6 o9 o10 o11 ht
    obtain rfl : t = n := ht
    rw [B175_283, B175_285, if_neg (show ¬ nI t < nI t from Int32.lt_irrefl), x8_21, h21, vI_i, obd_some, p8_21, obd_some, B175_338, x8_21, updV_s, vI_i, obd_some, m_o, obd_some, c_refused]
    simp only [obd_some, obd_none, Option.toList_some, Option.toList_none, List.cons_append, List.nil_append, cond_true, cond_false, B175_347, nJ_add]
    rw [nI_sub (by omega), Nat.add_sub_cancel]
  | succ c ih =>
    intro t o1 o2 o3 o4 o6 o9 o10 o11 htc
    rw [B175_283, B175_285, if_pos (show nI t < nI n by rw [nJ_lt (by omega) (by omega)]; omega), x8_26, obd_some, x8_21, h21, vI_i, obd_some, B175_303, x8_42, obd_some, B175_318, nI_mul, nI_mul, nJ_add, nJ_add, nJ_add, m_29 (by omega), obd_some, pmA_n (by omega), mw_18 (by omega), obd_some, nJ_add, pmA_s]
    exact ih (t + 1) none none none none none none none none (by omega)
theorem M_plan (R0 : MR S F A) (hS : stOk S) (kd v g mn k l i n : Int32) : Mv m (rPlan S kd v g mn k l i n).2 h (mc 175 [.ref m, .int kd, .int v, .int g, .int mn, .int k, .int l, .int i, .int n] (hX 8 h m F A)) (.int (rPlan S kd v g mn k l i n).1) := by
  have h3 := hS.1
  have h10 := hS.2.1
  have e16 : ∀ o1 o2 o3 o4 o5 o6 o7 o8 o9 o10 o11 o12, Mv m (setF S 0) h (R 3 175 16 [some (.ref m), o1, o2, o3, o4, o5, o6, o7, o8, o9, o10, o11, o12] [] (hX 8 h m F A)) (.int (-nI 1)) := by
    intro o1 o2 o3 o4 o5 o6 o7 o8 o9 o10 o11 o12
    rw [B175_16, B175_17, m_o, obd_some, c_refused]
    simp only [obd_some, obd_none, Option.toList_some, Option.toList_none, List.cons_append, List.nil_append, cond_true, cond_false, B175_21]
    exact ⟨_, _, rfl, R0.f0 0⟩
  have e115 : ∀ o1 o2 o3 o4 o5 o6 o7 o8 o9 o10 o11 o12, Mv m (setF S 0) h (R 3 175 115 [some (.ref m), o1, o2, o3, o4, o5, o6, o7, o8, o9, o10, o11, o12] [] (hX 8 h m F A)) (.int (-nI 2)) := by
    intro o1 o2 o3 o4 o5 o6 o7 o8 o9 o10 o11 o12
    rw [B175_115, B175_116, m_o, obd_some, c_refused]
    simp only [obd_some, obd_none, Option.toList_some, Option.toList_none, List.cons_append, List.nil_append, cond_true, cond_false, B175_121]
    exact ⟨_, _, rfl, R0.f0 0⟩
  rw [M175, c_noSheet]
  simp only [obd_some, obd_none, Option.toList_some, Option.toList_none, List.cons_append, List.nil_append, cond_true, cond_false, B175_5, b2i_0]
  unfold rPlan
  by_cases hk : inN k 4
  · obtain ⟨a, ha, rfl⟩ := inN_nI hk
    rw [if_pos (not_not_intro hk), if_pos hk, m_o, obd_some, c_noRoad R0 hS, toNat_nI (show a < 2147483648 by omega)]
    simp only [obd_some, obd_none, Option.toList_some, Option.toList_none, List.cons_append, List.nil_append, cond_true, cond_false, B175_13, b2i_0]
    by_cases hv : inN v (zn S)
    · obtain ⟨u, hu, rfl⟩ := inN_nI hv
      have hg0 := hS.2.2.2.2.1 u hu
      have hd := hg0.1
      have h6 := hd.1
      have h4 := hd.2.1
      have D0 := R0.2.1 u hu
      have hsd : sdOk (zS S a) := hS.2.2.2.2.2.2 a ha
      have h120 := hsd.1
      have b1 := Int32.le_toInt g
      have b2 := Int32.toInt_lt g
      have b3 := Int32.le_toInt mn
      have b4 := Int32.toInt_lt mn
      have b5 := Int32.le_toInt kd
      have b6 := Int32.toInt_lt kd
      have hP := hg0.2.1
      rw [if_pos (not_not_intro hv), if_pos hv, toNat_nI (show u < 2147483648 by omega)]
      -- the rest, once the gate and the minutes are weighed
      have rest : ∀ o11 o12, Mv m (if inN kd 3 then (if inN l 3 then (if gOk2 kd g (zD S u) then (if mOk2 kd mn then
    (if fCells (zS S a) l i n = 0 then (if n = nI (rP (zD S u) * rE (zD S u)) then
      (if awB (sC (zS S a)) i.toNatClampNeg (rB (zD S u)) n.toNatClampNeg 0 = true then (if zm S < 10 then (nI (zm S), addP (setF S 0) (pdOf kd (nI u) g mn (sC (zS S a)) i.toNatClampNeg n.toNatClampNeg)) else (-nI 4, setF S 0)) else (-nI 1, setF S 0))
      else (-nI 2, setF S 0)) else (fI (fCells (zS S a) l i n), setF S (fCells (zS S a) l i n)))
    else (-nI 2, setF S 0)) else (-nI 2, setF S 0)) else (-nI 2, setF S 0)) else (-nI 2, setF S 0)).2 h (R 3 175 83 [some (.ref m), some (.int kd), some (.int (nI u)), some (.int g), some (.int mn), some (.int (nI a)), some (.int l), some (.int i), some (.int n), some (.int (b2i (gOk2 kd g (zD S u)))), o11, o12, none] [.int (b2i (mOk2 kd mn))] (hX 8 h m F A)) (.int (if inN kd 3 then (if inN l 3 then (if gOk2 kd g (zD S u) then (if mOk2 kd mn then
    (if fCells (zS S a) l i n = 0 then (if n = nI (rP (zD S u) * rE (zD S u)) then
      (if awB (sC (zS S a)) i.toNatClampNeg (rB (zD S u)) n.toNatClampNeg 0 = true then (if zm S < 10 then (nI (zm S), addP (setF S 0) (pdOf kd (nI u) g mn (sC (zS S a)) i.toNatClampNeg n.toNatClampNeg)) else (-nI 4, setF S 0)) else (-nI 1, setF S 0))
      else (-nI 2, setF S 0)) else (fI (fCells (zS S a) l i n), setF S (fCells (zS S a) l i n)))
    else (-nI 2, setF S 0)) else (-nI 2, setF S 0)) else (-nI 2, setF S 0)) else (-nI 2, setF S 0)).1) := by
        intro o11 o12
        rw [B175_83, c_inN kd (by decide)]
        simp only [obd_some, obd_none, Option.toList_some, Option.toList_none, List.cons_append, List.nil_append, cond_true, cond_false, B175_94, b2i_0]
        by_cases hkd : inN kd 3
        · rw [if_neg (not_not_intro hkd), if_pos hkd, c_isLane]
          simp only [obd_some, obd_none, Option.toList_some, Option.toList_none, List.cons_append, List.nil_append, cond_true, cond_false, B175_102, b2i_0]
          by_cases hl : inN l 3
          · rw [if_neg (not_not_intro hl), if_pos hl]
            by_cases hg : gOk2 kd g (zD S u)
            · rw [if_neg (not_not_intro hg), if_pos hg]
              by_cases hm : mOk2 kd mn
              · rw [if_neg (not_not_intro hm), if_pos hm, B175_129, m_o, obd_some, c_barred R0 hS ha]
                by_cases hf : fCells (zS S a) l i n = 0
                · obtain ⟨hc, _⟩ := fCells_0 hf
                  obtain ⟨ui, un, rfl, rfl, hun⟩ := inCs_nI hsd hc
                  rw [if_pos hf, if_pos hf, toNat_nI (show ui < 2147483648 by omega), toNat_nI (show un < 2147483648 by omega)]
                  simp only [obd_some, obd_none, Option.toList_some, Option.toList_none, List.cons_append, List.nil_append, cond_true, cond_false, B175_135]
                  rw [if_neg (show ¬ nI 0 < 0 by decide), x8_2, obd_some, m_1 (by omega), obd_some, D0.1, B175_154, x8_3, obd_some, m_2 (by omega), obd_some, D0.2.1, nI_mul]
                  have h24 := cells_le hd
                  by_cases hn : nI un = nI (rP (zD S u) * rE (zD S u))
                  · have hn' := hn
                    rw [nI_inj (by omega) (by omega)] at hn'
                    rw [if_pos hn, if_pos hn, l_pcells R0 hS hu ha hun kd g mn un 0 _ _ _ _ (Nat.zero_add _)]
                    by_cases hw : awB (sC (zS S a)) ui (rB (zD S u)) un 0 = true
                    · have hcell := awB_in (show rB (zD S u) < 2147483648 by have := hd.2.2.1; omega) un 0 hw
                      rw [if_pos hw, if_pos hw]
                      by_cases hm10 : zm S < 10
                      · obtain ⟨ukd, hukd, rfl⟩ := inN_nI hkd
                        have hgg : ∃ ug, g = nI ug ∧ ug < rP (zD S u) := by
                          rcases hg with ⟨_, z⟩ | ⟨_, z1, z2⟩
                          · exact ⟨0, z, hP⟩
                          · obtain ⟨ug, q1, rfl⟩ := inN_nI (k := g) (n := rP (zD S u)) ⟨by omega, z2⟩
                            exact ⟨ug, rfl, q1⟩
                        have hmm : ∃ um, mn = nI um ∧ um ≤ 60 := by
                          rcases hm with ⟨_, z1, z2⟩ | ⟨_, z⟩
                          · obtain ⟨um, q1, rfl⟩ := inN_nI (k := mn) (n := 61) ⟨by omega, by omega⟩
                            exact ⟨um, rfl, by omega⟩
                          · exact ⟨0, z, by omega⟩
                        obtain ⟨ug, rfl, hug⟩ := hgg
                        obtain ⟨um, rfl, hum⟩ := hmm
                        rw [if_neg (show ¬ nI (zm S) = nI 10 by rw [nI_inj (by omega) (by omega)]; omega), if_pos hm10, B175_243, x8_21, R0.1.2.2.2.1, vI_i, obd_some, mw_14 hm10, obd_some, x8_23, obd_some, x8_21, R0.1.2.2.2.1, vI_i, obd_some, B175_258, mw_15 hm10, obd_some, x8_24, obd_some, x8_21, R0.1.2.2.2.1, vI_i, obd_some, mw_16 hm10, obd_some, x8_25, obd_some, B175_273, x8_21, R0.1.2.2.2.1, vI_i, obd_some, mw_17 hm10, obd_some]
                        generalize hA2 : uA (uA (uA (uA A 14 (zm S) (nI ukd)) 15 (zm S) (nI u)) 16 (zm S) (nI ug)) 17 (zm S) (nI um) = A2
                        have e1 := l_pcopy (h := h) (m := m) (A := A2) hm10 ha (show un ≤ 24 by omega) (show ui + un ≤ 120 by omega) R0.1.2.2.2.1 un 0 (some (.int (nI ukd))) (some (.int (nI u))) (some (.int (nI ug))) (some (.int (nI um))) none none none none (Nat.zero_add _)
                        rw [show pmA A2 (zm S) (120 * a + ui) 0 = A2 by funext j t; exact pmA_n (by omega)] at e1
                        rw [e1]
                        refine ⟨_, _, rfl, ⟨rfl, ?_, ?_, rfl, ?_⟩, fun j hj => ?_, fun q hq => ?_, fun j hj => ?_⟩
                        · rw [updV_n (by decide), updV_n (by decide)]; exact R0.1.2.1
                        · rw [updV_n (by decide), updV_n (by decide)]; exact R0.1.2.2.1
                        · rw [updV_n (by decide), updV_n (by decide)]; exact R0.1.2.2.2.2
                        · refine (R0.2.1 j hj).of fun x hx => ?_
                          funext t
                          rw [pmA_n (by omega), ← hA2, uA_n (by omega), uA_n (by omega), uA_n (by omega), uA_n (by omega)]
                        · have hq : q < zm S + 1 := hq
                          show MPl (zD S (pX (if q = zm S then pdOf (nI ukd) (nI u) (nI ug) (nI um) (sC (zS S a)) ui un else zP S q))) (if q = zm S then pdOf (nI ukd) (nI u) (nI ug) (nI um) (sC (zS S a)) ui un else zP S q) q _
                          by_cases c : q = zm S
                          · subst c
                            rw [if_pos rfl]
                            have ex : pX (pdOf (nI ukd) (nI u) (nI ug) (nI um) (sC (zS S a)) ui un) = u := toNat_nI (show u < 2147483648 by omega)
                            rw [ex]
                            refine ⟨?_, ?_, ?_, ?_, fun t ht => ?_⟩
                            · rw [pmA_n (by omega), ← hA2, uA_n (by omega), uA_n (by omega), uA_n (by omega), uA_s]
                              show nI ukd = nI (nI ukd).toNatClampNeg
                              rw [toNat_nI (by omega)]
                            · rw [pmA_n (by omega), ← hA2, uA_n (by omega), uA_n (by omega), uA_s]
                              show nI u = nI (nI u).toNatClampNeg
                              rw [toNat_nI (by omega)]
                            · rw [pmA_n (by omega), ← hA2, uA_n (by omega), uA_s]
                              show nI ug = nI (nI ug).toNatClampNeg
                              rw [toNat_nI (by omega)]
                            · rw [pmA_n (by omega), ← hA2, uA_s]
                              show nI um = nI (nI um).toNatClampNeg
                              rw [toNat_nI (by omega)]
                            · have hh := hcell t (Nat.zero_le _) (by omega)
                              show _ = nI (if t < un then (sC (zS S a) (ui + t)).toNatClampNeg else 0)
                              unfold pmA
                              rw [if_pos (by omega), Nat.add_sub_cancel_left, if_pos (by omega), ← hh.1, ← hA2, uA_n (by omega), uA_n (by omega), uA_n (by omega), uA_n (by omega), Nat.add_assoc, (R0.2.2.2 a ha).2.2 (ui + t) (by omega)]
                          · rw [if_neg c]
                            have hqz : q < zm S := by omega
                            obtain ⟨p1, p2, p3, p4, p5⟩ := R0.2.2.1 q hqz
                            obtain ⟨hx, hp⟩ := hS.2.2.2.2.2.1 q hqz
                            have h24q := cells_le (hS.2.2.2.2.1 _ hx).1
                            refine ⟨?_, ?_, ?_, ?_, fun t ht => ?_⟩
                            · rw [pmA_n (by omega), ← hA2, uA_n (by omega), uA_n (by omega), uA_n (by omega), uA_n (by omega)]; exact p1
                            · rw [pmA_n (by omega), ← hA2, uA_n (by omega), uA_n (by omega), uA_n (by omega), uA_n (by omega)]; exact p2
                            · rw [pmA_n (by omega), ← hA2, uA_n (by omega), uA_n (by omega), uA_n (by omega), uA_n (by omega)]; exact p3
                            · rw [pmA_n (by omega), ← hA2, uA_n (by omega), uA_n (by omega), uA_n (by omega), uA_n (by omega)]; exact p4
                            · have ht24 : t < 24 := Nat.lt_of_lt_of_le ht h24q
                              rw [pmA_n (by omega), ← hA2, uA_n (by omega), uA_n (by omega), uA_n (by omega), uA_n (by omega)]; exact p5 t ht
                        · refine MSh.of (A := A) (R0.2.2.2 j hj) fun x a1 a2 => ?_
                          funext t
                          rw [pmA_n (by omega), ← hA2, uA_n (by omega), uA_n (by omega), uA_n (by omega), uA_n (by omega)]
                      · rw [if_pos (show nI (zm S) = nI 10 by rw [show zm S = 10 by omega]), if_neg hm10, B175_235, m_o, obd_some, c_refused]
                        simp only [obd_some, obd_none, Option.toList_some, Option.toList_none, List.cons_append, List.nil_append, cond_true, cond_false, B175_238]
                        exact ⟨_, _, rfl, R0.f0 0⟩
                    · rw [if_neg hw, if_neg hw]
                      exact ⟨_, _, rfl, R0.f0 0⟩
                  · rw [if_neg hn, if_neg hn, m_o, obd_some, c_refused]
                    simp only [obd_some, obd_none, Option.toList_some, Option.toList_none, List.cons_append, List.nil_append, cond_true, cond_false, B175_169]
                    exact ⟨_, _, rfl, R0.f0 0⟩
                · have hf4 := fCells_le (zS S a) l i n
                  rw [if_neg hf, if_neg hf]
                  simp only [obd_some, obd_none, Option.toList_some, Option.toList_none, List.cons_append, List.nil_append, cond_true, cond_false, B175_135]
                  rw [if_pos (show fI (fCells (zS S a) l i n) < 0 by
                    rcases (by omega : fCells (zS S a) l i n = 1 ∨ fCells (zS S a) l i n = 2 ∨ fCells (zS S a) l i n = 3 ∨ fCells (zS S a) l i n = 4) with e | e | e | e <;> rw [e] <;> decide)]
                  exact ⟨_, _, rfl, R0.f0 _⟩
              · rw [if_pos hm, if_neg hm]
                exact e115 _ _ _ _ _ _ _ _ _ _ _ _
            · rw [if_pos hg, if_neg hg]
              exact e115 _ _ _ _ _ _ _ _ _ _ _ _
          · rw [if_pos hl, if_neg hl]
            exact e115 _ _ _ _ _ _ _ _ _ _ _ _
        · rw [if_pos hkd, if_neg hkd]
          exact e115 _ _ _ _ _ _ _ _ _ _ _ _
      have at53 : ∀ o9 o10 o11 o12 x, x = b2i (gOk2 kd g (zD S u)) → R 3 175 53 [some (.ref m), some (.int kd), some (.int (nI u)), some (.int g), some (.int mn), some (.int (nI a)), some (.int l), some (.int i), some (.int n), o9, o10, o11, o12] [.int x] (hX 8 h m F A) = R 3 175 83 [some (.ref m), some (.int kd), some (.int (nI u)), some (.int g), some (.int mn), some (.int (nI a)), some (.int l), some (.int i), some (.int n), some (.int (b2i (gOk2 kd g (zD S u)))), none, none, none] [.int (b2i (mOk2 kd mn))] (hX 8 h m F A) := by
        rintro o9 o10 o11 o12 x rfl
        rw [B175_53, B175_55]
        by_cases k2 : kd = nI 2
        · rw [if_pos k2, i2l, lN_z, lN_z, c_in ⟨by omega, by omega⟩ ⟨by omega, by omega⟩ ⟨by omega, by omega⟩]
          simp only [obd_some, obd_none, Option.toList_some, Option.toList_none, List.cons_append, List.nil_append, cond_true, cond_false, B175_70]
          rw [show b2i (((1 : Nat) : Int) ≤ mn.toInt ∧ mn.toInt ≤ ((60 : Nat) : Int)) = b2i (mOk2 kd mn) by
            unfold b2i
            by_cases c : (1 : Int) ≤ mn.toInt ∧ mn.toInt ≤ 60
            · rw [if_pos (by omega), if_pos (Or.inl ⟨k2, c.1, c.2⟩)]
            · rw [if_neg (by omega), if_neg (fun z => z.elim (fun y => c y.2) (fun y => y.1 k2))]]
        · rw [if_neg k2]
          by_cases m0 : mn = nI 0
          · rw [if_pos (show mn = 0 from m0), show b2i (mOk2 kd mn) = nI 1 by unfold b2i; rw [if_pos (Or.inr ⟨k2, m0⟩)]]
          · rw [if_neg (show ¬ mn = 0 from m0), show b2i (mOk2 kd mn) = nI 0 by unfold b2i; rw [if_neg (fun z => z.elim (fun y => k2 y.1) (fun y => m0 y.2))]]
      have hkz : (0 < kd) = ¬ kd < nI 1 := by
        rw [show (0 : Int32) = nI 0 from rfl, gt_int (by omega), Int32.lt_iff_toInt_lt, toInt_nI (by omega)]
        exact propext ⟨fun _ => by omega, fun _ => by omega⟩
      by_cases k0 : 0 < kd
      · have k1 : ¬ kd < nI 1 := hkz ▸ k0
        rw [if_pos k0, x8_2, obd_some, B175_34, m_1 (by omega), obd_some, D0.1, i2l, nI_l (by omega), lN_z, lN_z, lz_sub, c_in ⟨by omega, by omega⟩ ⟨by omega, by omega⟩ ⟨by omega, by omega⟩]
        simp only [obd_some, obd_none, Option.toList_some, Option.toList_none, List.cons_append, List.nil_append, cond_true, cond_false, B175_41]
        rw [at53 _ _ _ _ _ (by
          unfold b2i
          by_cases c : (1 : Int) ≤ g.toInt ∧ g.toInt < (rP (zD S u) : Int)
          · rw [if_pos (by omega), if_pos (Or.inr ⟨k1, c.1, c.2⟩)]
          · rw [if_neg (by omega), if_neg (fun z => z.elim (fun y => k1 y.1) (fun y => c y.2))])]
        exact rest _ _
      · have k1 : kd < nI 1 := Decidable.not_not.mp (hkz ▸ k0)
        rw [if_neg k0]
        by_cases g0 : g = nI 0
        · rw [if_pos (show g = 0 from g0), at53 _ _ _ _ _ (by unfold b2i; rw [if_pos (Or.inl ⟨k1, g0⟩)])]
          exact rest _ _
        · rw [if_neg (show ¬ g = 0 from g0), at53 _ _ _ _ _ (by unfold b2i; rw [if_neg (fun z => z.elim (fun y => g0 y.2) (fun y => y.1 k1))])]
          exact rest _ _
    · rw [if_neg (show ¬ ¬ ¬ _ from fun z => z hv), if_neg hv]
      exact e16 _ _ _ _ _ _ _ _ _ _ _ _
  · rw [if_neg (show ¬ ¬ ¬ _ from fun z => z hk), if_neg hk]
    exact e16 _ _ _ _ _ _ _ _ _ _ _ _
end MPlan2
