/-! EVEN and the shares of the reference. -/
theorem rid_eq {al a b u l P gn : Nat} (hal : 0 < al) (hb : 0 < b) (hl : 0 < l) (hg : 0 < gn) (h : a * l = al * u * b) : ((a < al * P * b) = (u < P * l)) ∧ red (al * P * b - a) (b * gn) = red (al * (P * l - u)) (l * gn) := by
  have e1 : al * P * b * l = (al * b) * (P * l) := by ac_rfl
  have e2 : a * l = (al * b) * u := by rw [h]; ac_rfl
  refine ⟨?_, red_eq (Nat.mul_pos hb hg) (Nat.mul_pos hl hg) ?_⟩
  · refine propext ⟨fun z => ?_, fun z => ?_⟩
    · have z := Nat.mul_lt_mul_of_pos_right z hl
      rw [e1, e2] at z
      exact Nat.lt_of_mul_lt_mul_left z
    · have z := Nat.mul_lt_mul_of_pos_left z (Nat.mul_pos hal hb)
      rw [← e1, ← e2] at z
      exact Nat.lt_of_mul_lt_mul_right z
  · calc (al * P * b - a) * (l * gn) = (al * P * b - a) * l * gn := by ac_rfl
      _ = ((al * b) * (P * l) - (al * b) * u) * gn := by rw [Nat.sub_mul, e1, e2]
      _ = (al * b) * (P * l - u) * gn := by rw [Nat.mul_sub (al * b)]
      _ = al * (P * l - u) * (b * gn) := by ac_rfl
theorem sum_pos {f : Nat → Nat} {n : Nat} (hn : 0 < n) (h : ∀ k, k < n → 0 < f k) : 0 < sumN f n := by
  cases n with
  | zero => omega
  | succ n => rw [sumN]; have := h n (by omega); omega
section MEven2
variable {h : jHp} {m i al : Nat} {d : jRD} {F : Nat → Value} {A : Nat → Nat → Int32}
theorem l_grs (D0 : MRd d i A) (hd : rdOk d) (hE : 0 < rE d) (hi : i < 3) (ha : 0 < al) (ha2 : al ≤ 54) : ∀ n k F (o3 : Option Value) (o5 : Option Value) (o7 : Option Value) (o9 o10 o11 o12 o13 o14 o15 o16 o17 o18 : Option Value), k + 1 + n = 2 ^ rE d → EvR al F (evG d k) →
    ∃ F', R 2 210 103 [some (.ref m), some (.int (nI i)), some (.long (lN al)), o3, some (.long (lN (sB d 0 0))), o5, some (.long (lN (al * rB d * sB d 0 3))), o7, some (.int (nI (k + 1))), o9, o10, o11, o12, o13, o14, o15, o16, o17, o18] [] (hX 8 h m F A) = some (none, hX 8 h m F' A) ∧ EvR al F' (evn d) ∧ EvK F F' := by
  have h4 := hd.2.1
  have h16 : 2 ^ rE d ≤ 16 := Nat.pow_le_pow_right (n := 2) (by decide) h4
  intro n
  induction n with
  | zero =>
    intro k F o3 o5 o7 o9 o10 o11 o12 o13 o14 o15 o16 o17 o18 hk H
    refine ⟨F, ?_, ?_, fun j _ _ => rfl⟩
    · rw [B210_103, B210_105, x8_3, obd_some, m_2 hi, obd_some, D0.2.1, shl_m (by omega), if_neg (show ¬ nI (k + 1) < nI (2 ^ rE d) by rw [nJ_lt (by omega) (by omega)]; omega)]
    · unfold evn; rw [show 2 ^ rE d - 1 = k by omega]; exact H
  | succ n ih =>
    intro k F o3 o5 o7 o9 o10 o11 o12 o13 o14 o15 o16 o17 o18 hk H
    have hg : k + 1 < 16 := by omega
    have hgE : k + 1 < 2 ^ rE d := by omega
    have nx : ∀ F' (o9 : Option Value) (o10 : Option Value) (o11 : Option Value) (o12 : Option Value) (o13 : Option Value) (o14 : Option Value) (o15 : Option Value) (o16 : Option Value) (o17 : Option Value) (o18 : Option Value), EvR al F' (evG d (k + 1)) → EvK F F' → ∃ F'', R 2 210 325 [some (.ref m), some (.int (nI i)), some (.long (lN al)), none, some (.long (lN (sB d 0 0))), none, some (.long (lN (al * rB d * sB d 0 3))), none, some (.int (nI (k + 1))), o9, o10, o11, o12, o13, o14, o15, o16, o17, o18] [] (hX 8 h m F' A) = some (none, hX 8 h m F'' A) ∧ EvR al F'' (evn d) ∧ EvK F F'' := by
      intro F' o9 o10 o11 o12 o13 o14 o15 o16 o17 o18 H' K'
      rw [B210_325, B210_328, nJ_add]
      obtain ⟨F'', e, H2, K2⟩ := ih (k + 1) F' none none none none none none none none none none none none none (by omega) H'
      exact ⟨F'', e, H2, EvK.tr K' K2⟩
    have e1 := l_gr1 (h := h) (m := m) (F := F) (al := al) D0 hd hi hg (rE d) 0 none none none none none none none none none none (Nat.zero_add _)
    rw [show (if prG d (k + 1) 0 = 0 then 0 else 1) = 1 from rfl, show prM d (k + 1) 0 = 1 from rfl] at e1
    rw [B210_103, B210_105, x8_3, obd_some, m_2 hi, obd_some, D0.2.1, shl_m (by omega), if_pos (show nI (k + 1) < nI (2 ^ rE d) by rw [nJ_lt (by omega) (by omega)]; omega), B210_119, e1, B210_227]
    have eg : evG d (k + 1) = grp d (k + 1) (evG d k) := rfl
    by_cases c : prG d (k + 1) (rE d) = 0
    · rw [if_pos c, B210_230, B210_232, x8_3, obd_some, m_2 hi, obd_some, D0.2.1, if_pos (show nI 0 < nI (rE d) by rw [nJ_lt (by omega) (by omega)]; exact hE), if_pos (show nI 0 = 0 from rfl), B210_306, B210_308, if_pos (show nI 0 = 0 from rfl)]
      refine nx F _ _ _ _ _ _ _ _ _ _ ?_ (fun j _ _ => rfl)
      rw [eg]; unfold grp; rw [if_pos c]; exact H
    · obtain ⟨o15', o16', o17', e2⟩ := l_gr2 (h := h) (m := m) (F := F) (al := al) D0 hd hi hg c (rE d) 0 none none none none none none none none (Nat.zero_add _)
      rw [show upS d (k + 1) (prG d (k + 1) (rE d)) 0 = 0 from rfl, show dnS d (k + 1) (prG d (k + 1) (rE d)) 0 = 0 from rfl, Nat.mul_zero] at e2
      obtain ⟨q1, q2, q3⟩ := grp_in hd (show 0 < k + 1 by omega) hgE c
      have q4 := prG_99 hd (k + 1) (Nat.le_refl (rE d))
      have q5 : rB d * sB d 0 3 * prG d (k + 1) (rE d) ≤ 2 * 99 * 96059601 := Nat.mul_le_mul (Nat.mul_le_mul hd.2.2.1 (sB_le hd 0 3)) q4
      obtain ⟨F1, e3, H1, K1⟩ := c_atLeast (h := h) (m := m) (A := A) ha ha2 H (up := (upS d (k + 1) (prG d (k + 1) (rE d)) (rE d) : Int) - (rB d * sB d 0 3 * prG d (k + 1) (rE d) : Nat)) (dn := dnS d (k + 1) (prG d (k + 1) (rE d)) (rE d)) (by omega) (by omega) q1 q2
      have ez : lN (al * upS d (k + 1) (prG d (k + 1) (rE d)) (rE d)) - lN (al * rB d * sB d 0 3 * prG d (k + 1) (rE d)) = lz ((al : Int) * ((upS d (k + 1) (prG d (k + 1) (rE d)) (rE d) : Int) - (rB d * sB d 0 3 * prG d (k + 1) (rE d) : Nat))) := by
        rw [lN_z, lN_z, lz_sub, Int.mul_sub, Nat.mul_assoc, Nat.mul_assoc, Int.natCast_mul, Int.natCast_mul al, Nat.mul_assoc]
      rw [if_neg c, prM_eq (rE d) c, e2, B210_306, B210_308, if_neg (show ¬ nI 1 = 0 by decide), m_o, obd_some, lN_mul, ez, e3]
      simp only [obd_some, obd_none, Option.toList_some, Option.toList_none, List.cons_append, List.nil_append, cond_true, cond_false]
      refine nx F1 _ _ _ _ _ _ _ _ _ _ ?_ K1
      rw [eg]; unfold grp; rw [if_neg c]; exact H1
theorem c_layEven (D0 : MRd d i A) (hg : rdGo d) (hi : i < 3) (hB : 0 < rB d) : ∃ F', mc 210 [.ref m, .int (nI i)] (hX 8 h m F A) = some (none, hX 8 h m F' A) ∧ EvR (sumN (rM d) (rP d)) F' (evn d) ∧ Bs F A F' A := by
  obtain ⟨hd, hP, hE, hM⟩ := hg
  have h4 := hd.2.1
  have h6 := hd.1
  have hal := sumN_le hd.2.2.2.1 (rP d)
  have ha : 0 < sumN (rM d) (rP d) := sum_pos hP hM
  have hsb := sB_le hd 0 0
  have hsb3 := sB_le hd 0 3
  have h2 := hd.2.2.1
  have H0 : EvR (sumN (rM d) (rP d)) (updV (updV F 38 (.long (lN 0))) 39 (.long (lN 1))) (evP d 0) := ⟨0, 1, by rw [updV_n (by decide), updV_s], updV_s _ _ _, by omega, by omega, by omega, by show 0 * 1 = _ * 0 * 1; omega, evP_ok hd 0⟩
  obtain ⟨F1, e1, H1, K1⟩ := l_mevP (h := h) (m := m) D0 hd hi ha (by omega) (rE d) 0 _ none none none none none none none none none none none none none none (Nat.zero_add _) H0
  obtain ⟨F2, e2, H2, K2⟩ := l_grs (h := h) (m := m) D0 hd hE hi ha (by omega) (2 ^ rE d - 1) 0 F1 none none none none none none none none none none none none none (by have := Nat.pow_pos (n := rE d) (show 0 < 2 by omega); omega) H1
  refine ⟨F2, ?_, H2, ?_⟩
  · rw [M210, m_o, obd_some, c_mAll D0 hd hi]
    simp only [obd_some, obd_none, Option.toList_some, Option.toList_none, List.cons_append, List.nil_append, cond_true, cond_false, B210_5, m_o]
    rw [c_ofB D0 hd hi hB (show 0 < 6 by omega)]
    simp only [obd_some, obd_none, Option.toList_some, Option.toList_none, List.cons_append, List.nil_append, cond_true, cond_false, B210_14, p8_38, p8_39]
    rw [nI_l (by omega), nI_l (by omega), B210_28, e1, B210_86, m_3 hi, obd_some, D0.2.2.1, m_o, obd_some, c_ofB D0 hd hi hB (show 3 < 6 by omega)]
    simp only [obd_some, obd_none, Option.toList_some, Option.toList_none, List.cons_append, List.nil_append, cond_true, cond_false, B210_96]
    rw [nI_l (by omega), nI_l (by omega), lN_mul, lN_mul]
    exact e2
  · have K : ∀ j, j ≠ 38 → j ≠ 39 → F2 j = F j := fun j a1 a2 => by rw [K2 j a1 a2, K1 j a1 a2, updV_n a2, updV_n a1]
    exact ⟨⟨K 0 (by decide) (by decide), K 1 (by decide) (by decide), K 20 (by decide) (by decide), K 21 (by decide) (by decide), K 44 (by decide) (by decide)⟩, fun _ _ => rfl⟩
theorem c_lost (h : jHp) : mc 197 [] h = some (some (.long lostJ), h) := by
  rw [M197]; rfl
end MEven2
section MEven3
variable {h : jHp} {m : Nat} {S : jST} {F : Nat → Value} {A : Nat → Nat → Int32}
theorem M_even (R0 : MR S F A) (hS : stOk S) (v w : Int32) : Mv m S h (mc 209 [.ref m, .int v, .int w] (hX 8 h m F A)) (.long (aEven S v w)) := by
  have h3 := hS.1
  have e30 : obd none (mc 197 [] (hX 8 h m F A)) (fun x1 => R 3 209 30 [none, none, none] (x1.1.toList ++ []) x1.2) = some (some (.long lostJ), hX 8 h m F A) := by
    rw [c_lost]; simp only [obd_some, obd_none, Option.toList_some, Option.toList_none, List.cons_append, List.nil_append, cond_true, cond_false, B209_30]
  rw [M209, m_o, obd_some, c_noRoad R0 hS]
  simp only [obd_some, obd_none, Option.toList_some, Option.toList_none, List.cons_append, List.nil_append, cond_true, cond_false, B209_5, b2i_0]
  unfold aEven
  by_cases hv : inN v (zn S)
  · obtain ⟨i, hi, rfl⟩ := inN_nI hv
    have hg := hS.2.2.2.2.1 i hi
    have hd := hg.1
    have h2 := hd.2.2.1
    have D0 := R0.2.1 i hi
    have hal := sumN_le hd.2.2.2.1 (rP (zD S i))
    have h6 := hd.1
    rw [if_pos (not_not_intro hv), if_pos hv, toNat_nI (by omega), c_inN w (by decide)]
    simp only [obd_some, obd_none, Option.toList_some, Option.toList_none, List.cons_append, List.nil_append, cond_true, cond_false, B209_15, b2i_0]
    by_cases hw : inN w 2
    · rw [if_neg (not_not_intro hw), if_pos hw, x8_4, obd_some, m_3 (by omega), obd_some, D0.2.2.1]
      by_cases hB : rB (zD S i) = 0
      · rw [if_pos (show nI (rB (zD S i)) = 0 by rw [hB]; rfl), if_pos hB, e30]
        exact Mv.same R0 rfl
      · rw [if_neg (show ¬ nI (rB (zD S i)) = 0 by rw [nI_eq0 (by omega)]; exact hB), if_neg hB, m_o, obd_some]
        obtain ⟨F', e1, ⟨a, b, e38, e39, hb, hb2, ha3, hx, hq⟩, B1⟩ := c_layEven (h := h) (m := m) (F := F) D0 hg (show i < 3 by omega) (by omega)
        rw [e1]
        simp only [obd_some, obd_none, Option.toList_some, Option.toList_none, List.cons_append, List.nil_append, cond_true, cond_false, B209_36, x8_38, x8_39, e38, e39, vJ_j]
        rw [c_told (hX 8 h m F' A) hb (by omega) (by omega)]
        simp only [obd_some, obd_none, Option.toList_some, Option.toList_none, List.cons_append, List.nil_append, cond_true, cond_false, B209_48]
        unfold evnA
        rw [red_eq hb hq.1 (show a * (evn (zD S i)).2 = (evn (zD S i)).1 * sumN (rM (zD S i)) (rP (zD S i)) * b by rw [hx, Nat.mul_comm (sumN (rM (zD S i)) (rP (zD S i)))])]
        exact ⟨F', A, rfl, R0.bs B1⟩
    · rw [if_pos hw, if_neg hw, e30]
      exact Mv.same R0 rfl
  · rw [if_neg (show ¬ ¬ ¬ _ from fun z => z hv), if_neg hv, e30]
    exact Mv.same R0 rfl
theorem M_share (R0 : MR S F A) (hS : stOk S) (v p w : Int32) : Mv m S h (mc 212 [.ref m, .int v, .int p, .int w] (hX 8 h m F A)) (.long (aShare S v p w)) := by
  have h3 := hS.1
  have e28 : ∀ o0 o1 o2 o3 o4 o5 o6 o7 o8 o9, R 4 212 28 [o0, o1, o2, o3, o4, o5, o6, o7, o8, o9] [] (hX 8 h m F A) = some (some (.long lostJ), hX 8 h m F A) := by
    intro o0 o1 o2 o3 o4 o5 o6 o7 o8 o9
    rw [B212_28, c_lost]; simp only [obd_some, obd_none, Option.toList_some, Option.toList_none, List.cons_append, List.nil_append, cond_true, cond_false, B212_31]
  rw [M212, m_o, obd_some]
  unfold aShare
  by_cases hv : inN v (zn S)
  · obtain ⟨i, hi, rfl⟩ := inN_nI hv
    have hg := hS.2.2.2.2.1 i hi
    have hd := hg.1
    have h2 := hd.2.2.1
    have h4 := hd.2.1
    have h6 := hd.1
    have D0 := R0.2.1 i hi
    have hal := sumN_le hd.2.2.2.1 (rP (zD S i))
    rw [c_noPerson R0 hS hi, if_pos hv, toNat_nI (by omega)]
    simp only [obd_some, obd_none, Option.toList_some, Option.toList_none, List.cons_append, List.nil_append, cond_true, cond_false, B212_6, b2i_0]
    by_cases hp : inN p (rE (zD S i))
    · obtain ⟨up, hup, rfl⟩ := inN_nI hp
      rw [if_pos (not_not_intro hp), if_pos hp, toNat_nI (by omega), c_inN w (by decide)]
      simp only [obd_some, obd_none, Option.toList_some, Option.toList_none, List.cons_append, List.nil_append, cond_true, cond_false, B212_16, b2i_0]
      by_cases hw : inN w 2
      · rw [if_neg (not_not_intro hw), if_pos hw, x8_4, obd_some, m_3 (by omega), obd_some, D0.2.2.1]
        by_cases hB : rB (zD S i) = 0
        · rw [if_pos (show nI (rB (zD S i)) = 0 by rw [hB]; rfl), if_pos hB, e28]
          exact Mv.same R0 rfl
        · rw [if_neg (show ¬ nI (rB (zD S i)) = 0 by rw [nI_eq0 (by omega)]; exact hB), if_neg hB, m_o, obd_some]
          obtain ⟨F', e1, ⟨a, b, e38, e39, hb, hb2, ha3, hx, hq⟩, B1⟩ := c_layEven (h := h) (m := m) (F := F) D0 hg (show i < 3 by omega) (by omega)
          have hsp := sP_le hd up 0
          have hsb := sB_le hd 0 0
          have hgn := gn_le hd up
          have hmost : sumN (rM (zD S i)) (rP (zD S i)) * sP (zD S i) up 0 * b ≤ 54 * 99 * 4000000 := Nat.mul_le_mul (Nat.mul_le_mul (by omega) hsp) hb2
          have hbg : b * gn (zD S i) up ≤ 4000000 * 99 := Nat.mul_le_mul hb2 hgn
          have hz : (0 < lg_cmp (lz ((sP (zD S i) up 0 : Int) - sB (zD S i) 0 0)) (lN 0)) = (0 < gn (zD S i) up) := by
            rw [lN_z, cmp_gt ⟨by omega, by omega⟩ ⟨by omega, by omega⟩]
            unfold gn
            exact propext ⟨fun _ => by omega, fun _ => by omega⟩
          have hz2 : (0 < lg_cmp (lz (((sumN (rM (zD S i)) (rP (zD S i)) * sP (zD S i) up 0 * b : Nat) : Int) - a)) (lN 0)) = (a < sumN (rM (zD S i)) (rP (zD S i)) * sP (zD S i) up 0 * b) := by
            rw [lN_z, cmp_gt ⟨by omega, by omega⟩ ⟨by omega, by omega⟩]
            exact propext ⟨fun _ => by omega, fun _ => by omega⟩
          have ed := R0.bs B1
          rw [e1]
          simp only [obd_some, obd_none, Option.toList_some, Option.toList_none, List.cons_append, List.nil_append, cond_true, cond_false, B212_37, m_o]
          rw [c_ofP D0 hd (show i < 3 by omega) hup (show 0 < 4 by omega)]
          simp only [obd_some, obd_none, Option.toList_some, Option.toList_none, List.cons_append, List.nil_append, cond_true, cond_false, B212_44, m_o]
          rw [c_ofB D0 hd (show i < 3 by omega) (show 0 < rB (zD S i) by omega) (show 0 < 6 by omega)]
          simp only [obd_some, obd_none, Option.toList_some, Option.toList_none, List.cons_append, List.nil_append, cond_true, cond_false, B212_56, m_o]
          rw [c_mAll D0 hd (show i < 3 by omega)]
          simp only [obd_some, obd_none, Option.toList_some, Option.toList_none, List.cons_append, List.nil_append, cond_true, cond_false, B212_65, x8_38, x8_39, e38, e39, vJ_j]
          rw [nI_l (by omega), nI_l (by omega), nI_l (by omega), lN_mul, lN_mul, lN_z (sumN (rM (zD S i)) (rP (zD S i)) * sP (zD S i) up 0 * b), lN_z a, lz_sub, lN_z (sP (zD S i) up 0), lN_z (sB (zD S i) 0 0), lz_sub]
          simp only [hz, hz2]
          have e95 : ∀ o0 o1 o2 o4 o5 o6 o7 o8 o9, R 4 212 95 [o0, o1, o2, some (.int w), o4, o5, o6, o7, o8, o9] [] (hX 8 h m F' A) = some (some (.long (hlf (red 0 1) w)), hX 8 h m F' A) := by
            intro o0 o1 o2 o4 o5 o6 o7 o8 o9
            rw [B212_95, B212_96, c_told (hX 8 h m F' A) Nat.one_pos (by omega) (by omega)]
            simp only [obd_some, obd_none, Option.toList_some, Option.toList_none, List.cons_append, List.nil_append, cond_true, cond_false, B212_101, B212_117]
          unfold ridn
          by_cases c1 : 0 < gn (zD S i) up
          · obtain ⟨r1, r2⟩ := rid_eq (P := sP (zD S i) up 0) (sum_pos hg.2.1 hg.2.2.2) hb hq.1 c1 hx
            rw [if_pos c1]
            by_cases c2 : a < sumN (rM (zD S i)) (rP (zD S i)) * sP (zD S i) up 0 * b
            · have em : lz (((sumN (rM (zD S i)) (rP (zD S i)) * sP (zD S i) up 0 * b : Nat) : Int) - a) = lN (sumN (rM (zD S i)) (rP (zD S i)) * sP (zD S i) up 0 * b - a) := by
                rw [lN_z]; congr 1; omega
              have eg : lz ((sP (zD S i) up 0 : Int) - sB (zD S i) 0 0) = lN (gn (zD S i) up) := by
                rw [lN_z]; unfold gn at c1 ⊢; congr 1; omega
              rw [if_pos c2, if_pos ⟨c1, Eq.mp r1 c2⟩, B212_107, x8_39, e39, vJ_j, obd_some, em, eg, lN_mul, c_told (hX 8 h m F' A) (Nat.mul_pos hb c1) (by omega) (by omega)]
              simp only [obd_some, obd_none, Option.toList_some, Option.toList_none, List.cons_append, List.nil_append, cond_true, cond_false, B212_117]
              rw [r2]
              exact ⟨F', A, rfl, ed⟩
            · rw [if_neg c2, if_neg (fun z => c2 (Eq.mpr r1 z.2)), e95]
              exact ⟨F', A, rfl, ed⟩
          · rw [if_neg c1, if_neg (fun z => c1 z.1), e95]
            exact ⟨F', A, rfl, ed⟩
      · rw [if_pos hw, if_neg hw, e28]
        exact Mv.same R0 rfl
    · rw [if_neg (show ¬ ¬ ¬ _ from fun z => z hp), if_neg hp, e28]
      exact Mv.same R0 rfl
  · rw [if_neg hv, c_noPersonNo R0 hS hv]
    simp only [obd_some, obd_none, Option.toList_some, Option.toList_none, List.cons_append, List.nil_append, cond_true, cond_false, B212_6]
    rw [if_neg (show ¬ nI 1 = 0 by decide), e28]
    exact Mv.same R0 rfl
end MEven3
