/-! The law adds up what all ride. -/
section LEven2
variable {x : Nat} {S : jST} {b L : Nat} {xs : Nat → Int32} {r p : Nat} {fr : Nat → Int32} {F : Nat → Nat → Int32} {d : jRD} {e up dn u l : Nat} {can fl : Int32}
theorem l_shr (hr : RdA d fr) (hd : rdOk d) (hs : smD d) (hB : 0 < rB d) (he : e < zn S) (hD : zD S e = d) (H : EvS d u l) (hev : evn d = (u, l)) (hl : l ≤ 3267) (hu : u ≤ 400000000) (hdn : 0 < dn) (hdl : dn ≤ 3267) (hup : up ≤ 10800000000) (hq : up * l = u * allM d * dn) :
    ∀ m i h (o32 o34 o37 : Option Value), i + m = rE d → WL x S b L xs r p fr F h →
    ∃ h', R 26 0 1077 [some (.ref b), some (.ref x), some (.int (nI e)), some (.ref r), none, none, none, none, none, none, some (.int can), none, none, some (.ref (p + 2)), none, none, none, none, none, some (.long (lN up)), none, some (.long (lN dn)), none, some (.int (nI (allM d))), some (.int fl), some (.long (lN (allM d * hld d))), none, some (.long (lN (ndU d u l i).1)), none, some (.long (lN (ndU d u l i).2)), none, some (.int (nI i)), o32, none, o34, none, none, o37, none, none, none, none] [] h = R 26 0 1300 [some (.ref b), some (.ref x), some (.int (nI e)), some (.ref r), none, none, none, none, none, none, some (.int can), none, none, some (.ref (p + 2)), none, none, none, none, none, some (.long (lN up)), none, some (.long (lN dn)), none, some (.int (nI (allM d))), some (.int fl), some (.long (lN (allM d * hld d))), none, some (.long (lN (ndU d u l (rE d)).1)), none, some (.long (lN (ndU d u l (rE d)).2)), none, some (.int (nI (rE d))), none, none, none, none, none, none, none, none, none, none] [.long (lN (allM d * hld d * (ndU d u l (rE d)).2)), .long (lN (ndU d u l (rE d)).1)] h' ∧ WL x S b L xs r p fr F h' ∧ h'.2 = h.2
  | 0, i, h, o32, o34, o37, hi, I => by
    have h4 := hd.2.1
    obtain rfl : i = rE d := hi
    refine ⟨h, ?_, I, rfl⟩
    rw [B0_1077, I.rr (by omega), obd_some, hr.2.1, if_neg (show ¬ nI (rE d) < nI (rE d) from fun z => Int32.lt_irrefl z), lN_mul]
  | m + 1, i, h, o32, o34, o37, hi, I => by
    have h4 := hd.2.1
    have hiE : i < rE d := by omega
    have hD27 := allM27 hd hs
    have hP := hs.2.2.1 i hiE
    have hQ := sB_le hd 0 0
    have hrl := fun j (hj : j < rE d) => (ridn_law (p := j) H hj hdn hq).1
    obtain ⟨a1, a2, a3, a4, a5⟩ := ridn_law (p := i) H hiE hdn hq
    have a6 := ridn_2 (d := d) (p := i) (u := u) H.1
    have a7 := ridn33 hs (u := u) hl hiE
    have b0 := nd_sm hd hs H hl hrl (Nat.le_of_lt hiE)
    have b1 := nd_sm hd hs H hl hrl (show i + 1 ≤ rE d by omega)
    have hmn : mnP d i ≤ 34 := by unfold mnP; split <;> omega
    obtain ⟨Fo, eo⟩ := I.1.o
    obtain ⟨h1, c1, I1, z1⟩ := s_call I he hD hB hiE (w := 0) (by omega)
    obtain ⟨F1, eo1⟩ := I1.1.o
    obtain ⟨h2, c2, I2, z2⟩ := s_call I1 he hD hB hiE (w := 1) (by omega)
    rw [if_pos rfl, hev] at c1
    rw [if_neg (by omega), hev] at c2
    have e36 : alI h2 r (nI 36) = some (nI (sB d 0 0)) := by rw [I2.rr (by omega)]; exact congrArg some (hr.2.2.2.2.2.2.2 0 0 hB (by omega))
    have e20 : alI h2 r (nI 20 + nI 4 * nI i) = some (nI (sP d i 0)) := by
      rw [nI_mul, nJ_add, I2.rr (by omega)]; exact congrArg some (hr.2.2.2.2.2.2.1 i 0 hiE (by omega))
    have eN : ndU d u l (i + 1) = ((ndU d u l i).1 * (ridn d i (u, l)).2 + (ridn d i (u, l)).1 * (ndU d u l i).2, (ndU d u l i).2 * (ridn d i (u, l)).2) := rfl
    have ih := fun o1 o2 o3 => l_shr hr hd hs hB he hD H hev hl hu hdn hdl hup hq m (i + 1) h2 o1 o2 o3 (by omega) I2
    rw [eN] at ih
    have v1 : (ridn d i (u, l)).1 ≤ 2910897 := by
      have : allM d * (ridn d i (u, l)).2 ≤ 27 * 107811 := Nat.mul_le_mul hD27 a7
      omega
    -- what it would be on foot, less what is ridden
    have hrest0 : (0 : Int) ≤ (allM d : Int) * (ridn d i (u, l)).2 * sP d i 0 - (ridn d i (u, l)).1 * ((sP d i 0 : Int) - sB d 0 0) := by
      have c0 : ((ridn d i (u, l)).1 : Int) ≤ (allM d : Int) * (ridn d i (u, l)).2 := by exact_mod_cast a1
      by_cases y : sB d 0 0 ≤ sP d i 0
      · have c1 : ((ridn d i (u, l)).1 : Int) * ((sP d i 0 : Int) - sB d 0 0) ≤ (allM d : Int) * (ridn d i (u, l)).2 * ((sP d i 0 : Int) - sB d 0 0) := Int.mul_le_mul_of_nonneg_right c0 (by omega)
        have c2 : (0 : Int) ≤ (allM d : Int) * (ridn d i (u, l)).2 * (sB d 0 0 : Int) := Int.mul_nonneg (Int.mul_nonneg (Int.natCast_nonneg _) (Int.natCast_nonneg _)) (Int.natCast_nonneg _)
        have c3 : (allM d : Int) * (ridn d i (u, l)).2 * ((sP d i 0 : Int) - sB d 0 0) = (allM d : Int) * (ridn d i (u, l)).2 * sP d i 0 - (allM d : Int) * (ridn d i (u, l)).2 * (sB d 0 0 : Int) := by grind
        omega
      · have c1 : ((ridn d i (u, l)).1 : Int) * ((sP d i 0 : Int) - sB d 0 0) ≤ 0 := Int.mul_nonpos_of_nonneg_of_nonpos (Int.natCast_nonneg _) (by omega)
        have c2 : (0 : Int) ≤ (allM d : Int) * (ridn d i (u, l)).2 * (sP d i 0 : Int) := Int.mul_nonneg (Int.mul_nonneg (Int.natCast_nonneg _) (Int.natCast_nonneg _)) (Int.natCast_nonneg _)
        omega
    have hrd0 : (0 : Int) ≤ ((allM d : Int) * (ridn d i (u, l)).2 * sP d i 0 - (ridn d i (u, l)).1 * ((sP d i 0 : Int) - sB d 0 0)) * dn := Int.mul_nonneg hrest0 (Int.natCast_nonneg _)
    have v2 : up * (ridn d i (u, l)).2 ≤ 10800000000 * 107811 := Nat.mul_le_mul hup a7
    have v3 : allM d * mnP d i * dn ≤ 10800000000 := Nat.le_trans a5 hup
    have v4 : allM d * (ridn d i (u, l)).2 ≤ 2910897 := by
      have : allM d * (ridn d i (u, l)).2 ≤ 27 * 107811 := Nat.mul_le_mul hD27 a7
      omega
    generalize hone : (ridn d i (u, l)).1 = one at a1 a2 a3 a4 a6 c1 ih v1 hrest0 hrd0 eN
    generalize htwo : (ridn d i (u, l)).2 = two at a1 a2 a3 a6 a7 c2 ih hrest0 hrd0 v2 v4 eN
    generalize hrs : (allM d : Int) * two * sP d i 0 - one * ((sP d i 0 : Int) - sB d 0 0) = rest at a2 a3 hrest0 hrd0
    rw [eN] at b1
    have ea2 : lz rest * lN dn = lz (rest * dn) := by rw [lN_z, lz_mul]
    have a2' : rest * dn ≤ ((up * two : Nat) : Int) := by rw [Int.natCast_mul]; exact a2
    -- the numbers, one by one
    have t1 : R 26 0 1116 [some (.ref b), some (.ref x), some (.int (nI e)), some (.ref r), none, none, none, none, none, none, some (.int can), none, none, some (.ref (p + 2)), none, none, none, none, none, some (.long (lN up)), none, some (.long (lN dn)), none, some (.int (nI (allM d))), some (.int fl), some (.long (lN (allM d * hld d))), none, some (.long (lN (ndU d u l i).1)), none, some (.long (lN (ndU d u l i).2)), none, some (.int (nI i)), some (.long (lN one)), none, some (.long (lN two)), none, some (.int (nI (sP d i 0))), none, none, none, none, none] [] h2 = R 26 0 1150 [some (.ref b), some (.ref x), some (.int (nI e)), some (.ref r), none, none, none, none, none, none, some (.int can), none, none, some (.ref (p + 2)), none, none, none, none, none, some (.long (lN up)), none, some (.long (lN dn)), none, some (.int (nI (allM d))), some (.int fl), some (.long (lN (allM d * hld d))), none, some (.long (lN (ndU d u l i).1)), none, some (.long (lN (ndU d u l i).2)), none, some (.int (nI i)), some (.long (lN one)), none, some (.long (lN two)), none, some (.int (nI (sP d i 0))), some (.long (lN (allM d * mnP d i))), none, none, none, none] [.long (lN (sP d i 0)), .long (lN (allM d * two))] h2 := by
      rw [B0_1116, e36, obd_some, nI_l (show allM d < 2 ^ 31 by omega)]
      have w1 : ∀ v, v ≤ 99 → R 26 0 1137 [some (.ref b), some (.ref x), some (.int (nI e)), some (.ref r), none, none, none, none, none, none, some (.int can), none, none, some (.ref (p + 2)), none, none, none, none, none, some (.long (lN up)), none, some (.long (lN dn)), none, some (.int (nI (allM d))), some (.int fl), some (.long (lN (allM d * hld d))), none, some (.long (lN (ndU d u l i).1)), none, some (.long (lN (ndU d u l i).2)), none, some (.int (nI i)), some (.long (lN one)), none, some (.long (lN two)), none, some (.int (nI (sP d i 0))), none, none, none, none, none] [.int (nI v), .long (lN (allM d))] h2 = R 26 0 1150 [some (.ref b), some (.ref x), some (.int (nI e)), some (.ref r), none, none, none, none, none, none, some (.int can), none, none, some (.ref (p + 2)), none, none, none, none, none, some (.long (lN up)), none, some (.long (lN dn)), none, some (.int (nI (allM d))), some (.int fl), some (.long (lN (allM d * hld d))), none, some (.long (lN (ndU d u l i).1)), none, some (.long (lN (ndU d u l i).2)), none, some (.int (nI i)), some (.long (lN one)), none, some (.long (lN two)), none, some (.int (nI (sP d i 0))), some (.long (lN (allM d * v))), none, none, none, none] [.long (lN (sP d i 0)), .long (lN (allM d * two))] h2 := by
        intro v hv
        rw [B0_1137, nI_l (show v < 2 ^ 31 by omega), nI_l (show sP d i 0 < 2 ^ 31 by omega), nI_l (show allM d < 2 ^ 31 by omega), lN_mul, lN_mul]
      unfold mnP
      by_cases y : sP d i 0 < sB d 0 0
      · rw [if_pos (show nI (sP d i 0) < nI (sB d 0 0) by rw [nJ_lt (by omega) (by omega)]; exact y), w1 _ (by omega), if_neg (show ¬ sB d 0 0 < sP d i 0 by omega)]
      · rw [if_neg (show ¬ nI (sP d i 0) < nI (sB d 0 0) by rw [nJ_lt (by omega) (by omega)]; exact y), B0_1136, e36, obd_some, w1 _ hQ]
        by_cases y2 : sB d 0 0 < sP d i 0
        · rw [if_pos y2]
        · rw [if_neg y2, show sB d 0 0 = sP d i 0 by omega]
    have t2 : R 26 0 1150 [some (.ref b), some (.ref x), some (.int (nI e)), some (.ref r), none, none, none, none, none, none, some (.int can), none, none, some (.ref (p + 2)), none, none, none, none, none, some (.long (lN up)), none, some (.long (lN dn)), none, some (.int (nI (allM d))), some (.int fl), some (.long (lN (allM d * hld d))), none, some (.long (lN (ndU d u l i).1)), none, some (.long (lN (ndU d u l i).2)), none, some (.int (nI i)), some (.long (lN one)), none, some (.long (lN two)), none, some (.int (nI (sP d i 0))), some (.long (lN (allM d * mnP d i))), none, none, none, none] [.long (lN (sP d i 0)), .long (lN (allM d * two))] h2 = R 26 0 1184 [some (.ref b), some (.ref x), some (.int (nI e)), some (.ref r), none, none, none, none, none, none, some (.int can), none, none, some (.ref (p + 2)), none, none, none, none, none, some (.long (lN up)), none, some (.long (lN dn)), none, some (.int (nI (allM d))), some (.int fl), some (.long (lN (allM d * hld d))), none, some (.long (lN (ndU d u l i).1)), none, some (.long (lN (ndU d u l i).2)), none, some (.int (nI i)), some (.long (lN one)), none, some (.long (lN two)), none, some (.int (nI (sP d i 0))), some (.long (lN (allM d * mnP d i))), none, some (.long (lz rest)), none, none] [.int (nI 1)] h2 := by
      have er : lN (allM d * two) * lN (sP d i 0) - lN one * lz ((sP d i 0 : Int) - (sB d 0 0 : Int)) = lz rest := by
        rw [lN_z, lN_z, lN_z, lz_mul, lz_mul, lz_sub, ← hrs, Int.natCast_mul]
      rw [B0_1150, e36, obd_some, sub_l (by omega) (by omega), B0_1162, er, ea2, lN_mul, B0_1176, if_neg (show ¬ 0 < lg_cmp (lz (rest * dn)) (lN (up * two)) by rw [lN_z, cmp_gt ⟨by omega, by omega⟩ ⟨by omega, by omega⟩]; omega)]
    have t3 : R 26 0 1184 [some (.ref b), some (.ref x), some (.int (nI e)), some (.ref r), none, none, none, none, none, none, some (.int can), none, none, some (.ref (p + 2)), none, none, none, none, none, some (.long (lN up)), none, some (.long (lN dn)), none, some (.int (nI (allM d))), some (.int fl), some (.long (lN (allM d * hld d))), none, some (.long (lN (ndU d u l i).1)), none, some (.long (lN (ndU d u l i).2)), none, some (.int (nI i)), some (.long (lN one)), none, some (.long (lN two)), none, some (.int (nI (sP d i 0))), some (.long (lN (allM d * mnP d i))), none, some (.long (lz rest)), none, none] [.int (nI 1)] h2 = R 26 0 1217 [some (.ref b), some (.ref x), some (.int (nI e)), some (.ref r), none, none, none, none, none, none, some (.int can), none, none, some (.ref (p + 2)), none, none, none, none, none, some (.long (lN up)), none, some (.long (lN dn)), none, some (.int (nI (allM d))), some (.int fl), some (.long (lN (allM d * hld d))), none, some (.long (lN (ndU d u l i).1)), none, some (.long (lN (ndU d u l i).2)), none, some (.int (nI i)), some (.long (lN one)), none, some (.long (lN two)), none, some (.int (nI (sP d i 0))), some (.long (lN (allM d * mnP d i))), none, some (.long (lz rest)), none, some (.int (nI 1))] [] h2 := by
      rw [B0_1184, if_neg (show ¬ lg_cmp (lN two) (lN 1) < 0 by rw [cN_lt (by omega) (by omega)]; omega), if_neg (show ¬ lg_cmp (lN one) (lN 0) < 0 by rw [cN_lt (by omega) (by omega)]; omega), B0_1200, nI_l (show allM d < 2 ^ 31 by omega), lN_mul, if_neg (show ¬ 0 < lg_cmp (lN one) (lN (allM d * two)) by rw [cN_gt (by omega) (by omega)]; omega), if_neg (show ¬ nI 1 = 0 by decide)]
    have t4 : R 26 0 1217 [some (.ref b), some (.ref x), some (.int (nI e)), some (.ref r), none, none, none, none, none, none, some (.int can), none, none, some (.ref (p + 2)), none, none, none, none, none, some (.long (lN up)), none, some (.long (lN dn)), none, some (.int (nI (allM d))), some (.int fl), some (.long (lN (allM d * hld d))), none, some (.long (lN (ndU d u l i).1)), none, some (.long (lN (ndU d u l i).2)), none, some (.int (nI i)), some (.long (lN one)), none, some (.long (lN two)), none, some (.int (nI (sP d i 0))), some (.long (lN (allM d * mnP d i))), none, some (.long (lz rest)), none, some (.int (nI 1))] [] h2 = R 26 0 1254 [some (.ref b), some (.ref x), some (.int (nI e)), some (.ref r), none, none, none, none, none, none, some (.int can), none, none, some (.ref (p + 2)), none, none, none, none, none, some (.long (lN up)), none, some (.long (lN dn)), none, some (.int (nI (allM d))), some (.int fl), some (.long (lN (allM d * hld d))), none, some (.long (lN (ndU d u l i).1)), none, some (.long (lN (ndU d u l i).2)), none, some (.int (nI i)), some (.long (lN one)), none, some (.long (lN two)), none, some (.int (nI (sP d i 0))), some (.long (lN (allM d * mnP d i))), none, none, none, none] [] h2 := by
      rw [B0_1217]
      by_cases y : 0 < one
      · have yp : 0 < lg_cmp (lN one) (lN 0) := by rw [cN_gt (by omega) (by omega)]; exact y
        rw [if_pos yp, ea2, B0_1233, lN_mul, if_pos (show lg_cmp (lz (rest * dn)) (lN (up * two)) = 0 by rw [lN_z, cmp_eq ⟨by omega, by omega⟩ ⟨by omega, by omega⟩, Int.natCast_mul]; exact a3 y), B0_1238, if_pos yp, e36, obd_some, if_pos (show nI (sB d 0 0) < nI (sP d i 0) by rw [nJ_lt (by omega) (by omega)]; exact a4 y)]
      · have yn : ¬ 0 < lg_cmp (lN one) (lN 0) := by rw [cN_gt (by omega) (by omega)]; exact y
        rw [if_neg yn, B0_1238, if_neg yn]
    obtain ⟨h3, g1, g2, g3⟩ := ih (some (.long (lN one))) (some (.long (lN two))) (some (.long (lN (allM d * mnP d i))))
    refine ⟨h3, ?_, g2, by rw [g3, z2, z1]⟩
    rw [B0_1077, I.rr (by omega), obd_some, hr.2.1, if_pos (show nI i < nI (rE d) by rw [nJ_lt (by omega) (by omega)]; exact hiE), B0_1090, eo, obd_some, c1]
    simp only [obd_some, obd_none, Option.toList_some, Option.toList_none, List.cons_append, List.nil_append, cond_true, cond_false]
    rw [B0_1093, eo1, obd_some, c2]
    simp only [obd_some, obd_none, Option.toList_some, Option.toList_none, List.cons_append, List.nil_append, cond_true, cond_false]
    rw [B0_1103, e20, obd_some, t1, t2, t3, t4, B0_1254, lN_mul, if_neg (show ¬ 0 < lg_cmp (lN (allM d * mnP d i * dn)) (lN up) by rw [cN_gt (by omega) (by omega)]; omega), lN_mul, B0_1272, lN_mul, lN_mul, lN_add, B0_1287, nJ_add]
    exact g1
end LEven2
