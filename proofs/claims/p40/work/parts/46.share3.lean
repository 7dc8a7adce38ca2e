theorem lz_N (z : Int) (n : Nat) : lz z + lN n = lz (z + n) := by rw [lN_z, lz_add]
theorem lN_div {a b : Nat} (ha : a < 4611686018427387904) (hb : b < 4611686018427387904) (h : 0 < b) : lN a / lN b = lN (a / b) := by
  rw [lN_z, lN_z, lz_div (by omega) (by omega) h, ← lN_z]
theorem lN_eq0 {a : Nat} (ha : a < 4611686018427387904) : (lN a = 0) = (a = 0) := by
  rw [show (0 : Int64) = lz 0 from rfl, lN_z, lz_eq (by omega) (by omega)]; exact propext ⟨fun _ => by omega, fun _ => by omega⟩
theorem cmpN_eq {a : Nat} (ha : a < 4611686018427387904) : (lg_cmp (lN a) (lN 0) = 0) = (a = 0) := by
  rw [lN_z, lN_z, cmp_eq (by omega) (by omega)]; exact propext ⟨fun _ => by omega, fun _ => by omega⟩
theorem shl_all : ∀ p : Fin 5, (nI 1) <<< (nI p.1 &&& 31) = nI (2 ^ p.1) := by decide
theorem shl_m {p : Nat} (hp : p < 5) : (nI 1) <<< (nI p &&& 31) = nI (2 ^ p) := shl_all ⟨p, hp⟩
section EvenRows2
variable {h : jHp} {s r : Nat} {q : Nat × Nat} {d : jRD}
theorem prG_99 {d : jRD} (hd : rdOk d) (g : Nat) {p : Nat} (hp : p ≤ rE d) : prG d g p ≤ 96059601 := by
  have h4 := hd.2.1
  have h1 := prG_le hd g p
  have h2 : (99 : Nat) ^ p ≤ 99 ^ 4 := Nat.pow_le_pow_right (by decide) (by omega)
  have h3 : (99 : Nat) ^ 4 = 96059601 := rfl
  omega
theorem l_grp2 (H : ShareAt h s q) (R0 : RoadAt h r d) (hd : rdOk d) (hB : 0 < rB d) {g : Nat} (hg0 : 0 < g) (hg : g < 2 ^ rE d) (hpr : ¬ prG d g (rE d) = 0) (hq : qOk q) :
    ∀ (m p : Nat) (o4 o5 o6 o8 o10 o12 : Option Value), p + m = rE d → R 4 83 78 [some (.ref s), some (.ref r), some (.int (nI g)), some (.long (lN (prG d g (rE d)))), o4, o5, o6, some (.long (lz ((upS d g (prG d g (rE d)) p : Int) - (rB d * sB d 0 3 * prG d g (rE d) : Nat)))), o8, some (.long (lN (dnS d g (prG d g (rE d)) p))), o10, some (.int (nI p)), o12] [] h = some (none, hX 5 h s (shF (grp d g q)) zA) := by
  have h4 := hd.2.1
  have h2 := hd.2.2.1
  have hpl : rB d * sB d 0 3 * prG d g (rE d) ≤ 2 * 99 * 96059601 := Nat.mul_le_mul (Nat.mul_le_mul h2 (sB_le hd 0 3)) (prG_99 hd g (Nat.le_refl _))
  have hg16 : g < 16 := Nat.lt_of_lt_of_le hg (Nat.pow_le_pow_right (n := 2) (by decide) h4)
  have hprl := prG_99 hd g (Nat.le_refl (rE d))
  intro m
  induction m with
  | zero =>
    intro p o4 o5 o6 o8 o10 o12 hp
    obtain rfl : p = rE d := hp
    obtain ⟨i1, i2, i3⟩ := grp_in hd hg0 hg hpr
    rw [B83_78, B83_80, rd_1 R0, obd_some, if_neg (show ¬ nI (rE d) < nI (rE d) from Int32.lt_irrefl), se_o H, obd_some, c_riseTo H hq (by omega) (by omega) i1 i2]
    simp only [obd_some, obd_none, Option.toList_some, Option.toList_none, List.cons_append, List.nil_append, cond_true, cond_false, B83_152]
    unfold grp
    rw [if_neg hpr]
  | succ m ih =>
    intro p o4 o5 o6 o8 o10 o12 hpm
    have hp : p < rE d := by omega
    have hsP := sP_le hd p 0
    have hsB := sB_le hd 0 0
    obtain ⟨mx1, mx2⟩ := max0 (show sP d p 0 < 1000000 by omega) (show sB d 0 0 < 1000000 by omega)
    have go : ∀ (l12 : Int32) (u : Int) (n : Nat), u = (upS d g (prG d g (rE d)) (p + 1) : Int) - (rB d * sB d 0 3 * prG d g (rE d) : Nat) → n = dnS d g (prG d g (rE d)) (p + 1) → R 4 83 138 [some (.ref s), some (.ref r), some (.int (nI g)), some (.long (lN (prG d g (rE d)))), none, none, none, some (.long (lz u)), none, some (.long (lN n)), none, some (.int (nI p)), some (.int l12)] [] h = some (none, hX 5 h s (shF (grp d g q)) zA) := by
      intro l12 u n hu hn
      rw [hu, hn, B83_138, nJ_add, B83_141]
      exact ih (p + 1) _ _ _ _ _ _ (by omega)
    rw [B83_78, B83_80, rd_1 R0, obd_some, if_pos (show nI p < nI (rE d) by rw [nJ_lt (by omega) (by omega)]; exact hp), c_gain R0 hd hB hp]
    simp only [obd_some, obd_none, Option.toList_some, Option.toList_none, List.cons_append, List.nil_append, cond_true, cond_false, B83_93]
    simp only [bit_m hg16 (show p < 4 by omega), mx2]
    by_cases c : g.testBit p = true
    · rw [if_neg (by rw [c]; exact Bool.noConfusion)]
      by_cases c2 : 0 < sP d p 0 - sB d 0 0
      · have hlt : gn d p ≤ 99 := gn_le hd p
        have hgn : gn d p = sP d p 0 - sB d 0 0 := rfl
        rw [if_pos c2, nI_sub (by omega), B83_109, rd_o R0, obd_some, c_ofPersons R0 hd hp (show 0 < 4 by omega)]
        simp only [obd_some, obd_none, Option.toList_some, Option.toList_none, List.cons_append, List.nil_append, cond_true, cond_false, B83_118]
        rw [nI_l (show sP d p 0 - sB d 0 0 < 2 ^ 31 by omega), ← hgn, if_neg (show ¬ lN (gn d p) = 0 by rw [lN_eq0 (by omega)]; omega), lN_div (by omega) (by omega) (by omega), B83_130, nI_l (show gn d p < 2 ^ 31 by omega), if_neg (show ¬ lN (gn d p) = 0 by rw [lN_eq0 (by omega)]; omega), lN_div (by omega) (by omega) (by omega), nI_l (by omega), lN_mul, lN_add, lz_N]
        refine go _ _ _ ?_ ?_
        · rw [upS, if_pos ⟨c, by omega⟩]; omega
        · rw [dnS, if_pos ⟨c, by omega⟩]
      · rw [if_neg c2]
        refine go _ _ _ ?_ ?_
        · rw [upS, if_neg (fun z => c2 z.2)]
        · rw [dnS, if_neg (fun z => c2 z.2)]
    · rw [if_pos (Bool.eq_false_iff.mpr c)]
      refine go _ _ _ ?_ ?_
      · rw [upS, if_neg (fun z => c z.1)]
      · rw [dnS, if_neg (fun z => c z.1)]
theorem l_grp1 (H : ShareAt h s q) (R0 : RoadAt h r d) (hd : rdOk d) (hB : 0 < rB d) {g : Nat} (hg0 : 0 < g) (hg : g < 2 ^ rE d) (hq : qOk q) :
    ∀ (m p : Nat) (o4 o6 o7 o8 o9 o10 o11 o12 : Option Value), p + m = rE d → R 4 83 5 [some (.ref s), some (.ref r), some (.int (nI g)), some (.long (lN (prG d g p))), o4, some (.int (nI p)), o6, o7, o8, o9, o10, o11, o12] [] h = some (none, hX 5 h s (shF (grp d g q)) zA) := by
  have h4 := hd.2.1
  have h2 := hd.2.2.1
  have hpl : rB d * sB d 0 3 ≤ 2 * 99 := Nat.mul_le_mul h2 (sB_le hd 0 3)
  have hg16 : g < 16 := Nat.lt_of_lt_of_le hg (Nat.pow_le_pow_right (n := 2) (by decide) h4)
  intro m
  induction m with
  | zero =>
    intro p o4 o6 o7 o8 o9 o10 o11 o12 hp
    obtain rfl : p = rE d := hp
    have hprl := prG_99 hd g (Nat.le_refl (rE d))
    rw [B83_5, B83_7, rd_1 R0, obd_some, if_neg (show ¬ nI (rE d) < nI (rE d) from Int32.lt_irrefl)]
    simp only [cmpN_eq (show prG d g (rE d) < 4611686018427387904 by omega)]
    by_cases c : prG d g (rE d) = 0
    · rw [if_pos c]
      unfold grp
      rw [if_pos c, show hX 5 h s (shF q) zA = h from H]
    · rw [if_neg c, rd_2 R0, obd_some, B83_54, rd_o R0, obd_some, c_ofMounts R0 hd hB (show 3 < 6 by omega)]
      have hs3 := sB_le hd 0 3
      simp only [obd_some, obd_none, Option.toList_some, Option.toList_none, List.cons_append, List.nil_append, cond_true, cond_false, B83_61]
      rw [nI_l (show rB d < 2 ^ 31 by omega), nI_l (show sB d 0 3 < 2 ^ 31 by omega), lN_mul, lN_z (rB d * sB d 0 3), lz_neg, lN_z (prG d g (rE d)), lz_mul, B83_72]
      have g2 := l_grp2 H R0 hd hB hg0 hg c hq (rE d) 0
      have e1 : (upS d g (prG d g (rE d)) 0 : Int) - (rB d * sB d 0 3 * prG d g (rE d) : Nat) = -((rB d * sB d 0 3 : Nat) : Int) * (prG d g (rE d) : Int) := by
        rw [upS, Int.natCast_mul, Int.neg_mul]; omega
      rw [e1, lN_z (prG d g (rE d))] at g2
      exact g2 _ _ _ _ _ _ (Nat.zero_add _)
  | succ m ih =>
    intro p o4 o6 o7 o8 o9 o10 o11 o12 hpm
    have hp : p < rE d := by omega
    have hsP := sP_le hd p 0
    have hsB := sB_le hd 0 0
    obtain ⟨mx1, mx2⟩ := max0 (show sP d p 0 < 1000000 by omega) (show sB d 0 0 < 1000000 by omega)
    have go : ∀ n : Nat, n = prG d g (p + 1) → R 4 83 37 [some (.ref s), some (.ref r), some (.int (nI g)), some (.long (lN n)), none, some (.int (nI p)), none, none, none, none, none, none, none] [] h = some (none, hX 5 h s (shF (grp d g q)) zA) := by
      intro n hn
      rw [hn, B83_37, nJ_add, B83_40]
      exact ih (p + 1) _ _ _ _ _ _ _ _ (by omega)
    rw [B83_5, B83_7, rd_1 R0, obd_some, if_pos (show nI p < nI (rE d) by rw [nJ_lt (by omega) (by omega)]; exact hp)]
    simp only [bit_m hg16 (show p < 4 by omega)]
    by_cases c : g.testBit p = true
    · rw [if_neg (by rw [c]; exact Bool.noConfusion), B83_23, c_gain R0 hd hB hp]
      simp only [obd_some, obd_none, Option.toList_some, Option.toList_none, List.cons_append, List.nil_append, cond_true, cond_false, B83_31]
      rw [c_maxI, mx1]
      simp only [obd_some, obd_none, Option.toList_some, Option.toList_none, List.cons_append, List.nil_append, cond_true, cond_false, B83_34]
      rw [nI_l (by omega), lN_mul]
      refine go _ ?_
      rw [prG, if_pos c]; rfl
    · rw [if_pos (Bool.eq_false_iff.mpr c)]
      refine go _ ?_
      rw [prG, if_neg c]
theorem c_riseForGroup (H : ShareAt h s q) (R0 : RoadAt h r d) (hd : rdOk d) (hB : 0 < rB d) {g : Nat} (hg0 : 0 < g) (hg : g < 2 ^ rE d) (hq : qOk q) : mc 83 [.ref s, .ref r, .int (nI g)] h = some (none, hX 5 h s (shF (grp d g q)) zA) := by
  rw [M83]
  exact l_grp1 H R0 hd hB hg0 hg hq (rE d) 0 _ _ _ _ _ _ _ _ (Nat.zero_add _)
theorem sh_road (H : ShareAt h s q) (R0 : RoadAt h r d) (ho : s < r ∨ r + 4 < s) (w : Nat × Nat) : RoadAt (hX 5 h s (shF w) zA) r d :=
  R0.out (c := 4) (d := 5) (b := s) (by simp only [oN]; omega)
theorem l_even2 (R0 : RoadAt h r d) (hd : rdOk d) (hB : 0 < rB d) (ho : s < r ∨ r + 4 < s) :
    ∀ (m n : Nat), n + m = 2 ^ rE d - 1 → R 5 78 45 [some (.ref s), some (.ref r), some (.int (nI (n + 1)))] [] (hX 5 h s (shF (evG d n)) zA) = some (none, hX 5 h s (shF (evn d)) zA) := by
  have h4 := hd.2.1
  have h16 : 2 ^ rE d ≤ 16 := Nat.pow_le_pow_right (n := 2) (by decide) h4
  have h1 : 1 ≤ 2 ^ rE d := Nat.one_le_two_pow
  intro m
  induction m with
  | zero =>
    intro n hn
    have R1 : RoadAt (hX 5 h s (shF (evG d n)) zA) r d := R0.out (c := 4) (d := 5) (b := s) (by simp only [oN]; omega)
    rw [B78_45, rd_1 R1, obd_some, shl_m (by omega), if_neg (show ¬ nI (n + 1) < nI (2 ^ rE d) by rw [nJ_lt (by omega) (by omega)]; omega)]
    unfold evn
    rw [← hn, Nat.add_zero]
  | succ m ih =>
    intro n hn
    have R1 : RoadAt (hX 5 h s (shF (evG d n)) zA) r d := R0.out (c := 4) (d := 5) (b := s) (by simp only [oN]; omega)
    have H1 : ShareAt (hX 5 h s (shF (evG d n)) zA) s (evG d n) := At.own _ _ _ _ _
    rw [B78_45, rd_1 R1, obd_some, shl_m (by omega), if_pos (show nI (n + 1) < nI (2 ^ rE d) by rw [nJ_lt (by omega) (by omega)]; omega), se_o H1, obd_some, c_riseForGroup H1 R1 hd hB (Nat.succ_pos n) (by omega) (evG_ok hd n (by omega))]
    simp only [obd_some, obd_none, Option.toList_some, Option.toList_none, List.cons_append, List.nil_append, cond_true, cond_false, B78_61, hX_hX, nJ_add]
    exact ih (n + 1) (by omega)
theorem l_even1 (R0 : RoadAt h r d) (hd : rdOk d) (hB : 0 < rB d) (ho : s < r ∨ r + 4 < s) :
    ∀ (m p : Nat), p + m = rE d → R 5 78 8 [some (.ref s), some (.ref r), some (.int (nI p))] [] (hX 5 h s (shF (evP d p)) zA) = some (none, hX 5 h s (shF (evn d)) zA) := by
  have h4 := hd.2.1
  intro m
  induction m with
  | zero =>
    intro p hp
    obtain rfl : p = rE d := hp
    have R1 : RoadAt (hX 5 h s (shF (evP d (rE d))) zA) r d := R0.out (c := 4) (d := 5) (b := s) (by simp only [oN]; omega)
    rw [B78_8, rd_1 R1, obd_some, if_neg (show ¬ nI (rE d) < nI (rE d) from Int32.lt_irrefl)]
    exact l_even2 R0 hd hB ho (2 ^ rE d - 1) 0 (Nat.zero_add _)
  | succ m ih =>
    intro p hpm
    have hp : p < rE d := by omega
    have hsP := sP_le hd p 0
    have hsB := sB_le hd 0 0
    have R1 : RoadAt (hX 5 h s (shF (evP d p)) zA) r d := R0.out (c := 4) (d := 5) (b := s) (by simp only [oN]; omega)
    have H1 : ShareAt (hX 5 h s (shF (evP d p)) zA) s (evP d p) := At.own _ _ _ _ _
    rw [B78_8, rd_1 R1, obd_some, if_pos (show nI p < nI (rE d) by rw [nJ_lt (by omega) (by omega)]; exact hp), rd_o R1, obd_some, c_ofPersons R1 hd hp (show 0 < 4 by omega)]
    simp only [obd_some, obd_none, Option.toList_some, Option.toList_none, List.cons_append, List.nil_append, cond_true, cond_false, B78_23]
    rw [rd_o R1, obd_some, c_ofMounts R1 hd hB (show 0 < 6 by omega)]
    simp only [obd_some, obd_none, Option.toList_some, Option.toList_none, List.cons_append, List.nil_append, cond_true, cond_false, B78_29]
    rw [c_min (by omega) (by omega)]
    simp only [obd_some, obd_none, Option.toList_some, Option.toList_none, List.cons_append, List.nil_append, cond_true, cond_false, B78_32]
    have hv : (if sB d 0 0 < sP d p 0 then sB d 0 0 else sP d p 0) ≤ 99 := by split <;> omega
    rw [nI_l (by omega), se_o H1, obd_some, lN_z (if sB d 0 0 < sP d p 0 then sB d 0 0 else sP d p 0), c_riseTo H1 (evP_ok hd p) (by omega) (by omega) (Nat.one_pos) (by omega)]
    simp only [obd_some, obd_none, Option.toList_some, Option.toList_none, List.cons_append, List.nil_append, cond_true, cond_false, B78_37, hX_hX, nJ_add]
    exact ih (p + 1) (by omega)
theorem c_becomeEven (H : ShareAt h s q) (R0 : RoadAt h r d) (hd : rdOk d) (hB : 0 < rB d) (ho : s < r ∨ r + 4 < s) : mc 78 [.ref s, .ref r] h = some (none, hX 5 h s (shF (evn d)) zA) := by
  rw [M78, se_o H, obd_some, c_become H Nat.one_pos (by omega) (by omega)]
  simp only [obd_some, obd_none, Option.toList_some, Option.toList_none, List.cons_append, List.nil_append, cond_true, cond_false, B78_6]
  exact l_even1 R0 hd hB ho (rE d) 0 (Nat.zero_add _)
/-- what a person rides, out of even for a mile -/
def ridn (d : jRD) (p : Nat) (q : Nat × Nat) : Nat × Nat :=
  if 0 < gn d p ∧ q.1 < sP d p 0 * q.2 then red (sumN (rM d) (rP d) * (sP d p 0 * q.2 - q.1)) (q.2 * gn d p) else red 0 1
theorem c_becomeRidden (H : ShareAt h s q) (R0 : RoadAt h r d) (hd : rdOk d) (hB : 0 < rB d) (hq : qOk q) {p : Nat} (hp : p < rE d) : mc 88 [.ref s, .ref r, .int (nI p)] h = some (none, hX 5 h s (shF (ridn d p q)) zA) := by
  have hsP := sP_le hd p 0
  have hsB := sB_le hd 0 0
  have h6 := hd.1
  have hall := sumN_le hd.2.2.2.1 (rP d)
  obtain ⟨mx1, mx2⟩ := max0 (show sP d p 0 < 1000000 by omega) (show sB d 0 0 < 1000000 by omega)
  obtain ⟨q0, q1, q2⟩ := hq
  have hm : sP d p 0 * q.2 ≤ 99 * 4000000 := Nat.mul_le_mul hsP q2
  have e36 : ∀ o1 o2 o3 o4 o5 : Option Value, R 3 88 36 [some (.ref s), o1, o2, o3, o4, o5] [] h = some (none, hX 5 h s (shF (red 0 1)) zA) := by
    intro o1 o2 o3 o4 o5
    rw [B88_36, B88_37, se_o H, obd_some, c_become H Nat.one_pos (by omega) (by omega)]
    simp only [obd_some, obd_none, Option.toList_some, Option.toList_none, List.cons_append, List.nil_append, cond_true, cond_false, B88_42, B88_64]
  rw [M88, c_gain R0 hd hB hp]
  simp only [obd_some, obd_none, Option.toList_some, Option.toList_none, List.cons_append, List.nil_append, cond_true, cond_false, B88_5]
  rw [rd_o R0, obd_some, c_ofPersons R0 hd hp (show 0 < 4 by omega)]
  simp only [obd_some, obd_none, Option.toList_some, Option.toList_none, List.cons_append, List.nil_append, cond_true, cond_false, B88_12]
  rw [se_1 H, obd_some, se_0 H, obd_some, nI_l (by omega), lN_mul, lN_z (sP d p 0 * q.2), lN_z q.1, lz_sub]
  simp only [mx2, lN_z 0, cmp_gt (show sm (((sP d p 0 * q.2 : Nat) : Int) - q.1) from ⟨by omega, by omega⟩) (show sm ((0 : Nat) : Int) from ⟨by omega, by omega⟩)]
  unfold ridn
  by_cases c : 0 < sP d p 0 - sB d 0 0
  · rw [if_pos c]
    by_cases c2 : ((0 : Nat) : Int) < ((sP d p 0 * q.2 : Nat) : Int) - q.1
    · rw [if_pos c2, if_pos ⟨c, by omega⟩, rd_o R0, obd_some, c_allMiles R0 hd]
      simp only [obd_some, obd_none, Option.toList_some, Option.toList_none, List.cons_append, List.nil_append, cond_true, cond_false, B88_50]
      have hgn : gn d p = sP d p 0 - sB d 0 0 := rfl
      have b1 : sumN (rM d) (rP d) * (sP d p 0 * q.2 - q.1) ≤ 54 * (99 * 4000000) := Nat.mul_le_mul (by omega) (by omega)
      have b2 : q.2 * gn d p ≤ 4000000 * 99 := Nat.mul_le_mul q2 (gn_le hd p)
      have b3 : 0 < q.2 * gn d p := Nat.mul_pos q0 (by omega)
      rw [se_1 H, obd_some, se_o H, obd_some, nI_l (by omega), nI_sub (by omega), ← hgn, nI_l (by have := gn_le hd p; omega), lN_mul, show ((sP d p 0 * q.2 : Nat) : Int) - q.1 = ((sP d p 0 * q.2 - q.1 : Nat) : Int) by omega, ← lN_z, lN_mul, c_become H b3 (by omega) (by omega)]
      simp only [obd_some, obd_none, Option.toList_some, Option.toList_none, List.cons_append, List.nil_append, cond_true, cond_false, B88_64]
    · rw [if_neg c2, if_neg (fun z => c2 (by have := z.2; omega)), e36]
  · rw [if_neg c, if_neg (fun z => c z.1), e36]
end EvenRows2
