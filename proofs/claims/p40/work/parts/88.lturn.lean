/-! The law's turn: its end. -/
section LTurn
variable {x : Nat} {S : jST} {b L : Nat} {xs : Nat → Int32} {r p : Nat} {fr : Nat → Int32} {F : Nat → Nat → Int32} {d : jRD} {e up dn : Nat} {can fl : Int32}
/-- whether somebody could not be sooner -/
theorem l_tgt {h : jHp} (I : WL x S b L xs r p fr F h) (hr : RdA d fr) (hd : rdOk d) (hs : smD d) (hB : 0 < rB d) (nu nd : Int64) (hb : ∀ q, q < rE d → allM d * mnP d q * dn < 9223372036854775808) (hu : up < 9223372036854775808) : ∀ m i tf, i + m = rE d → (tf = nI 0 ∨ tf = nI 1) →
    ∃ tf', R 26 0 1314 [some (.ref b), some (.ref x), some (.int (nI e)), some (.ref r), none, none, none, none, none, none, some (.int can), none, none, some (.ref (p + 2)), none, none, none, none, none, some (.long (lN up)), none, some (.long (lN dn)), none, some (.int (nI (allM d))), some (.int fl), some (.long (lN (allM d * hld d))), none, some (.long nu), none, some (.long nd), none, some (.int tf), some (.int (nI i)), none, none, none, none, none, none, none, none, none] [] h = R 26 0 1390 [some (.ref b), some (.ref x), some (.int (nI e)), some (.ref r), none, none, none, none, none, none, some (.int can), none, none, some (.ref (p + 2)), none, none, none, none, none, some (.long (lN up)), none, some (.long (lN dn)), none, some (.int (nI (allM d))), some (.int fl), some (.long (lN (allM d * hld d))), none, some (.long nu), none, some (.long nd), none, some (.int tf'), some (.int (nI (rE d))), none, none, none, none, none, none, none, none, none] [.long (lN (allM d * hld d) * nd), .long nu] h ∧ (tf = nI 1 → tf' = nI 1) ∧ ((∃ q, i ≤ q ∧ q < rE d ∧ allM d * mnP d q * dn = up) → tf' = nI 1)
  | 0, i, tf, hi, h01 => by
    obtain rfl : i = rE d := hi
    refine ⟨tf, ?_, fun z => z, fun ⟨q, q1, q2, _⟩ => absurd q2 (by omega)⟩
    rw [B0_1314, I.rr (by omega), obd_some, hr.2.1, if_neg (show ¬ nI (rE d) < nI (rE d) from fun z => Int32.lt_irrefl z)]
  | m + 1, i, tf, hi, h01 => by
    have h4 := hd.2.1
    have hiE : i < rE d := by omega
    have hP := hs.2.2.1 i hiE
    have hQ := sB_le hd 0 0
    have hD27 := allM27 hd hs
    have e36 : alI h r (nI 36) = some (nI (sB d 0 0)) := by rw [I.rr (by omega)]; exact congrArg some (hr.2.2.2.2.2.2.2 0 0 hB (by omega))
    have e20 : alI h r (nI 20 + nI 4 * nI i) = some (nI (sP d i 0)) := by
      rw [nI_mul, nJ_add, I.rr (by omega)]; exact congrArg some (hr.2.2.2.2.2.2.1 i 0 hiE (by omega))
    have ih := fun t h1 => l_tgt I hr hd hs hB nu nd hb hu m (i + 1) t (by omega) h1
    have e0 : R 26 0 1314 [some (.ref b), some (.ref x), some (.int (nI e)), some (.ref r), none, none, none, none, none, none, some (.int can), none, none, some (.ref (p + 2)), none, none, none, none, none, some (.long (lN up)), none, some (.long (lN dn)), none, some (.int (nI (allM d))), some (.int fl), some (.long (lN (allM d * hld d))), none, some (.long nu), none, some (.long nd), none, some (.int tf), some (.int (nI i)), none, none, none, none, none, none, none, none, none] [] h = R 26 0 1328 [some (.ref b), some (.ref x), some (.int (nI e)), some (.ref r), none, none, none, none, none, none, some (.int can), none, none, some (.ref (p + 2)), none, none, none, none, none, some (.long (lN up)), none, some (.long (lN dn)), none, some (.int (nI (allM d))), some (.int fl), some (.long (lN (allM d * hld d))), none, some (.long nu), none, some (.long nd), none, some (.int tf), some (.int (nI i)), none, none, none, none, none, none, none, none, none] [.int (nI i), .int (nI 4), .int (nI 20), .ref r] h := by
      rw [B0_1314, I.rr (by omega), obd_some, hr.2.1, if_pos (show nI i < nI (rE d) by rw [nJ_lt (by omega) (by omega)]; exact hiE)]
    rw [e0, B0_1328, e20, obd_some]
    rcases h01 with z | z
    · have hc : ∀ v, v ≤ 99 → R 26 0 1359 [some (.ref b), some (.ref x), some (.int (nI e)), some (.ref r), none, none, none, none, none, none, some (.int can), none, none, some (.ref (p + 2)), none, none, none, none, none, some (.long (lN up)), none, some (.long (lN dn)), none, some (.int (nI (allM d))), some (.int fl), some (.long (lN (allM d * hld d))), none, some (.long nu), none, some (.long nd), none, some (.int tf), some (.int (nI i)), some (.int (nI (sP d i 0))), none, none, none, none, none, none, none, none] [.int (nI v), .long (lN (allM d))] h = if lg_cmp (lN (allM d * v * dn)) (lN up) = 0 then R 26 0 1314 [some (.ref b), some (.ref x), some (.int (nI e)), some (.ref r), none, none, none, none, none, none, some (.int can), none, none, some (.ref (p + 2)), none, none, none, none, none, some (.long (lN up)), none, some (.long (lN dn)), none, some (.int (nI (allM d))), some (.int fl), some (.long (lN (allM d * hld d))), none, some (.long nu), none, some (.long nd), none, some (.int (nI 1)), some (.int (nI (i + 1))), none, none, none, none, none, none, none, none, none] [] h else R 26 0 1314 [some (.ref b), some (.ref x), some (.int (nI e)), some (.ref r), none, none, none, none, none, none, some (.int can), none, none, some (.ref (p + 2)), none, none, none, none, none, some (.long (lN up)), none, some (.long (lN dn)), none, some (.int (nI (allM d))), some (.int fl), some (.long (lN (allM d * hld d))), none, some (.long nu), none, some (.long nd), none, some (.int (nI 0)), some (.int (nI (i + 1))), none, none, none, none, none, none, none, none, none] [] h := by
        intro v hv
        rw [B0_1359, nI_l (show v < 2 ^ 31 by omega), lN_mul, lN_mul]
        by_cases y : lg_cmp (lN (allM d * v * dn)) (lN up) = 0
        · rw [if_pos y, if_pos y, B0_1375, nJ_add]
        · rw [if_neg y, if_neg y, B0_1375, nJ_add]
      have hm : R 26 0 1343 [some (.ref b), some (.ref x), some (.int (nI e)), some (.ref r), none, none, none, none, none, none, some (.int can), none, none, some (.ref (p + 2)), none, none, none, none, none, some (.long (lN up)), none, some (.long (lN dn)), none, some (.int (nI (allM d))), some (.int fl), some (.long (lN (allM d * hld d))), none, some (.long nu), none, some (.long nd), none, some (.int tf), some (.int (nI i)), some (.int (nI (sP d i 0))), none, none, none, none, none, none, none, none] [.int (nI (sP d i 0)), .long (lN (allM d))] h = if lg_cmp (lN (allM d * mnP d i * dn)) (lN up) = 0 then R 26 0 1314 [some (.ref b), some (.ref x), some (.int (nI e)), some (.ref r), none, none, none, none, none, none, some (.int can), none, none, some (.ref (p + 2)), none, none, none, none, none, some (.long (lN up)), none, some (.long (lN dn)), none, some (.int (nI (allM d))), some (.int fl), some (.long (lN (allM d * hld d))), none, some (.long nu), none, some (.long nd), none, some (.int (nI 1)), some (.int (nI (i + 1))), none, none, none, none, none, none, none, none, none] [] h else R 26 0 1314 [some (.ref b), some (.ref x), some (.int (nI e)), some (.ref r), none, none, none, none, none, none, some (.int can), none, none, some (.ref (p + 2)), none, none, none, none, none, some (.long (lN up)), none, some (.long (lN dn)), none, some (.int (nI (allM d))), some (.int fl), some (.long (lN (allM d * hld d))), none, some (.long nu), none, some (.long nd), none, some (.int (nI 0)), some (.int (nI (i + 1))), none, none, none, none, none, none, none, none, none] [] h := by
        rw [B0_1343, e36, obd_some]
        unfold mnP
        by_cases y : sP d i 0 < sB d 0 0
        · rw [if_pos (show nI (sP d i 0) < nI (sB d 0 0) by rw [nJ_lt (by omega) (by omega)]; exact y), hc _ (by omega), if_neg (show ¬ sB d 0 0 < sP d i 0 by omega)]
        · rw [if_neg (show ¬ nI (sP d i 0) < nI (sB d 0 0) by rw [nJ_lt (by omega) (by omega)]; exact y), obd_some, hc _ hQ]
          by_cases y2 : sB d 0 0 < sP d i 0
          · rw [if_pos y2]
          · rw [if_neg y2, show sB d 0 0 = sP d i 0 by omega]
      have hb2 : allM d * mnP d i * dn < 9223372036854775808 := hb i hiE
      rw [if_pos (show tf = 0 from z), nI_l (show allM d < 2 ^ 31 by omega), hm]
      by_cases y : allM d * mnP d i * dn = up
      · obtain ⟨t', q1, q2, q3⟩ := ih (nI 1) (Or.inr rfl)
        refine ⟨t', ?_, fun w => absurd (z.symm.trans w) (by decide), fun _ => q2 rfl⟩
        rw [if_pos (show lg_cmp (lN (allM d * mnP d i * dn)) (lN up) = 0 by rw [cN_eq hb2 hu]; exact y)]
        exact q1
      · obtain ⟨t', q1, q2, q3⟩ := ih (nI 0) (Or.inl rfl)
        refine ⟨t', ?_, fun w => absurd (z.symm.trans w) (by decide), fun ⟨q, w1, w2, w3⟩ => q3 ⟨q, by
          by_cases v : q = i
          · subst v; exact absurd w3 y
          · omega, w2, w3⟩⟩
        rw [if_neg (show ¬ lg_cmp (lN (allM d * mnP d i * dn)) (lN up) = 0 by rw [cN_eq hb2 hu]; exact y)]
        exact q1
    · obtain ⟨t', q1, q2, q3⟩ := ih (nI 1) (Or.inr rfl)
      refine ⟨t', ?_, fun _ => q2 rfl, fun _ => q2 rfl⟩
      rw [if_neg (show ¬ tf = 0 by rw [z]; decide), B0_1375, nJ_add]
      exact q1
end LTurn
section LTurn2
variable {x : Nat} {S : jST} {b L : Nat} {xs : Nat → Int32} {r p : Nat} {fr : Nat → Int32} {F : Nat → Nat → Int32} {d : jRD} {e cl rw few : Nat} {can fe so : Int32}
/-- even and share: to the turn's end -/
theorem l_even {h : jHp} (I : WL x S b L xs r p fr F h) (hr : RdA d fr) (hd : rdOk d) (hE : 0 < rE d) (hP3 : rP d ≤ 3) (hE3 : rE d ≤ 3) (h34 : ∀ q, q < rE d → sP d q 0 ≤ 34) (hQ1 : 0 < rB d → 1 ≤ sB d 0 0) (he : e < zn S) (hD : zD S e = d) (hn : nRows d ≤ 729) (R0 : RwI d few (nRows d) F can fe so) :
    ∃ h', R 26 0 632 [some (.ref b), some (.ref x), some (.int (nI e)), some (.ref r), none, none, none, some (.int (nI cl)), some (.int (nI rw)), some (.int (nI few)), some (.int can), some (.ref p), none, some (.ref (p + 2)), some (.ref (p + 3)), some (.ref (p + 4)), some (.ref (p + 5)), none, none, some (.int (nI 6)), none, none, none, none, none, none, none, none, none, none, none, none, none, none, none, none, none, none, none, none, none, none] [] h = R 26 0 24 [some (.ref b), some (.ref x), some (.int (nI (e + 1))), none, none, none, none, none, none, none, none, none, none, none, none, none, none, none, none, none, none, none, none, none, none, none, none, none, none, none, none, none, none, none, none, none, none, none, none, none, none, none] [] h' ∧ WL x S b L xs r p fr F h' ∧ h'.2 = h.2 := by
  have hS := I.1.2.1
  have h3 := hS.1
  obtain ⟨G1, o1⟩ := I.1.o
  obtain ⟨h1, c1, I1, z1⟩ := e_call I he hD 0 (by omega)
  obtain ⟨G2, o2⟩ := I1.1.o
  obtain ⟨h2, c2, I2, z2⟩ := e_call I1 he hD 1 (by omega)
  obtain ⟨G3, o3⟩ := I2.1.o
  by_cases hB : rB d = 0
  · rw [if_pos (Or.inl hB)] at c1 c2
    obtain ⟨h5, c5, I5, K5⟩ := I2.call (fun dr ra ba pa W => T_share W hS (nI e) (nI 0) (nI 0))
    have ea : aShare S (nI e) (nI 0) (nI 0) = lostJ := by
      unfold aShare
      rw [if_pos (show inN (nI e) (zn S) from inN_of he (by omega)), toNat_nI (show e < 2147483648 by omega), hD, if_pos (show inN (nI 0) (rE d) from inN_of hE (by omega)), if_pos (show inN (nI 0) 2 from inN_of (by omega) (by omega)), if_pos hB]
    rw [ea] at c5
    refine ⟨h5, ?_, I5, by rw [K5.2.2, z2, z1]⟩
    have cl0 : lg_cmp lostJ (-lN 9223372036854775808) = 0 := cmp_sf _
    rw [B0_632, if_neg (show ¬ nI 6 < nI 6 by decide), o1, obd_some, c1]
    simp only [obd_some, obd_none, Option.toList_some, Option.toList_none, List.cons_append, List.nil_append, cond_true, cond_false]
    rw [B0_894, o2, obd_some, c2]
    simp only [obd_some, obd_none, Option.toList_some, Option.toList_none, List.cons_append, List.nil_append, cond_true, cond_false]
    rw [B0_902, I2.rr (by omega), obd_some, hr.2.2.1, if_pos (show nI (rB d) = 0 by rw [hB]; rfl), if_pos cl0, B0_919, if_pos cl0, o3, obd_some, c5]
    simp only [obd_some, obd_none, Option.toList_some, Option.toList_none, List.cons_append, List.nil_append, cond_true, cond_false]
    rw [B0_935, if_pos cl0, B0_1438, B0_1441, nJ_add]
  · have hB0 : 0 < rB d := by omega
    have hs : smD d := ⟨hP3, hE3, h34, hQ1 hB0⟩
    have hev := evn_spec hd hE
    have hl := evn33 hs
    have hok := evn_ok hd
    have hD27 := allM27 hd hs
    have h2B := hd.2.2.1
    have h4 := hd.2.1
    have hH := sB_le hd 0 3
    obtain ⟨u, l, huv⟩ : ∃ u l, evn d = (u, l) := ⟨_, _, rfl⟩
    rw [huv] at hev hl hok
    have hev : EvS d u l := hev
    have hl : l ≤ 3267 := hl
    have hu4 : u ≤ 400000000 := hok.2.1
    obtain ⟨hdn, hq⟩ := evnA_e hev.1 huv
    have hdl : (evnA d).2 ≤ 3267 := by
      have : (evnA d).2 ≤ (evn d).2 := (red_le _ _).2
      rw [huv] at this
      exact Nat.le_trans this hl
    have hup : (evnA d).1 ≤ 10800000000 := by
      have a1 : (evnA d).1 ≤ (evn d).1 * sumN (rM d) (rP d) := (red_le _ _).1
      rw [huv] at a1
      have a2 : u * allM d ≤ 400000000 * 27 := Nat.mul_le_mul hu4 hD27
      have a3 : (evnA d).1 ≤ u * allM d := a1
      omega
    rw [if_neg (by omega), if_pos rfl] at c1
    rw [if_neg (by omega), if_neg (by omega)] at c2
    generalize (evnA d).1 = up at c1 hq hup
    generalize (evnA d).2 = dn at c2 hdn hq hdl
    -- the ground, what all hold
    have eA : ∃ fl0, (fl0 = nI 0 ∨ fl0 = nI 1) ∧ (fl0 = nI 1 → rL d = none ∧ ∀ j, j < 0 → rG d j = 0) ∧ R 26 0 632 [some (.ref b), some (.ref x), some (.int (nI e)), some (.ref r), none, none, none, some (.int (nI cl)), some (.int (nI rw)), some (.int (nI few)), some (.int can), some (.ref p), none, some (.ref (p + 2)), some (.ref (p + 3)), some (.ref (p + 4)), some (.ref (p + 5)), none, none, some (.int (nI 6)), none, none, none, none, none, none, none, none, none, none, none, none, none, none, none, none, none, none, none, none, none, none] [] h = R 26 0 963 [some (.ref b), some (.ref x), some (.int (nI e)), some (.ref r), none, none, none, none, none, none, some (.int can), none, none, some (.ref (p + 2)), none, none, none, none, none, some (.long (lN up)), none, some (.long (lN dn)), none, some (.int (nI (sumN (rM d) 0))), some (.int fl0), some (.int (nI 0)), none, none, none, none, none, none, none, none, none, none, none, none, none, none, none, none] [] h2 := by
      have e1 : R 26 0 632 [some (.ref b), some (.ref x), some (.int (nI e)), some (.ref r), none, none, none, some (.int (nI cl)), some (.int (nI rw)), some (.int (nI few)), some (.int can), some (.ref p), none, some (.ref (p + 2)), some (.ref (p + 3)), some (.ref (p + 4)), some (.ref (p + 5)), none, none, some (.int (nI 6)), none, none, none, none, none, none, none, none, none, none, none, none, none, none, none, none, none, none, none, none, none, none] [] h = R 26 0 947 [some (.ref b), some (.ref x), some (.int (nI e)), some (.ref r), none, none, none, some (.int (nI cl)), some (.int (nI rw)), some (.int (nI few)), some (.int can), some (.ref p), none, some (.ref (p + 2)), some (.ref (p + 3)), some (.ref (p + 4)), some (.ref (p + 5)), none, none, some (.long (lN up)), none, some (.long (lN dn)), none, some (.int (nI 0)), none, none, none, none, none, none, none, none, none, none, none, none, none, none, none, none, none, none] [] h2 := by
        rw [B0_632, if_neg (show ¬ nI 6 < nI 6 by decide), o1, obd_some, c1]
        simp only [obd_some, obd_none, Option.toList_some, Option.toList_none, List.cons_append, List.nil_append, cond_true, cond_false]
        rw [B0_894, o2, obd_some, c2]
        simp only [obd_some, obd_none, Option.toList_some, Option.toList_none, List.cons_append, List.nil_append, cond_true, cond_false]
        rw [B0_902, I2.rr (by omega), obd_some, hr.2.2.1, if_neg (show ¬ nI (rB d) = 0 by rw [nI_eq0 (by omega)]; exact hB)]
      have e3 : alI h2 r (nI 3) = some (lwho (rL d)) := by rw [I2.rr (by omega), hr.2.2.2.1]
      rw [e1, B0_947, e3, obd_some]
      cases eL : rL d with
      | none =>
        refine ⟨nI 1, Or.inr rfl, fun _ => ⟨rfl, fun j hj => absurd hj (Nat.not_lt_zero j)⟩, ?_⟩
        rw [if_pos (show lwho none < 0 by decide), B0_958, B0_960]; rfl
      | some q =>
        have hq4 := (hd.2.2.2.2.2.2.2 q eL).1
        refine ⟨nI 0, Or.inl rfl, fun z => absurd z (by decide), ?_⟩
        rw [if_neg (show ¬ lwho (some q) < 0 from nI_nneg (show q.1 < 2147483648 by omega)), B0_958, B0_960]; rfl
    obtain ⟨fl0, f1, f2, eA⟩ := eA
    obtain ⟨fl, eB, f3, f4⟩ := l_mls (up := up) (dn := dn) (e := e) (can := can) I2 hr hd hB0 (rP d) 0 fl0 (by omega) f1 f2
    obtain ⟨h6, eC, I6, z6⟩ := l_shr (up := up) (dn := dn) (can := can) (fl := fl) hr hd hs hB0 he hD hev huv hl hu4 hdn hdl hup hq (rE d) 0 h2 none none none (by omega) I2
    have e39 : alI h2 r (nI 39) = some (nI (sB d 0 3)) := by rw [I2.rr (by omega)]; exact congrArg some (hr.2.2.2.2.2.2.2 0 3 hB0 (by omega))
    have hrl := fun j (hj : j < rE d) => (ridn_law (p := j) hev hj hdn hq).1
    obtain ⟨n1, n2⟩ := nd_sm hd hs hev hl hrl (Nat.le_refl (rE d))
    obtain ⟨n3, n4⟩ := nd_le hev
    have hhl : hld d ≤ 2 * 2 ∨ True := Or.inr trivial
    have hld2 : hld d ≤ 198 := by
      have : rB d * sB d 0 3 ≤ 2 * 99 := Nat.mul_le_mul h2B hH
      exact this
    have n5 : allM d * hld d * (ndU d u l (rE d)).2 < 9223372036854775808 := by
      have b1 : allM d * hld d ≤ 27 * 198 := Nat.mul_le_mul hD27 hld2
      have b2 : allM d * hld d * (ndU d u l (rE d)).2 ≤ 27 * 198 * 1253110078852731 := Nat.mul_le_mul b1 n1
      omega
    have hmnb : ∀ q, q < rE d → allM d * mnP d q * dn < 9223372036854775808 := by
      intro q hq'
      have := (ridn_law (p := q) hev hq' hdn hq).2.2.2.2
      omega
    -- up to the sums
    have eS : R 26 0 1050 [some (.ref b), some (.ref x), some (.int (nI e)), some (.ref r), none, none, none, none, none, none, some (.int can), none, none, some (.ref (p + 2)), none, none, none, none, none, some (.long (lN up)), none, some (.long (lN dn)), none, some (.int (nI (allM d))), none, none, none, none, none, none, none, none, none, none, none, none, none, none, none, none, none, none] [.int fl] h2 = R 26 0 1077 [some (.ref b), some (.ref x), some (.int (nI e)), some (.ref r), none, none, none, none, none, none, some (.int can), none, none, some (.ref (p + 2)), none, none, none, none, none, some (.long (lN up)), none, some (.long (lN dn)), none, some (.int (nI (allM d))), some (.int fl), some (.long (lN (allM d * hld d))), none, some (.long (lN (ndU d u l 0).1)), none, some (.long (lN (ndU d u l 0).2)), none, some (.int (nI 0)), none, none, none, none, none, none, none, none, none, none] [] h2 := by
      rw [B0_1050, I2.rr (by omega), obd_some, hr.2.2.1, nI_l (show allM d < 2 ^ 31 by omega), nI_l (show rB d < 2 ^ 31 by omega), lN_mul, B0_1061, e39, obd_some, nI_l (show sB d 0 3 < 2 ^ 31 by omega), lN_mul, Nat.mul_assoc, B0_1071]
      rfl
    -- nobody sooner, or all is held
    have eT : ∃ tf, R 26 0 1300 [some (.ref b), some (.ref x), some (.int (nI e)), some (.ref r), none, none, none, none, none, none, some (.int can), none, none, some (.ref (p + 2)), none, none, none, none, none, some (.long (lN up)), none, some (.long (lN dn)), none, some (.int (nI (allM d))), some (.int fl), some (.long (lN (allM d * hld d))), none, some (.long (lN (ndU d u l (rE d)).1)), none, some (.long (lN (ndU d u l (rE d)).2)), none, some (.int (nI (rE d))), none, none, none, none, none, none, none, none, none, none] [.long (lN (allM d * hld d * (ndU d u l (rE d)).2)), .long (lN (ndU d u l (rE d)).1)] h6 = R 26 0 1390 [some (.ref b), some (.ref x), some (.int (nI e)), some (.ref r), none, none, none, none, none, none, some (.int can), none, none, some (.ref (p + 2)), none, none, none, none, none, some (.long (lN up)), none, some (.long (lN dn)), none, some (.int (nI (allM d))), some (.int fl), some (.long (lN (allM d * hld d))), none, some (.long (lN (ndU d u l (rE d)).1)), none, some (.long (lN (ndU d u l (rE d)).2)), none, some (.int tf), some (.int (nI (rE d))), none, none, none, none, none, none, none, none, none] [.long (lN (allM d * hld d) * lN (ndU d u l (rE d)).2), .long (lN (ndU d u l (rE d)).1)] h6 ∧ tf = nI 1 := by
      have hT := fun tf h01 => l_tgt (up := up) (dn := dn) (e := e) (can := can) (fl := fl) I6 hr hd hs hB0 (lN (ndU d u l (rE d)).1) (lN (ndU d u l (rE d)).2) hmnb (by omega) (rE d) 0 tf (by omega) h01
      rw [B0_1300]
      by_cases y : (ndU d u l (rE d)).1 = allM d * hld d * (ndU d u l (rE d)).2
      · obtain ⟨tf, q1, q2, q3⟩ := hT (nI 1) (Or.inr rfl)
        refine ⟨tf, ?_, q2 rfl⟩
        rw [if_pos (show lg_cmp (lN (ndU d u l (rE d)).1) (lN (allM d * hld d * (ndU d u l (rE d)).2)) = 0 by rw [cN_eq (by omega) n5]; exact y)]
        exact q1
      · obtain ⟨tf, q1, q2, q3⟩ := hT (nI 0) (Or.inl rfl)
        refine ⟨tf, ?_, ?_⟩
        · rw [if_neg (show ¬ lg_cmp (lN (ndU d u l (rE d)).1) (lN (allM d * hld d * (ndU d u l (rE d)).2)) = 0 by rw [cN_eq (by omega) n5]; exact y)]
          exact q1
        · rcases n4 with ⟨q, w1, w2⟩ | w
          · exact q3 ⟨q, Nat.zero_le q, w1, tight_mn hev.1 hq w2⟩
          · exact absurd w y
    obtain ⟨tf, eT, htf⟩ := eT
    subst htf
    obtain ⟨G6, o6⟩ := I6.1.o
    obtain ⟨h7, c7, I7, z7⟩ := e_call I6 he hD 2 (by omega)
    rw [if_pos (Or.inr rfl)] at c7
    refine ⟨h7, ?_, I7, by rw [z7, z6, z2, z1]⟩
    have cl0 : lg_cmp lostJ (-lN 9223372036854775808) = 0 := cmp_sf _
    rw [eA, eB, eS, eC, eT, lN_mul, B0_1390, if_neg (show ¬ 0 < lg_cmp (lN (ndU d u l (rE d)).1) (lN (allM d * hld d * (ndU d u l (rE d)).2)) by rw [cN_gt (by omega) n5]; omega), if_neg (show ¬ nI 1 = 0 by decide), o6, obd_some, c7]
    simp only [obd_some, obd_none, Option.toList_some, Option.toList_none, List.cons_append, List.nil_append, cond_true, cond_false]
    rw [B0_1405, if_pos cl0]
    rcases f3 with z | z
    · rw [if_pos (show fl = 0 from z), B0_1438, B0_1441, nJ_add]
    · rw [if_neg (show ¬ fl = 0 by rw [z]; decide)]
      obtain ⟨r1, r2, r3⟩ := R0
      have hcl := acc_cnt d (nRows d)
      by_cases y : (acc d (nRows d)).2 = 0
      · rw [if_neg (show ¬ 0 < can by rw [r1, nI_gt0 (by omega)]; omega), B0_1438, B0_1441, nJ_add]
      · obtain ⟨o0, b0, a0⟩ := r3 0 (by omega)
        have b0 : bstP d 0 100 (nRows d) o0 := b0
        have hP : 0 < rP d := by
          have := (hS.2.2.2.2.1 e he).2.1
          rw [hD] at this; exact this
        cases o0 with
        | none =>
          exfalso
          refine y ?_
          rw [acc_z]
          intro m hm hrg
          have := rec4_ties hd hP m
          exact b0 m hm hrg (by omega)
        | some w =>
          have hF := f4 z
          have hw : rgt d w = true := b0.2.1
          have hwr : wrOn d (dg d w) 0 0 (rP d) 0 = none := Option.isNone_iff_eq_none.mp hw
          have hpre : pre d (dg d w) (rP d) := fun i hi => (wrOn_none (d := d) (c := dg d w) (rP d) 0 ▸ hwr) i (Nat.zero_le i) (by omega)
          have hfl := flat_le hd hev hF (dg_le d w) hpre
          have h12 := (fsi_d hd w).1
          have el : rec4 d w 0 = lastN d (sq d (dg d w) 0 0 (rP d)) := rfl
          rw [← el] at hfl
          have hle : up ≤ rec4 d w 0 * dn := by
            refine Nat.le_of_mul_le_mul_right (c := l) ?_ hev.1
            rw [hq]
            have := Nat.mul_le_mul_right dn hfl
            have e1 : rec4 d w 0 * dn * l = rec4 d w 0 * l * dn := by grind
            omega
          have f0 : alI h7 (p + 2) (nI 0) = some (nI (rec4 d w 0)) := by rw [I7.get (i := 2) (by omega) (by omega), a0.2.2.1]
          have hb3 : rec4 d w 0 * dn ≤ 12000 * 3267 := Nat.mul_le_mul h12 hdl
          rw [if_pos (show 0 < can by rw [r1, nI_gt0 (by omega)]; omega), B0_1426, f0, obd_some, nI_l (show rec4 d w 0 < 2 ^ 31 by omega), lN_mul, if_neg (show ¬ 0 < lg_cmp (lN up) (lN (rec4 d w 0 * dn)) by rw [cN_gt (by omega) (by omega)]; omega), B0_1438, B0_1441, nJ_add]
end LTurn2
