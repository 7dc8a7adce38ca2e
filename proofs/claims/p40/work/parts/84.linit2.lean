/-! Who is lame; how many rows; the arrays for the best. -/
section LInit2
variable {x : Nat} {S : jST} {b L : Nat} {xs : Nat → Int32} {e r : Nat} {h : jHp} {d : jRD} {f : Nat → Int32}
theorem l_lame (I : LW x S b L xs h) (H : StI S (e + 1)) (he : e < 3) (A : La h r 48 f) (hD : zD S e = d) (hr : RdA d f) (hLm : rL d = none) (c6 mm : Int32) :
    ∃ S' h' f' d' o4 o5, R 26 0 100 [some (.ref b), some (.ref x), some (.int (nI e)), some (.ref r), some (.int (nI (8 * e))), some (.int mm), none, none, none, none, none, none, none, none, none, none, none, none, none, none, none, none, none, none, none, none, none, none, none, none, none, none, none, none, none, none, none, none, none, none, none, none] [.int c6] h = R 26 0 152 [some (.ref b), some (.ref x), some (.int (nI e)), some (.ref r), o4, o5, some (.int c6), none, none, none, none, none, none, none, none, none, none, none, none, none, none, none, none, none, none, none, none, none, none, none, none, none, none, none, none, none, none, none, none, none, none, none] [] h' ∧ LW x S' b L xs h' ∧ La h' r 48 f' ∧ StI S' (e + 1) ∧ zD S' e = d' ∧ RdA d' f' ∧ h'.2 = h.2 ∧ rP d' = rP d ∧ rE d' = rE d ∧ rB d' = rB d ∧ (∀ p j, sP d' p j = sP d p j) ∧ ∀ p j, sB d' p j = sB d p j := by
  obtain ⟨hzn, t1, t2, t3⟩ := H
  have hgo := I.2.1.2.2.2.2.1 e (by omega)
  rw [hD] at hgo
  obtain ⟨hd, hP, hE, hM⟩ := hgo
  have h6 := hd.1
  have h4 := hd.2.1
  rw [B0_100]
  by_cases c : c6 &&& nI 3 = 0
  · rw [if_pos c, B0_114, la_r (t := 1) A (by omega) (by omega), obd_some, hr.2.1, m_low _ hE (by omega)]
    simp only [obd_some, obd_none, Option.toList_some, Option.toList_none, List.cons_append, List.nil_append, cond_true, cond_false]
    have q1 := lowN_lt (c6 >>> (nI 2 &&& 31)) hE
    generalize lowN (c6 >>> (nI 2 &&& 31)) (rE d) = u at q1 ⊢
    have I1 := I.mvL A (upd f 3 (nI u))
    have A1 := A.own (upd f 3 (nI u))
    rw [B0_121, la_w (t := 3) _ A (by omega) (by omega), obd_some]
    have z1 : (hL h r 48 (upd f 3 (nI u))).2 = h.2 := rfl
    generalize hL h r 48 (upd f 3 (nI u)) = h1 at I1 A1 z1 ⊢
    rw [la_r (t := 0) A1 (by omega) (by omega), obd_some, show upd f 3 (nI u) 0 = f 0 from upd_n (by omega), hr.1, B0_131, m_low _ hP (by omega)]
    simp only [obd_some, obd_none, Option.toList_some, Option.toList_none, List.cons_append, List.nil_append, cond_true, cond_false]
    have q2 := lowN_lt (c6 >>> (nI 5 &&& 31)) hP
    generalize lowN (c6 >>> (nI 5 &&& 31)) (rP d) = v at q2 ⊢
    have I2 := I1.mvL A1 (upd (upd f 3 (nI u)) 4 (nI v))
    have A2 := A1.own (upd (upd f 3 (nI u)) 4 (nI v))
    rw [B0_134, la_w (t := 4) _ A1 (by omega) (by omega), obd_some]
    have z2 : (hL h1 r 48 (upd (upd f 3 (nI u)) 4 (nI v))).2 = h.2 := z1
    generalize hL h1 r 48 (upd (upd f 3 (nI u)) 4 (nI v)) = h2 at I2 A2 z2 ⊢
    rw [la_r (t := 3) A2 (by omega) (by omega), obd_some, la_r (t := 4) A2 (by omega) (by omega), obd_some, show upd (upd f 3 (nI u)) 4 (nI v) 3 = nI u from rfl, show upd (upd f 3 (nI u)) 4 (nI v) 4 = nI v from rfl]
    have el : rLame S (nI e) (nI u) (nI v) = (nI 1, setD S e (setL d (some (u, v)))) := by
      unfold rLame
      rw [if_pos (show inN (nI e) (zn S) by rw [hzn]; exact inN_of (by omega) (by omega)), toNat_nI (show e < 2147483648 by omega), hD, if_neg (show ¬ nI u = -nI 9 by rw [neg9_ne (by omega)]; exact id), if_pos (show inN (nI u) (rE d) from inN_of q1 (by omega)), if_pos (show inN (nI v) (rP d) from inN_of q2 (by omega)), toNat_nI (show u < 2147483648 by omega), toNat_nI (show v < 2147483648 by omega), hLm]
      unfold b2i
      rw [if_pos (fun z => by cases z)]
    have hS2 : stOk (setD S e (setL d (some (u, v)))) := by
      rw [← hD]
      exact stOk_L I.2.1 (fun y z => by cases z; exact ⟨by show u < 4; omega, by show v < 6; omega⟩)
    obtain ⟨h3, e3, I3, K3⟩ := I2.call hS2 (rc := mc 25 [.ref x, .int (nI e), .int (nI u), .int (nI v)] h2) (v := .int (nI 1)) (fun dr ra ba pa W => by
      have := T_lame W I2.2.1 (nI e) (nI u) (nI v)
      rw [el] at this
      exact this)
    obtain ⟨Fo, eo⟩ := I2.o
    refine ⟨setD S e (setL d (some (u, v))), h3, upd (upd f 3 (nI u)) 4 (nI v), setL d (some (u, v)), some (.int (nI (8 * e))), some (.int mm), ?_, I3, K3.1 _ _ _ A2, ⟨hzn, t1, t2, t3⟩, (by show (if e = e then setL d (some (u, v)) else zD S e) = _; rw [if_pos rfl]), ?_, K3.2.2.trans z2, rfl, rfl, rfl, fun _ _ => rfl, fun _ _ => rfl⟩
    · rw [B0_143, eo, obd_some, e3]
      simp only [obd_some, obd_none, Option.toList_some, Option.toList_none, List.cons_append, List.nil_append, cond_true, cond_false]
      rw [B0_146, if_pos rfl]
    · obtain ⟨a1, a2, a3, a4, a5, a6, a7, a8⟩ := hr
      have n : ∀ t, t ≠ 3 → t ≠ 4 → upd (upd f 3 (nI u)) 4 (nI v) t = f t := fun t n3 n4 => by rw [upd_n n4, upd_n n3]
      exact ⟨(n 0 (by omega) (by omega)).trans a1, (n 1 (by omega) (by omega)).trans a2, (n 2 (by omega) (by omega)).trans a3, rfl, rfl, fun k hk => ⟨(n _ (by omega) (by omega)).trans (a6 k hk).1, (n _ (by omega) (by omega)).trans (a6 k hk).2⟩, fun p j h1 h2 => (n _ (by omega) (by omega)).trans (a7 p j h1 h2), fun q j h1 h2 => (n _ (by omega) (by omega)).trans (a8 q j h1 h2)⟩
  · rw [if_neg c]
    exact ⟨S, h, f, d, some (.int (nI (8 * e))), some (.int mm), rfl, I, A, ⟨hzn, t1, t2, t3⟩, hD, hr, rfl, rfl, rfl, rfl, fun _ _ => rfl, fun _ _ => rfl⟩
theorem l_pow {cl : Nat} (A : La h r 48 f) (hr : RdA d f) (hB : rB d ≤ 2) (hc6 : cl ≤ 6) (c6 : Int32) : ∀ m i, i + m = cl → R 26 0 167 [some (.ref b), some (.ref x), some (.int (nI e)), some (.ref r), none, none, some (.int c6), some (.int (nI cl)), some (.int (nI ((rB d + 1) ^ i))), some (.int (nI i)), none, none, none, none, none, none, none, none, none, none, none, none, none, none, none, none, none, none, none, none, none, none, none, none, none, none, none, none, none, none, none, none] [] h = R 26 0 199 [some (.ref b), some (.ref x), some (.int (nI e)), some (.ref r), none, none, some (.int c6), some (.int (nI cl)), some (.int (nI ((rB d + 1) ^ cl))), some (.int (nI cl)), none, none, none, none, none, none, none, none, none, none, none, none, none, none, none, none, none, none, none, none, none, none, none, none, none, none, none, none, none, none, none, none] [.int (nI (lowN (c6 >>> (nI 8 &&& 31)) 3))] h
  | 0, i, hi => by
    obtain rfl : i = cl := hi
    rw [B0_167, if_neg (show ¬ nI i < nI i by rw [nJ_lt (by omega) (by omega)]; omega), m_low _ (by omega) (by omega)]
    simp only [obd_some, obd_none, Option.toList_some, Option.toList_none, List.cons_append, List.nil_append, cond_true, cond_false]
  | m + 1, i, hi => by
    have ih := l_pow A hr hB hc6 c6 m (i + 1) (by omega)
    rw [B0_167, if_pos (show nI i < nI cl by rw [nJ_lt (by omega) (by omega)]; omega), la_r (t := 2) A (by omega) (by omega), obd_some, hr.2.2.1, nJ_add, B0_181, nI_mul, nJ_add, ← Nat.pow_succ]
    exact ih
theorem l_nine {p : Nat} {few cl rw : Nat} {can : Int32} {fr : Nat → Int32} : ∀ m i F h (o6 : Option Value), i + m = 6 → WL x S b L xs r p fr F h → (∀ j, j < i → F 0 j = -nI 9) →
    ∃ F' h', R 26 0 243 [some (.ref b), some (.ref x), some (.int (nI e)), some (.ref r), none, none, o6, some (.int (nI cl)), some (.int (nI rw)), some (.int (nI few)), some (.int can), some (.ref p), some (.ref (p + 1)), some (.ref (p + 2)), some (.ref (p + 3)), some (.ref (p + 4)), some (.ref (p + 5)), some (.int (nI i)), none, none, none, none, none, none, none, none, none, none, none, none, none, none, none, none, none, none, none, none, none, none, none, none] [] h = R 26 0 274 [some (.ref b), some (.ref x), some (.int (nI e)), some (.ref r), none, none, none, some (.int (nI cl)), some (.int (nI rw)), some (.int (nI few)), some (.int can), some (.ref p), some (.ref (p + 1)), some (.ref (p + 2)), some (.ref (p + 3)), some (.ref (p + 4)), some (.ref (p + 5)), some (.int (-nI 9)), some (.int (nI 999999)), some (.int (nI 0)), none, none, none, none, none, none, none, none, none, none, none, none, none, none, none, none, none, none, none, none, none, none] [] h' ∧ WL x S b L xs r p fr F' h' ∧ h'.2 = h.2 ∧ ∀ j, j < 6 → F' 0 j = -nI 9
  | 0, i, F, h, o6, hi, I, hF => by
    obtain rfl : i = 6 := hi
    refine ⟨F, h, ?_, I, rfl, hF⟩
    rw [B0_243, if_neg (show ¬ nI 6 < nI 6 by decide), B0_271]
  | m + 1, i, F, h, o6, hi, I, hF => by
    obtain ⟨h1, F1, e1, I1, a1, b1, z1, -⟩ := I.put (i := 0) (k := i) (-nI 9) (by omega) (by omega)
    have e1 : asI h p (nI i) (-nI 9) = some h1 := e1
    obtain ⟨F2, h2, e2, I2, z2, hF2⟩ := l_nine m (i + 1) F1 h1 none (by omega) I1 (fun j hj => by
      by_cases y : j = i
      · subst y; exact a1
      · rw [b1 0 j (Or.inr y)]; exact hF j (by omega))
    refine ⟨F2, h2, ?_, I2, z2.trans z1, hF2⟩
    rw [B0_243, if_pos (show nI i < nI 6 by rw [nJ_lt (by omega) (by omega)]; omega), e1, obd_some, nJ_add]
    exact e2
/-- the whole beginning of a turn -/
theorem l_init (I : LW x S b L xs h) (H : StI S e) (he : e < 3) (hL : L ≤ 260) :
    ∃ S' h' r p fr F d cl rw few, R 26 0 24 [some (.ref b), some (.ref x), some (.int (nI e)), none, none, none, none, none, none, none, none, none, none, none, none, none, none, none, none, none, none, none, none, none, none, none, none, none, none, none, none, none, none, none, none, none, none, none, none, none, none, none] [] h = R 26 0 274 [some (.ref b), some (.ref x), some (.int (nI e)), some (.ref r), none, none, none, some (.int (nI cl)), some (.int (nI rw)), some (.int (nI few)), some (.int (nI 0)), some (.ref p), some (.ref (p + 1)), some (.ref (p + 2)), some (.ref (p + 3)), some (.ref (p + 4)), some (.ref (p + 5)), some (.int (-nI 9)), some (.int (nI 999999)), some (.int (nI 0)), none, none, none, none, none, none, none, none, none, none, none, none, none, none, none, none, none, none, none, none, none, none] [] h' ∧ WL x S' b L xs r p fr F h' ∧ StI S' (e + 1) ∧ zD S' e = d ∧ RdA d fr ∧ rP d ≤ 3 ∧ rE d ≤ 3 ∧ (∀ p, p < rE d → sP d p 0 ≤ 34) ∧ (0 < rB d → 1 ≤ sB d 0 0) ∧ cl = rP d * rE d ∧ cl ≤ 6 ∧ rw = nRows d ∧ rw ≤ 729 ∧ few < 3 ∧ RwI d few 0 F (nI 0) (-nI 9) (nI 999999) ∧ h.2.1 ≤ h'.2.1 ∧ h'.2.1 ≤ h.2.1 + 27 ∧ h.2.2 ≤ h'.2.2 ∧ h'.2.2 ≤ h.2.2 + 684 := by
  obtain ⟨S1, h1, r, f1, c6, d1, mm, e1, I1, A1, H1, D1, R1, g1, g2, g3, g4, g5, g6, u1, u2, u3, u4⟩ := l_read I H he hL
  obtain ⟨S2, h2, f2, d2, o4, o5, e2, I2, A2, H2, D2, R2, z2, n1, n2, n3, n4, n5⟩ := l_lame I1 H1 he A1 D1 R1 g6 c6 mm
  rw [e1, e2]
  have hgo := I2.2.1.2.2.2.2.1 e (by rw [H2.1]; omega)
  rw [D2] at hgo
  obtain ⟨hd, hP, hE, hM⟩ := hgo
  have hB := hd.2.2.1
  have hc6 : rP d2 * rE d2 ≤ 6 := by rw [n1, n2]; exact g1
  rw [B0_152, la_r (t := 0) A2 (by omega) (by omega), obd_some, R2.1, la_r (t := 1) A2 (by omega) (by omega), obd_some, R2.2.1, nI_mul, B0_162]
  have e3 := l_pow (x := x) (b := b) (e := e) A2 R2 hB hc6 c6 (rP d2 * rE d2) 0 (by omega)
  rw [Nat.pow_zero] at e3
  rw [e3, B0_199, B0_204, newI_nw (by omega), obd_some, newI_nw (by omega), obd_some, B0_216, newI_nw (by omega), obd_some, newI_nw (by omega), obd_some, B0_228, newI_nw (by omega), obd_some, newI_nw (by omega), obd_some, B0_240]
  have q3 := lowN_lt (c6 >>> (nI 8 &&& 31)) (n := 3) (by omega)
  generalize lowN (c6 >>> (nI 8 &&& 31)) 3 = few at q3 ⊢
  obtain ⟨AV, KV, zV⟩ := Av.new (r := r) I2.wf I2.2.2 A2
  have I3 : WL x S2 b L xs r h2.2.1 f2 (fun _ _ => 0) (nw6 h2) := ⟨I2.kp KV, AV⟩
  obtain ⟨F4, h4, e4, I4, z4, hF4⟩ := l_nine (e := e) (few := few) (cl := rP d2 * rE d2) (rw := (rB d2 + 1) ^ (rP d2 * rE d2)) (can := nI 0) 6 0 (fun _ _ => 0) (nw6 h2) (some (.int c6)) (by omega) I3 (fun j hj => absurd hj (Nat.not_lt_zero j))
  have hrw : (rB d2 + 1) ^ (rP d2 * rE d2) ≤ 729 := by
    have a1 : (rB d2 + 1) ^ (rP d2 * rE d2) ≤ 3 ^ (rP d2 * rE d2) := Nat.pow_le_pow_left (by omega) _
    have a2 : 3 ^ (rP d2 * rE d2) ≤ 3 ^ 6 := Nat.pow_le_pow_right (by decide) hc6
    have a3 : (3 : Nat) ^ 6 = 729 := rfl
    omega
  refine ⟨S2, h4, r, h2.2.1, f2, F4, d2, rP d2 * rE d2, (rB d2 + 1) ^ (rP d2 * rE d2), few, e4, I4, H2, D2, R2, by rw [n1]; exact g2, by rw [n2]; exact g3, fun p hp => by rw [n4]; exact g4 p (by rw [← n2]; exact hp), fun hb => by rw [n5]; exact g5 (by rw [← n3]; exact hb), rfl, hc6, rfl, hrw, q3, ⟨rfl, FsI_0 d2, fun j hj => ⟨none, bst_0 d2 _ _, hF4 j hj⟩⟩, ?_⟩
  rw [z4, zV, z2]
  exact ⟨by omega, by omega, by omega, by omega⟩
end LInit2
