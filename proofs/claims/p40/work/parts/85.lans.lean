/-! The law holds the class's answers against its rows. -/
theorem acc_z (d : jRD) : ∀ n, ((acc d n).2 = 0) = (∀ m, m < n → ¬ rgt d m = true)
  | 0 => propext ⟨fun _ m h => absurd h (Nat.not_lt_zero m), fun _ => rfl⟩
  | n + 1 => by
    have ih := acc_z d n
    rw [acc]
    by_cases e : rgt d n = true
    · rw [if_pos e]
      exact propext ⟨fun h => absurd (show (acc d n).2 + 1 = 0 from h) (by omega), fun h => absurd e (h n (by omega))⟩
    · rw [if_neg e, ih]
      refine propext ⟨fun h m hm => ?_, fun h m hm => h m (by omega)⟩
      by_cases y : m = n
      · subst y; exact e
      · exact h m (by omega)
/-- whether there is none, as a number -/
def nnI (o : Option Nat) : Int32 := match o with | none => nI 1 | some _ => nI 0
theorem nnI_z (o : Option Nat) : (nnI o = 0) = (∃ w, o = some w) := by
  cases o with
  | none => exact propext ⟨fun h => absurd h (by decide), fun ⟨w, h⟩ => by cases h⟩
  | some w => exact propext ⟨fun _ => ⟨w, rfl⟩, fun _ => rfl⟩
def tI (few k : Nat) : Int32 := if k < 3 then -nI 9 else nI few
def tO (few k : Nat) : Option Nat := if k < 3 then none else some few
theorem tI_ok {few k aim : Nat} (hf : few < 3) (ha : aim < 3) : aimOk (nI aim) (tI few k) ∧ tOf (tI few k) = tO few k ∧ tK few k = tMax (tO few k) := by
  unfold tI tO tK
  by_cases e : k < 3
  · rw [if_pos e, if_pos e, if_pos e]
    exact ⟨⟨inN_of ha (by omega), Or.inl rfl⟩, tOf_9, rfl⟩
  · rw [if_neg e, if_neg e, if_neg e]
    exact ⟨⟨inN_of ha (by omega), Or.inr (inN_of (by omega) (by omega))⟩, tOf_n (by omega), rfl⟩
section LAns
variable {x : Nat} {S : jST} {b L : Nat} {xs : Nat → Int32} {r p : Nat} {fr : Nat → Int32} {F : Nat → Nat → Int32} {d : jRD} {e cl rw few : Nat} {can fe so : Int32}
/-- rows, fewest, cost -/
theorem l_three {h : jHp} (I : WL x S b L xs r p fr F h) (he : e < zn S) (hD : zD S e = d) (hM : ¬ many d) (hrw : rw = nRows d) (R0 : RwI d few rw F can fe so) :
    ∃ h', R 26 0 274 [some (.ref b), some (.ref x), some (.int (nI e)), some (.ref r), none, none, none, some (.int (nI cl)), some (.int (nI rw)), some (.int (nI few)), some (.int can), some (.ref p), some (.ref (p + 1)), some (.ref (p + 2)), some (.ref (p + 3)), some (.ref (p + 4)), some (.ref (p + 5)), some (.int fe), some (.int so), some (.int (nI rw)), none, none, none, none, none, none, none, none, none, none, none, none, none, none, none, none, none, none, none, none, none, none] [] h = R 26 0 632 [some (.ref b), some (.ref x), some (.int (nI e)), some (.ref r), none, none, none, some (.int (nI cl)), some (.int (nI rw)), some (.int (nI few)), some (.int can), some (.ref p), none, some (.ref (p + 2)), some (.ref (p + 3)), some (.ref (p + 4)), some (.ref (p + 5)), none, none, some (.int (nI 0)), none, none, none, none, none, none, none, none, none, none, none, none, none, none, none, none, none, none, none, none, none, none] [] h' ∧ WL x S b L xs r p fr F h' ∧ h'.2 = h.2 := by
  have hS := I.1.2.1
  have h3 := hS.1
  obtain ⟨r1, r2, r3⟩ := R0
  obtain ⟨o0, b0, a0⟩ := r3 0 (by omega)
  obtain ⟨o2, b2, a2⟩ := r3 2 (by omega)
  have hd := (hS.2.2.2.2.1 e he).1
  have hP := (hS.2.2.2.2.1 e he).2.1
  rw [hD] at hd hP
  subst hD
  subst hrw
  have b0 : bstP (zD S e) 0 100 (nRows (zD S e)) o0 := b0
  have b2 : bstP (zD S e) 2 100 (nRows (zD S e)) o2 := b2
  obtain ⟨G1, eo1⟩ := I.1.o
  obtain ⟨h1, e1, I1, K1⟩ := I.call (fun dr ra ba pa W => T_rows W hS (nI e))
  rw [aRows_at hS he hM] at e1
  obtain ⟨G2, eo2⟩ := I1.1.o
  obtain ⟨h2, e2, I2, K2⟩ := I1.call (fun dr ra ba pa W => T_fewest W hS (nI e))
  rw [aFewest_at hS he hM r2 b0] at e2
  obtain ⟨G3, eo3⟩ := I2.1.o
  obtain ⟨h4, e4, I4, K4⟩ := I2.call (fun dr ra ba pa W => T_cost W hS (nI e))
  rw [aCost_at hS he hM b2 b0] at e4
  refine ⟨h4, ?_, I4, by rw [K4.2.2, K2.2.2, K1.2.2]⟩
  rw [B0_274, if_neg (show ¬ nI (nRows (zD S e)) < nI (nRows (zD S e)) from fun z => Int32.lt_irrefl z), eo1, obd_some, e1]
  simp only [obd_some, obd_none, Option.toList_some, Option.toList_none, List.cons_append, List.nil_append, cond_true, cond_false]
  rw [B0_585, if_pos (show nI (acc (zD S e) (nRows (zD S e))).2 = can from r1.symm), eo2, obd_some, e2]
  simp only [obd_some, obd_none, Option.toList_some, Option.toList_none, List.cons_append, List.nil_append, cond_true, cond_false]
  rw [B0_595, if_pos rfl, eo3, obd_some, e4]
  simp only [obd_some, obd_none, Option.toList_some, Option.toList_none, List.cons_append, List.nil_append, cond_true, cond_false]
  rw [B0_605]
  have hcl := acc_cnt (zD S e) (nRows (zD S e))
  have h12 : ∀ m, rec4 (zD S e) m 3 ≤ 10 := rec4_ties hd hP
  have hnl : nRows (zD S e) ≤ 65536 := nR_le hM
  cases o2 with
  | none =>
    have hz : (acc (zD S e) (nRows (zD S e))).2 = 0 := by
      rw [acc_z]
      intro m hm hr
      exact b2 m hm hr (by have := h12 m; omega)
    rw [if_pos (show can = 0 by rw [r1, hz]; rfl), B0_624, if_pos (show csO (zD S e) none o0 = -nI 9 from rfl)]
  | some w2 =>
    have hz : ¬ (acc (zD S e) (nRows (zD S e))).2 = 0 := by
      rw [acc_z]
      exact fun z => z w2 b2.1 b2.2.1
    rw [if_neg (show ¬ can = 0 by rw [r1, nI_eq0 (by omega)]; exact hz)]
    cases o0 with
    | none => exact absurd (show rec4 (zD S e) w2 3 ≤ 100 by have := h12 w2; omega) (b0 w2 b2.1 b2.2.1)
    | some w0 =>
      have f2 : alI h4 (p + 2) (nI 2) = some (nI (rec4 (zD S e) w2 0)) := by rw [I4.get (i := 2) (by omega) (by omega), a2.2.2.1]
      have f0 : alI h4 (p + 2) (nI 0) = some (nI (rec4 (zD S e) w0 0)) := by rw [I4.get (i := 2) (by omega) (by omega), a0.2.2.1]
      rw [f2, obd_some, f0, obd_some, B0_624, if_pos (show csO (zD S e) (some w2) (some w0) = nI (rec4 (zD S e) w2 0) - nI (rec4 (zD S e) w0 0) from rfl)]
/-- one number of the best -/
theorem b_call {h : jHp} (I : WL x S b L xs r p fr F h) (he : e < zn S) (hD : zD S e = d) (hM : ¬ many d) (hf : few < 3) {k : Nat} {o : Option Nat} (hb : bstP d (k % 3) (tK few k) (nRows d) o) {w : Nat} (hw : w < 4) :
    ∃ h', mc 31 [.ref x, .int (nI e), .int (nI (k % 3)), .int (tI few k), .int (nI w)] h = some (some (.int (bsI d o w)), h') ∧ WL x S b L xs r p fr F h' ∧ h'.2 = h.2 := by
  have hS := I.1.2.1
  subst hD
  have ha : k % 3 < 3 := Nat.mod_lt _ (by omega)
  obtain ⟨t1, t2, t3⟩ := tI_ok (k := k) hf ha
  rw [t3] at hb
  obtain ⟨h1, e1, I1, K1⟩ := I.call (fun dr ra ba pa W => T_best W hS (nI e) (nI (k % 3)) (tI few k) (nI w))
  rw [aBest_at hS he hM ha t1 t2 hb hw] at e1
  exact ⟨h1, e1, I1, K1.2.2⟩
/-- the row of the best, cell by cell -/
theorem l_cells (hr : RdA d fr) (hd : rdOk d) (hE : 0 < rE d) (hcl : cl = rP d * rE d) (hrw : rw = (rB d + 1) ^ cl) (he : e < zn S) (he3 : e < 3) (hD : zD S e = d) (hM : ¬ many d) (hf : few < 3) {k : Nat} (hk : k < 6) {o : Option Nat} (hb : bstP d (k % 3) (tK few k) (nRows d) o) (hO : OpA d F k o) (hc6 : cl ≤ 6) (hn : nRows d ≤ 729) : ∀ m c h, c + m = cl → WL x S b L xs r p fr F h →
    ∃ h', R 26 0 798 [some (.ref b), some (.ref x), some (.int (nI e)), some (.ref r), none, none, none, some (.int (nI cl)), some (.int (nI rw)), some (.int (nI few)), some (.int can), some (.ref p), none, some (.ref (p + 2)), some (.ref (p + 3)), some (.ref (p + 4)), some (.ref (p + 5)), none, none, some (.int (nI k)), some (.int (tI few k)), some (.int (nnI o)), some (.int (nI ((rB d + 1) ^ (cl - c)))), some (.int (nI c)), none, none, none, none, none, none, none, none, none, none, none, none, none, none, none, none, none, none] [] h = R 26 0 632 [some (.ref b), some (.ref x), some (.int (nI e)), some (.ref r), none, none, none, some (.int (nI cl)), some (.int (nI rw)), some (.int (nI few)), some (.int can), some (.ref p), none, some (.ref (p + 2)), some (.ref (p + 3)), some (.ref (p + 4)), some (.ref (p + 5)), none, none, some (.int (nI (k + 1))), none, none, none, none, none, none, none, none, none, none, none, none, none, none, none, none, none, none, none, none, none, none] [] h' ∧ WL x S b L xs r p fr F h' ∧ h'.2 = h.2
  | 0, c, h, hc, I => by
    obtain rfl : c = cl := hc
    refine ⟨h, ?_, I, rfl⟩
    rw [B0_798, if_neg (show ¬ nI c < nI c from fun z => Int32.lt_irrefl z), B0_882, nJ_add]
  | m + 1, c, h, hc, I => by
    have hS := I.1.2.1
    have h4 := hd.2.1
    have h6 := hd.1
    have h2 := hd.2.2.1
    have hcc : c < cl := by omega
    rw [B0_798, if_pos (show nI c < nI cl by rw [nJ_lt (by omega) (by omega)]; exact hcc), if_neg (show ¬ nI 2 = 0 by decide), nJ_add, nI_mod (by omega) (by omega)]
    by_cases y : (e + k) % 2 = 0
    · have ha : k % 3 < 3 := Nat.mod_lt _ (by omega)
      obtain ⟨t1, t2, t3⟩ := tI_ok (k := k) hf ha
      have hcE : c / rE d < rP d := by
        refine (Nat.div_lt_iff_lt_mul hE).mpr ?_
        rw [← hcl]; exact hcc
      have hcm : c % rE d < rE d := Nat.mod_lt _ hE
      obtain ⟨Go, eo⟩ := I.1.o
      have b1 : ¬ nI (rB d + 1) = 0 := by rw [nI_eq0 (by omega)]; omega
      have b2 : ¬ nI (rE d) = 0 := by rw [nI_eq0 (by omega)]; omega
      have hpw : ∀ i, i ≤ 6 → (rB d + 1) ^ i ≤ 729 := by
        intro i hi
        have a1 : (rB d + 1) ^ i ≤ 3 ^ i := Nat.pow_le_pow_left (by omega) _
        have a2 : 3 ^ i ≤ 3 ^ 6 := Nat.pow_le_pow_right (by decide) hi
        have a3 : (3 : Nat) ^ 6 = 729 := rfl
        omega
      have hp1 := hpw (cl - c) (by omega)
      have hp2 := hpw (cl - (c + 1)) (by omega)
      have hpd : (rB d + 1) ^ (cl - c) / (rB d + 1) = (rB d + 1) ^ (cl - (c + 1)) := by
        rw [show cl - c = cl - (c + 1) + 1 by omega, Nat.pow_succ, Nat.mul_div_cancel _ (by omega)]
      have hp0 : 0 < (rB d + 1) ^ (cl - (c + 1)) := Nat.pow_pos (by omega)
      obtain ⟨h1, e1, I1, K1⟩ := I.call (fun dr ra ba pa W => T_row W hS (nI e) (nI (k % 3)) (tI few k) (nI (c / rE d)) (nI (c % rE d)))
      have hb' := hb
      rw [t3] at hb'
      have ear := aRow_at hS he (by rw [hD]; exact hM) ha t1 t2 (o := o) (by rw [hD]; exact hb') (k := c / rE d) (p := c % rE d) (by rw [hD]; exact hcE) (by rw [hD]; exact hcm)
      rw [ear, hD, Nat.div_add_mod' c (rE d)] at e1
      obtain ⟨h2', q1, q2, q3⟩ := l_cells hr hd hE hcl hrw he he3 hD hM hf hk hb hO hc6 hn m (c + 1) h1 (by omega) I1
      refine ⟨h2', ?_, q2, q3.trans K1.2.2⟩
      rw [if_pos (show nI ((e + k) % 2) = 0 by rw [y]; rfl), B0_814, I.rr (by omega), obd_some, hr.2.2.1, nJ_add, if_neg b1, nI_div (by omega) (by omega), hpd, B0_825, if_neg (show ¬ nI 3 = 0 by decide), nI_mod (by omega) (by omega), I.rr (by omega), obd_some, hr.2.1, B0_837, if_neg b2, I.rr (by omega), obd_some, hr.2.1, if_neg b2, eo, obd_some, nI_mod (by omega) (by omega), nI_div (by omega) (by omega), e1]
      simp only [obd_some, obd_none, Option.toList_some, Option.toList_none, List.cons_append, List.nil_append, cond_true, cond_false]
      rw [B0_847]
      cases o with
      | none =>
        rw [if_neg (show ¬ nnI none = 0 by decide), if_pos (show rwO d none c = -nI 9 from rfl), nJ_add]
        exact q1
      | some w =>
        have hw := hb.1
        have fb : alI h1 p (nI k) = some (nI w) := by
          have := I1.get (i := 0) (k := k) (by omega) hk
          rw [hO.1] at this
          exact this
        rw [if_pos (show nnI (some w) = 0 from rfl), fb, obd_some, if_neg (show ¬ nI ((rB d + 1) ^ (cl - (c + 1))) = 0 by rw [nI_eq0 (by omega)]; omega), nI_div (by omega) (by omega), B0_867, I1.rr (by omega), obd_some, hr.2.2.1, nJ_add, if_neg b1, nI_mod (by have := Nat.div_le_self w ((rB d + 1) ^ (cl - (c + 1))); omega) (by omega), if_pos (show rwO d (some w) c = nI (w / (rB d + 1) ^ (cl - (c + 1)) % (rB d + 1)) by show nI (dg d w c) = _; unfold dg; rw [← hcl, show cl - 1 - c = cl - (c + 1) by omega]), nJ_add]
        exact q1
    · refine ⟨h, ?_, I, rfl⟩
      rw [if_neg (show ¬ nI ((e + k) % 2) = 0 by rw [nI_eq0 (by omega)]; exact y), B0_882, nJ_add]
/-- the law's six ways against the class -/
theorem l_six (hr : RdA d fr) (hd : rdOk d) (hE : 0 < rE d) (hcl : cl = rP d * rE d) (hrw : rw = (rB d + 1) ^ cl) (he : e < zn S) (he3 : e < 3) (hD : zD S e = d) (hM : ¬ many d) (hf : few < 3) (hc6 : cl ≤ 6) (hn : nRows d ≤ 729) (hB : ∀ j, j < 6 → BkI d few (nRows d) F j) : ∀ m k h, k + m = 6 → WL x S b L xs r p fr F h →
    ∃ h', R 26 0 632 [some (.ref b), some (.ref x), some (.int (nI e)), some (.ref r), none, none, none, some (.int (nI cl)), some (.int (nI rw)), some (.int (nI few)), some (.int can), some (.ref p), none, some (.ref (p + 2)), some (.ref (p + 3)), some (.ref (p + 4)), some (.ref (p + 5)), none, none, some (.int (nI k)), none, none, none, none, none, none, none, none, none, none, none, none, none, none, none, none, none, none, none, none, none, none] [] h = R 26 0 632 [some (.ref b), some (.ref x), some (.int (nI e)), some (.ref r), none, none, none, some (.int (nI cl)), some (.int (nI rw)), some (.int (nI few)), some (.int can), some (.ref p), none, some (.ref (p + 2)), some (.ref (p + 3)), some (.ref (p + 4)), some (.ref (p + 5)), none, none, some (.int (nI 6)), none, none, none, none, none, none, none, none, none, none, none, none, none, none, none, none, none, none, none, none, none, none] [] h' ∧ WL x S b L xs r p fr F h' ∧ h'.2 = h.2
  | 0, k, h, hk, I => by
    obtain rfl : k = 6 := hk
    exact ⟨h, rfl, I, rfl⟩
  | m + 1, k, h, hk, I => by
    have hk6 : k < 6 := by omega
    obtain ⟨o, hb, hO⟩ := hB k hk6
    have h3 : ¬ nI 3 = 0 := by decide
    have fb : alI h p (nI k) = some (F 0 k) := I.get (i := 0) (by omega) hk6
    have hlt : (F 0 k < 0) = (o = none) := by
      cases o with
      | none =>
        have hO : F 0 k = -nI 9 := hO
        rw [hO]; exact propext ⟨fun _ => rfl, fun _ => by decide⟩
      | some w =>
        have := hb.1
        rw [hO.1]
        exact propext ⟨fun z => absurd z (nI_nneg (by omega)), fun z => by cases z⟩
    -- up to the first of the class's numbers
    have e0 : R 26 0 632 [some (.ref b), some (.ref x), some (.int (nI e)), some (.ref r), none, none, none, some (.int (nI cl)), some (.int (nI rw)), some (.int (nI few)), some (.int can), some (.ref p), none, some (.ref (p + 2)), some (.ref (p + 3)), some (.ref (p + 4)), some (.ref (p + 5)), none, none, some (.int (nI k)), none, none, none, none, none, none, none, none, none, none, none, none, none, none, none, none, none, none, none, none, none, none] [] h = R 26 0 667 [some (.ref b), some (.ref x), some (.int (nI e)), some (.ref r), none, none, none, some (.int (nI cl)), some (.int (nI rw)), some (.int (nI few)), some (.int can), some (.ref p), none, some (.ref (p + 2)), some (.ref (p + 3)), some (.ref (p + 4)), some (.ref (p + 5)), none, none, some (.int (nI k)), some (.int (tI few k)), none, none, none, none, none, none, none, none, none, none, none, none, none, none, none, none, none, none, none, none, none] [.int (nnI o)] h := by
      have e1 : R 26 0 632 [some (.ref b), some (.ref x), some (.int (nI e)), some (.ref r), none, none, none, some (.int (nI cl)), some (.int (nI rw)), some (.int (nI few)), some (.int can), some (.ref p), none, some (.ref (p + 2)), some (.ref (p + 3)), some (.ref (p + 4)), some (.ref (p + 5)), none, none, some (.int (nI k)), none, none, none, none, none, none, none, none, none, none, none, none, none, none, none, none, none, none, none, none, none, none] [] h = R 26 0 652 [some (.ref b), some (.ref x), some (.int (nI e)), some (.ref r), none, none, none, some (.int (nI cl)), some (.int (nI rw)), some (.int (nI few)), some (.int can), some (.ref p), none, some (.ref (p + 2)), some (.ref (p + 3)), some (.ref (p + 4)), some (.ref (p + 5)), none, none, some (.int (nI k)), none, none, none, none, none, none, none, none, none, none, none, none, none, none, none, none, none, none, none, none, none, none] [.int (tI few k)] h := by
        unfold tI
        rw [B0_632, if_pos (show nI k < nI 6 by rw [nJ_lt (by omega) (by omega)]; exact hk6)]
        by_cases y : k < 3
        · rw [if_pos (show nI k < nI 3 by rw [nJ_lt (by omega) (by omega)]; exact y), if_pos y]
        · rw [if_neg (show ¬ nI k < nI 3 by rw [nJ_lt (by omega) (by omega)]; exact y), if_neg y]
      rw [e1, B0_652, fb, obd_some]
      cases o with
      | none => rw [if_pos (show F 0 k < 0 from hlt ▸ rfl)]; rfl
      | some w => rw [if_neg (show ¬ F 0 k < 0 from fun z => by have := hlt ▸ z; cases this)]; rfl
    obtain ⟨h1, c1, I1, z1⟩ := b_call I he hD hM hf hb (w := 0) (by omega)
    obtain ⟨h2, c2, I2, z2⟩ := b_call I1 he hD hM hf hb (w := 1) (by omega)
    obtain ⟨h3', c3, I3, z3⟩ := b_call I2 he hD hM hf hb (w := 2) (by omega)
    obtain ⟨h4, c4, I4, z4⟩ := b_call I3 he hD hM hf hb (w := 3) (by omega)
    obtain ⟨G1, eo1⟩ := I.1.o
    obtain ⟨G2, eo2⟩ := I1.1.o
    obtain ⟨G3, eo3⟩ := I2.1.o
    obtain ⟨G4, eo4⟩ := I3.1.o
    -- what the law has of them
    have s1 : ∀ v, R 26 0 681 [some (.ref b), some (.ref x), some (.int (nI e)), some (.ref r), none, none, none, some (.int (nI cl)), some (.int (nI rw)), some (.int (nI few)), some (.int can), some (.ref p), none, some (.ref (p + 2)), some (.ref (p + 3)), some (.ref (p + 4)), some (.ref (p + 5)), none, none, some (.int (nI k)), some (.int (tI few k)), some (.int (nnI o)), none, none, none, none, none, none, none, none, none, none, none, none, none, none, none, none, none, none, none, none] [.int v] h1 = R 26 0 696 [some (.ref b), some (.ref x), some (.int (nI e)), some (.ref r), none, none, none, some (.int (nI cl)), some (.int (nI rw)), some (.int (nI few)), some (.int can), some (.ref p), none, some (.ref (p + 2)), some (.ref (p + 3)), some (.ref (p + 4)), some (.ref (p + 5)), none, none, some (.int (nI k)), some (.int (tI few k)), some (.int (nnI o)), none, none, none, none, none, none, none, none, none, none, none, none, none, none, none, none, none, none, none, none] [.int (bsI d o 0), .int v] h1 := by
      intro v
      rw [B0_681]
      cases o with
      | none => rw [if_neg (show ¬ nnI none = 0 by decide)]; rfl
      | some w =>
        have f : alI h1 (p + 2) (nI k) = some (nI (rec4 d w 0)) := by rw [I1.get (i := 2) (by omega) hk6, hO.2.2.1]
        rw [if_pos (show nnI (some w) = 0 from rfl), f, obd_some]; rfl
    have s2 : ∀ v, R 26 0 711 [some (.ref b), some (.ref x), some (.int (nI e)), some (.ref r), none, none, none, some (.int (nI cl)), some (.int (nI rw)), some (.int (nI few)), some (.int can), some (.ref p), none, some (.ref (p + 2)), some (.ref (p + 3)), some (.ref (p + 4)), some (.ref (p + 5)), none, none, some (.int (nI k)), some (.int (tI few k)), some (.int (nnI o)), none, none, none, none, none, none, none, none, none, none, none, none, none, none, none, none, none, none, none, none] [.int v] h2 = R 26 0 726 [some (.ref b), some (.ref x), some (.int (nI e)), some (.ref r), none, none, none, some (.int (nI cl)), some (.int (nI rw)), some (.int (nI few)), some (.int can), some (.ref p), none, some (.ref (p + 2)), some (.ref (p + 3)), some (.ref (p + 4)), some (.ref (p + 5)), none, none, some (.int (nI k)), some (.int (tI few k)), some (.int (nnI o)), none, none, none, none, none, none, none, none, none, none, none, none, none, none, none, none, none, none, none, none] [.int (bsI d o 1), .int v] h2 := by
      intro v
      rw [B0_711]
      cases o with
      | none => rw [if_neg (show ¬ nnI none = 0 by decide)]; rfl
      | some w =>
        have f : alI h2 (p + 4) (nI k) = some (nI (rec4 d w 1)) := by rw [I2.get (i := 4) (by omega) hk6, hO.2.2.2.2.1]
        rw [if_pos (show nnI (some w) = 0 from rfl), f, obd_some]; rfl
    have s3 : ∀ v, R 26 0 741 [some (.ref b), some (.ref x), some (.int (nI e)), some (.ref r), none, none, none, some (.int (nI cl)), some (.int (nI rw)), some (.int (nI few)), some (.int can), some (.ref p), none, some (.ref (p + 2)), some (.ref (p + 3)), some (.ref (p + 4)), some (.ref (p + 5)), none, none, some (.int (nI k)), some (.int (tI few k)), some (.int (nnI o)), none, none, none, none, none, none, none, none, none, none, none, none, none, none, none, none, none, none, none, none] [.int v] h3' = R 26 0 756 [some (.ref b), some (.ref x), some (.int (nI e)), some (.ref r), none, none, none, some (.int (nI cl)), some (.int (nI rw)), some (.int (nI few)), some (.int can), some (.ref p), none, some (.ref (p + 2)), some (.ref (p + 3)), some (.ref (p + 4)), some (.ref (p + 5)), none, none, some (.int (nI k)), some (.int (tI few k)), some (.int (nnI o)), none, none, none, none, none, none, none, none, none, none, none, none, none, none, none, none, none, none, none, none] [.int (bsI d o 2), .int v] h3' := by
      intro v
      rw [B0_741]
      cases o with
      | none => rw [if_neg (show ¬ nnI none = 0 by decide)]; rfl
      | some w =>
        have f : alI h3' (p + 5) (nI k) = some (nI (rec4 d w 2)) := by rw [I3.get (i := 5) (by omega) hk6, hO.2.2.2.2.2]
        rw [if_pos (show nnI (some w) = 0 from rfl), f, obd_some]; rfl
    have s4 : ∀ v, R 26 0 771 [some (.ref b), some (.ref x), some (.int (nI e)), some (.ref r), none, none, none, some (.int (nI cl)), some (.int (nI rw)), some (.int (nI few)), some (.int can), some (.ref p), none, some (.ref (p + 2)), some (.ref (p + 3)), some (.ref (p + 4)), some (.ref (p + 5)), none, none, some (.int (nI k)), some (.int (tI few k)), some (.int (nnI o)), none, none, none, none, none, none, none, none, none, none, none, none, none, none, none, none, none, none, none, none] [.int v] h4 = R 26 0 786 [some (.ref b), some (.ref x), some (.int (nI e)), some (.ref r), none, none, none, some (.int (nI cl)), some (.int (nI rw)), some (.int (nI few)), some (.int can), some (.ref p), none, some (.ref (p + 2)), some (.ref (p + 3)), some (.ref (p + 4)), some (.ref (p + 5)), none, none, some (.int (nI k)), some (.int (tI few k)), some (.int (nnI o)), none, none, none, none, none, none, none, none, none, none, none, none, none, none, none, none, none, none, none, none] [.int (bsI d o 3), .int v] h4 := by
      intro v
      rw [B0_771]
      cases o with
      | none => rw [if_neg (show ¬ nnI none = 0 by decide)]; rfl
      | some w =>
        have f : alI h4 (p + 3) (nI k) = some (nI (rec4 d w 3)) := by rw [I4.get (i := 3) (by omega) hk6, hO.2.2.2.1]
        rw [if_pos (show nnI (some w) = 0 from rfl), f, obd_some]; rfl
    obtain ⟨h5, e5, I5, z5⟩ := l_cells (can := can) (rw := rw) hr hd hE hcl hrw he he3 hD hM hf hk6 hb hO hc6 hn cl 0 h4 (by omega) I4
    rw [Nat.sub_zero, ← hrw] at e5
    obtain ⟨h6, e6, I6, z6⟩ := l_six hr hd hE hcl hrw he he3 hD hM hf hc6 hn hB m (k + 1) h5 (by omega) I5
    refine ⟨h6, ?_, I6, by rw [z6, z5, z4, z3, z2, z1]⟩
    have hm3 : nI k - nI k / nI 3 * nI 3 = nI (k % 3) := nI_mod (by omega) (by omega)
    rw [e0, B0_667, if_neg h3, eo1, obd_some, hm3, c1]
    simp only [obd_some, obd_none, Option.toList_some, Option.toList_none, List.cons_append, List.nil_append, cond_true, cond_false]
    rw [s1, B0_696, if_pos rfl, if_neg h3, eo2, obd_some, hm3, c2]
    simp only [obd_some, obd_none, Option.toList_some, Option.toList_none, List.cons_append, List.nil_append, cond_true, cond_false]
    rw [s2, B0_726, if_pos rfl, if_neg h3, eo3, obd_some, hm3, c3]
    simp only [obd_some, obd_none, Option.toList_some, Option.toList_none, List.cons_append, List.nil_append, cond_true, cond_false]
    rw [s3, B0_756, if_pos rfl, if_neg h3, eo4, obd_some, hm3, c4]
    simp only [obd_some, obd_none, Option.toList_some, Option.toList_none, List.cons_append, List.nil_append, cond_true, cond_false]
    rw [s4, B0_786, if_pos rfl, e5, e6]
end LAns
