/-! A row that can be: the law's six ways. -/
theorem op_ahead {d : jRD} {F : Nat → Nat → Int32} {k n aim : Nat} (ha : aim < 3) (hk : k % 3 = aim) {o : Option Nat} (H : OpA d F k o) (ho : ∀ w, o = some w → w < 100000) (hb : ∀ m w, w < 3 → rec4 d m w < 2147483648) : (F 0 k < 0) = (o = none) ∧ ∀ w, o = some w → (nI (rec4 d n aim) < F 1 k) = (rec4 d n aim < rec4 d w aim) ∧ (nI (rec4 d n aim) = F 1 k) = (rec4 d n aim = rec4 d w aim) ∧ (nI (rec4 d n 0) < F 2 k) = (rec4 d n 0 < rec4 d w 0) := by
  cases o with
  | none =>
    have H : F 0 k = -nI 9 := H
    rw [H]
    exact ⟨propext ⟨fun _ => rfl, fun _ => by decide⟩, fun w hw => by cases hw⟩
  | some w =>
    obtain ⟨h0, h1, h2, -⟩ := H
    have hw := ho w rfl
    rw [h0]
    refine ⟨propext ⟨fun z => absurd z (nI_nneg (by omega)), fun z => by cases z⟩, fun w' hw' => ?_⟩
    cases hw'
    have b1 := hb n aim ha
    have b2 := hb w aim ha
    have b3 := hb n 0 (by omega)
    have b4 := hb w 0 (by omega)
    rw [h1, h2, hk, nJ_lt b1 b2, nI_inj b1 b2, nJ_lt b3 b4]
    exact ⟨rfl, rfl, rfl⟩
section LRow
variable {x : Nat} {S : jST} {b L : Nat} {xs : Nat → Int32} {r p q : Nat} {fr g : Nat → Int32} {d : jRD} {e cl rw few n : Nat} {can fe so : Int32}
/-- a row's record goes into a way -/
theorem l_put {F : Nat → Nat → Int32} {h : jHp} {k : Nat} (o26 : Option Value) (hk : k < 6) (I : WL x S b L xs r p fr F h) (Q : La h q 60 g) (hq : p + 6 ≤ q) (hr : RdA d fr) (hd : rdOk d) (hE : 0 < rE d) (hg : OutA d (sq d (dg d n) 0 0 (rP d)) g) :
    ∃ F' h', R 26 0 452 [some (.ref b), some (.ref x), some (.int (nI e)), some (.ref r), none, none, none, some (.int (nI cl)), some (.int (nI rw)), some (.int (nI few)), some (.int can), some (.ref p), some (.ref (p + 1)), some (.ref (p + 2)), some (.ref (p + 3)), some (.ref (p + 4)), some (.ref (p + 5)), some (.int fe), some (.int so), some (.int (nI n)), none, none, some (.ref q), some (.int (nI k)), some (.int (nI (rec4 d n (k % 3)))), some (.int (nI (rec4 d n 0))), o26, none, none, none, none, none, none, none, none, none, none, none, none, none, none, none] [] h = R 26 0 358 [some (.ref b), some (.ref x), some (.int (nI e)), some (.ref r), none, none, none, some (.int (nI cl)), some (.int (nI rw)), some (.int (nI few)), some (.int can), some (.ref p), some (.ref (p + 1)), some (.ref (p + 2)), some (.ref (p + 3)), some (.ref (p + 4)), some (.ref (p + 5)), some (.int fe), some (.int so), some (.int (nI n)), none, none, some (.ref q), some (.int (nI (k + 1))), none, none, none, none, none, none, none, none, none, none, none, none, none, none, none, none, none, none] [] h' ∧ WL x S b L xs r p fr F' h' ∧ La h' q 60 g ∧ h'.2 = h.2 ∧ OpA d F' k (some n) ∧ ∀ i j, j ≠ k → F' i j = F i j := by
  have hs := sq_ok hd (dg d n) 0 (show 0 ≤ 60 by omega) (rP d)
  obtain ⟨h1, F1, e1, I1, a1, b1, z1, k1⟩ := I.put (i := 0) (nI n) (by omega) hk
  obtain ⟨h2, F2, e2, I2, a2, b2, z2, k2⟩ := I1.put (i := 1) (nI (rec4 d n (k % 3))) (by omega) hk
  obtain ⟨h3, F3, e3, I3, a3, b3, z3, k3⟩ := I2.put (i := 2) (nI (rec4 d n 0)) (by omega) hk
  obtain ⟨h4, F4, e4, I4, a4, b4, z4, k4⟩ := I3.put (i := 3) (nI (rec4 d n 3)) (by omega) hk
  obtain ⟨h5, F5, e5, I5, a5, b5, z5, k5⟩ := I4.put (i := 4) (nI (rec4 d n 1)) (by omega) hk
  obtain ⟨h6, F6, e6, I6, a6, b6, z6, k6⟩ := I5.put (i := 5) (nI (rec4 d n 2)) (by omega) hk
  have Q1 := k1 q 60 g hq Q
  have Q2 := k2 q 60 g hq Q1
  have Q3 := k3 q 60 g hq Q2
  have Q4 := k4 q 60 g hq Q3
  have Q5 := k5 q 60 g hq Q4
  have Q6 := k6 q 60 g hq Q5
  have e1 : asI h p (nI k) (nI n) = some h1 := e1
  refine ⟨F6, h6, ?_, I6, Q6, by rw [z6, z5, z4, z3, z2, z1], ⟨?_, ?_, ?_, ?_, ?_, a6⟩, fun i j hj => ?_⟩
  · have o1 := m_out (w := 1) I4.2.1 hr Q4 hg hd hE hs n (by omega)
    have o2 := m_out (w := 2) I5.2.1 hr Q5 hg hd hE hs n (by omega)
    have o1 : mc 99 [.ref r, .ref q, .int (nI 1)] h4 = some (some (.int (nI (rec4 d n 1))), h4) := o1
    have o2 : mc 99 [.ref r, .ref q, .int (nI 2)] h5 = some (some (.int (nI (rec4 d n 2))), h5) := o2
    have t3 : g 57 = nI (rec4 d n 3) := hg.2.2
    rw [B0_452r, e1, obd_some, e2, obd_some, B0_468r, e3, obd_some, la_r Q3 (by omega) (by omega), obd_some, t3, e4, obd_some, B0_483r, o1]
    simp only [obd_some, obd_none, Option.toList_some, Option.toList_none, List.cons_append, List.nil_append, cond_true, cond_false]
    rw [B0_494r, e5, obd_some, o2]
    simp only [obd_some, obd_none, Option.toList_some, Option.toList_none, List.cons_append, List.nil_append, cond_true, cond_false]
    rw [B0_506r, e6, obd_some, nJ_add]
  · rw [b6 0 k (Or.inl (by omega)), b5 0 k (Or.inl (by omega)), b4 0 k (Or.inl (by omega)), b3 0 k (Or.inl (by omega)), b2 0 k (Or.inl (by omega))]; exact a1
  · rw [b6 1 k (Or.inl (by omega)), b5 1 k (Or.inl (by omega)), b4 1 k (Or.inl (by omega)), b3 1 k (Or.inl (by omega))]; exact a2
  · rw [b6 2 k (Or.inl (by omega)), b5 2 k (Or.inl (by omega)), b4 2 k (Or.inl (by omega))]; exact a3
  · rw [b6 3 k (Or.inl (by omega)), b5 3 k (Or.inl (by omega))]; exact a4
  · rw [b6 4 k (Or.inl (by omega))]; exact a5
  · rw [b6 i j (Or.inr hj), b5 i j (Or.inr hj), b4 i j (Or.inr hj), b3 i j (Or.inr hj), b2 i j (Or.inr hj), b1 i j (Or.inr hj)]
/-- the law's six ways, one after another -/
theorem l_ways (hr : RdA d fr) (hd : rdOk d) (hE : 0 < rE d) (hn : n < 100000) (hrg : rgt d n = true) (hfew : few < 100) (hg : OutA d (sq d (dg d n) 0 0 (rP d)) g) (hq : p + 6 ≤ q) : ∀ m k F h (o20 o21 : Option Value), k + m = 6 → WL x S b L xs r p fr F h → La h q 60 g → (∀ j, j < k → BkI d few (n + 1) F j) → (∀ j, k ≤ j → j < 6 → BkI d few n F j) →
    ∃ F' h', R 26 0 358 [some (.ref b), some (.ref x), some (.int (nI e)), some (.ref r), none, none, none, some (.int (nI cl)), some (.int (nI rw)), some (.int (nI few)), some (.int can), some (.ref p), some (.ref (p + 1)), some (.ref (p + 2)), some (.ref (p + 3)), some (.ref (p + 4)), some (.ref (p + 5)), some (.int fe), some (.int so), some (.int (nI n)), o20, o21, some (.ref q), some (.int (nI k)), none, none, none, none, none, none, none, none, none, none, none, none, none, none, none, none, none, none] [] h = R 26 0 520 [some (.ref b), some (.ref x), some (.int (nI e)), some (.ref r), none, none, none, some (.int (nI cl)), some (.int (nI rw)), some (.int (nI few)), some (.int can), some (.ref p), some (.ref (p + 1)), some (.ref (p + 2)), some (.ref (p + 3)), some (.ref (p + 4)), some (.ref (p + 5)), some (.int fe), some (.int so), some (.int (nI n)), none, none, some (.ref q), some (.int (nI 6)), none, none, none, none, none, none, none, none, none, none, none, none, none, none, none, none, none, none] [.int (nI (rec4 d n 0))] h' ∧ WL x S b L xs r p fr F' h' ∧ La h' q 60 g ∧ h'.2 = h.2 ∧ ∀ j, j < 6 → BkI d few (n + 1) F' j
  | 0, k, F, h, o20, o21, hk, I, Q, H1, H2 => by
    obtain rfl : k = 6 := hk
    have hs := sq_ok hd (dg d n) 0 (show 0 ≤ 60 by omega) (rP d)
    have o0 : mc 99 [.ref r, .ref q, .int (nI 0)] h = some (some (.int (nI (rec4 d n 0))), h) := m_out (w := 0) I.2.1 hr Q hg hd hE hs n (by omega)
    refine ⟨F, h, ?_, I, Q, rfl, H1⟩
    rw [B0_358r, if_neg (show ¬ nI 6 < nI 6 by decide), o0]
    simp only [obd_some, obd_none, Option.toList_some, Option.toList_none, List.cons_append, List.nil_append, cond_true, cond_false]
  | m + 1, k, F, h, o20, o21, hk, I, Q, H1, H2 => by
    have hk6 : k < 6 := by omega
    have hs := sq_ok hd (dg d n) 0 (show 0 ≤ 60 by omega) (rP d)
    have hf := fsi_d hd n
    have hb : ∀ m w, w < 3 → rec4 d m w < 2147483648 := by
      intro m w hw
      have := fsi_d hd m
      rcases (by omega : w = 0 ∨ w = 1 ∨ w = 2) with rfl | rfl | rfl <;> omega
    have ha3 : k % 3 < 3 := Nat.mod_lt _ (by omega)
    have o0 : mc 99 [.ref r, .ref q, .int (nI 0)] h = some (some (.int (nI (rec4 d n 0))), h) := m_out (w := 0) I.2.1 hr Q hg hd hE hs n (by omega)
    have ok : mc 99 [.ref r, .ref q, .int (nI (k % 3))] h = some (some (.int (nI (rcOf d (sq d (dg d n) 0 0 (rP d)) n (k % 3)))), h) := m_out (w := k % 3) I.2.1 hr Q hg hd hE hs n ha3
    have ok : mc 99 [.ref r, .ref q, .int (nI (k % 3))] h = some (some (.int (nI (rec4 d n (k % 3)))), h) := ok
    have t3 : g 57 = nI (rec4 d n 3) := hg.2.2
    have hty : rec4 d n 3 < 2147483648 := by
      have h2 := hs.2.2.2.2.2.1
      have h6 := hd.1
      show gt (sq d (dg d n) 0 0 (rP d)) < _
      omega
    obtain ⟨o, ho, hO⟩ := H2 k (Nat.le_refl k) hk6
    have hoB : ∀ w, o = some w → w < 100000 := by
      intro w hw
      rw [hw] at ho
      have := ho.1
      omega
    obtain ⟨c1, c2⟩ := op_ahead (n := n) ha3 rfl hO hoB hb
    -- what follows this way
    have fin : ∀ F' h', WL x S b L xs r p fr F' h' → La h' q 60 g → h'.2 = h.2 → (∀ i j, j ≠ k → F' i j = F i j) → BkI d few (n + 1) F' k → ∃ F'' h'', R 26 0 358 [some (.ref b), some (.ref x), some (.int (nI e)), some (.ref r), none, none, none, some (.int (nI cl)), some (.int (nI rw)), some (.int (nI few)), some (.int can), some (.ref p), some (.ref (p + 1)), some (.ref (p + 2)), some (.ref (p + 3)), some (.ref (p + 4)), some (.ref (p + 5)), some (.int fe), some (.int so), some (.int (nI n)), none, none, some (.ref q), some (.int (nI (k + 1))), none, none, none, none, none, none, none, none, none, none, none, none, none, none, none, none, none, none] [] h' = R 26 0 520 [some (.ref b), some (.ref x), some (.int (nI e)), some (.ref r), none, none, none, some (.int (nI cl)), some (.int (nI rw)), some (.int (nI few)), some (.int can), some (.ref p), some (.ref (p + 1)), some (.ref (p + 2)), some (.ref (p + 3)), some (.ref (p + 4)), some (.ref (p + 5)), some (.int fe), some (.int so), some (.int (nI n)), none, none, some (.ref q), some (.int (nI 6)), none, none, none, none, none, none, none, none, none, none, none, none, none, none, none, none, none, none] [.int (nI (rec4 d n 0))] h'' ∧ WL x S b L xs r p fr F'' h'' ∧ La h'' q 60 g ∧ h''.2 = h.2 ∧ ∀ j, j < 6 → BkI d few (n + 1) F'' j := by
      intro F' h' I' Q' z' hF hB
      obtain ⟨F2, h2, q1, q2, q3, q4, q5⟩ := l_ways hr hd hE hn hrg hfew hg hq m (k + 1) F' h' none none (by omega) I' Q' (fun j hj => by
        by_cases y : j = k
        · subst y; exact hB
        · obtain ⟨o2, y1, y2⟩ := H1 j (by omega)
          exact ⟨o2, y1, y2.same (fun i => hF i j y)⟩) (fun j hj1 hj2 => by
        obtain ⟨o2, y1, y2⟩ := H2 j (by omega) hj2
        exact ⟨o2, y1, y2.same (fun i => hF i j (by omega))⟩)
      exact ⟨F2, h2, q1, q2, q3, q4.trans z', q5⟩
    -- it is not looked at, or stays behind
    have stay : BkI d few (n + 1) F k → ∃ F'' h'', R 26 0 358 [some (.ref b), some (.ref x), some (.int (nI e)), some (.ref r), none, none, none, some (.int (nI cl)), some (.int (nI rw)), some (.int (nI few)), some (.int can), some (.ref p), some (.ref (p + 1)), some (.ref (p + 2)), some (.ref (p + 3)), some (.ref (p + 4)), some (.ref (p + 5)), some (.int fe), some (.int so), some (.int (nI n)), none, none, some (.ref q), some (.int (nI (k + 1))), none, none, none, none, none, none, none, none, none, none, none, none, none, none, none, none, none, none] [] h = R 26 0 520 [some (.ref b), some (.ref x), some (.int (nI e)), some (.ref r), none, none, none, some (.int (nI cl)), some (.int (nI rw)), some (.int (nI few)), some (.int can), some (.ref p), some (.ref (p + 1)), some (.ref (p + 2)), some (.ref (p + 3)), some (.ref (p + 4)), some (.ref (p + 5)), some (.int fe), some (.int so), some (.int (nI n)), none, none, some (.ref q), some (.int (nI 6)), none, none, none, none, none, none, none, none, none, none, none, none, none, none, none, none, none, none] [.int (nI (rec4 d n 0))] h'' ∧ WL x S b L xs r p fr F'' h'' ∧ La h'' q 60 g ∧ h''.2 = h.2 ∧ ∀ j, j < 6 → BkI d few (n + 1) F'' j := fun hB => fin F h I Q rfl (fun _ _ _ => rfl) hB
    have take : rec4 d n 3 ≤ tK few k → aheadO d (k % 3) n o → ∀ o26, ∃ F'' h'', R 26 0 452 [some (.ref b), some (.ref x), some (.int (nI e)), some (.ref r), none, none, none, some (.int (nI cl)), some (.int (nI rw)), some (.int (nI few)), some (.int can), some (.ref p), some (.ref (p + 1)), some (.ref (p + 2)), some (.ref (p + 3)), some (.ref (p + 4)), some (.ref (p + 5)), some (.int fe), some (.int so), some (.int (nI n)), none, none, some (.ref q), some (.int (nI k)), some (.int (nI (rec4 d n (k % 3)))), some (.int (nI (rec4 d n 0))), o26, none, none, none, none, none, none, none, none, none, none, none, none, none, none, none] [] h = R 26 0 520 [some (.ref b), some (.ref x), some (.int (nI e)), some (.ref r), none, none, none, some (.int (nI cl)), some (.int (nI rw)), some (.int (nI few)), some (.int can), some (.ref p), some (.ref (p + 1)), some (.ref (p + 2)), some (.ref (p + 3)), some (.ref (p + 4)), some (.ref (p + 5)), some (.int fe), some (.int so), some (.int (nI n)), none, none, some (.ref q), some (.int (nI 6)), none, none, none, none, none, none, none, none, none, none, none, none, none, none, none, none, none, none] [.int (nI (rec4 d n 0))] h'' ∧ WL x S b L xs r p fr F'' h'' ∧ La h'' q 60 g ∧ h''.2 = h.2 ∧ ∀ j, j < 6 → BkI d few (n + 1) F'' j := by
      intro hle ha o26
      obtain ⟨F', h', q1, q2, q3, q4, q5, q6⟩ := l_put o26 hk6 I Q hq hr hd hE hg (few := few) (can := can) (fe := fe) (so := so) (e := e) (cl := cl) (rw := rw)
      rw [q1]
      exact fin F' h' q2 q3 q4 q6 ⟨some n, bst_take ho hrg hle ha, q5⟩
    -- the way itself, when it is looked at
    have look : rec4 d n 3 ≤ tK few k → ∃ F'' h'', R 26 0 407 [some (.ref b), some (.ref x), some (.int (nI e)), some (.ref r), none, none, none, some (.int (nI cl)), some (.int (nI rw)), some (.int (nI few)), some (.int can), some (.ref p), some (.ref (p + 1)), some (.ref (p + 2)), some (.ref (p + 3)), some (.ref (p + 4)), some (.ref (p + 5)), some (.int fe), some (.int so), some (.int (nI n)), none, none, some (.ref q), some (.int (nI k)), some (.int (nI (rec4 d n (k % 3)))), some (.int (nI (rec4 d n 0))), none, none, none, none, none, none, none, none, none, none, none, none, none, none, none, none] [.int (nI 1)] h = R 26 0 520 [some (.ref b), some (.ref x), some (.int (nI e)), some (.ref r), none, none, none, some (.int (nI cl)), some (.int (nI rw)), some (.int (nI few)), some (.int can), some (.ref p), some (.ref (p + 1)), some (.ref (p + 2)), some (.ref (p + 3)), some (.ref (p + 4)), some (.ref (p + 5)), some (.int fe), some (.int so), some (.int (nI n)), none, none, some (.ref q), some (.int (nI 6)), none, none, none, none, none, none, none, none, none, none, none, none, none, none, none, none, none, none] [.int (nI (rec4 d n 0))] h'' ∧ WL x S b L xs r p fr F'' h'' ∧ La h'' q 60 g ∧ h''.2 = h.2 ∧ ∀ j, j < 6 → BkI d few (n + 1) F'' j := by
      intro hle
      have g0 : alI h p (nI k) = some (F 0 k) := I.get (i := 0) (by omega) hk6
      have g1 : alI h (p + 1) (nI k) = some (F 1 k) := I.get (i := 1) (by omega) hk6
      have g2 : alI h (p + 2) (nI k) = some (F 2 k) := I.get (i := 2) (by omega) hk6
      rw [B0_407r, if_neg (show ¬ nI 1 = 0 by decide), g0, obd_some]
      by_cases y : o = none
      · rw [if_pos (show F 0 k < 0 from c1 ▸ y)]
        exact take hle (by rw [y]; exact trivial) _
      · rw [if_neg (show ¬ F 0 k < 0 from fun z => y (c1 ▸ z)), B0_426r, g1, obd_some]
        cases eo : o with
        | none => exact absurd eo y
        | some w =>
          obtain ⟨d1, d2, d3⟩ := c2 w eo
          by_cases z1 : rec4 d n (k % 3) < rec4 d w (k % 3)
          · rw [if_pos (show nI (rec4 d n (k % 3)) < F 1 k from d1 ▸ z1)]
            exact take hle (by rw [eo]; exact Or.inl z1) _
          · rw [if_neg (show ¬ nI (rec4 d n (k % 3)) < F 1 k from fun u => z1 (d1 ▸ u)), obd_some]
            have keepB : ¬ aheadO d (k % 3) n (some w) → BkI d few (n + 1) F k := fun na => ⟨some w, bst_keep (by rw [← eo]; exact ho) na, by rw [← eo]; exact hO⟩
            by_cases z2 : rec4 d n (k % 3) = rec4 d w (k % 3)
            · rw [if_pos (show nI (rec4 d n (k % 3)) = F 1 k from d2 ▸ z2), B0_444r, g2, obd_some]
              by_cases z3 : rec4 d n 0 < rec4 d w 0
              · rw [if_pos (show nI (rec4 d n 0) < F 2 k from d3 ▸ z3)]
                exact take hle (by rw [eo]; exact Or.inr ⟨z2, z3⟩) _
              · rw [if_neg (show ¬ nI (rec4 d n 0) < F 2 k from fun u => z3 (d3 ▸ u)), nJ_add]
                exact stay (keepB (fun na => by rcases na with u | u; exact z1 u; exact z3 u.2))
            · rw [if_neg (show ¬ nI (rec4 d n (k % 3)) = F 1 k from fun u => z2 (d2 ▸ u)), nJ_add]
              exact stay (keepB (fun na => by rcases na with u | u; exact z1 u; exact z2 u.1))
    rw [B0_358r, if_pos (show nI k < nI 6 by rw [nJ_lt (by omega) (by omega)]; exact hk6), if_neg (show ¬ nI 3 = 0 by decide), nI_mod (by omega) (by omega), ok]
    simp only [obd_some, obd_none, Option.toList_some, Option.toList_none, List.cons_append, List.nil_append, cond_true, cond_false]
    rw [B0_375r, o0]
    simp only [obd_some, obd_none, Option.toList_some, Option.toList_none, List.cons_append, List.nil_append, cond_true, cond_false]
    rw [B0_384r]
    by_cases k3 : k < 3
    · have htk : tK few k = 100 := if_pos k3
      have h10 : rec4 d n 3 ≤ 12 := by
        have h2 := hs.2.2.2.2.2.1
        have h6 := hd.1
        show gt (sq d (dg d n) 0 0 (rP d)) ≤ 12
        omega
      rw [if_pos (show nI k < nI 3 by rw [nJ_lt (by omega) (by omega)]; exact k3), B0_402r]
      exact look (by omega)
    · have htk : tK few k = few := if_neg k3
      rw [if_neg (show ¬ nI k < nI 3 by rw [nJ_lt (by omega) (by omega)]; exact k3), la_r Q (by omega) (by omega), obd_some, t3]
      by_cases z : few < rec4 d n 3
      · rw [if_pos (show nI few < nI (rec4 d n 3) by rw [nJ_lt (by omega) hty]; exact z), B0_406r, B0_407r, if_pos (show nI 0 = 0 from rfl), nJ_add]
        exact stay ⟨o, bst_pass ho (fun u => by have := u.2; omega), hO⟩
      · rw [if_neg (show ¬ nI few < nI (rec4 d n 3) by rw [nJ_lt (by omega) hty]; exact z), B0_402r]
        exact look (by omega)
end LRow
