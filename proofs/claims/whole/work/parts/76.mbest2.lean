/-! The best of the rows, as the reference finds it. -/
theorem rec4_le10 {d : jRD} (hd : rdOk d) (hP : 0 < rP d) (row : Nat) : rec4 d row 3 ≤ 10 := rec4_ties hd hP row
/-- what is known of the rows so far -/
def LB (d : jRD) (aim : Nat) (t : Option Nat) (n : Nat) (o : Option Nat) (F : Nat → Value) (l4 l5 : Int32) : Prop := bstP d aim (tMax t) n o ∧ F 37 = .int (cmI o) ∧ ∀ w, o = some w → l4 = nI (rec4 d w aim) ∧ l5 = nI (rec4 d w 0)
theorem bst_skip {d : jRD} {aim t n : Nat} {o : Option Nat} (h : bstP d aim t n o) (hs : rgt d n = true → ¬ rec4 d n 3 ≤ t) : bstP d aim t (n + 1) o := by
  cases o with
  | none =>
    intro m h1 h2
    by_cases e : m = n
    · subst e; exact hs h2
    · exact h m (by omega) h2
  | some w =>
    refine ⟨by have := h.1; omega, h.2.1, h.2.2.1, fun m h1 h2 h3 => ?_⟩
    by_cases e : m = n
    · subst e; exact absurd h3 (hs h2)
    · exact h.2.2.2 m (by omega) h2 h3
theorem bst_keep {d : jRD} {aim t n w : Nat} (h : bstP d aim t n (some w)) (hs : befB aim (rec4 d n) (rec4 d w) = false) : bstP d aim t (n + 1) (some w) := by
  refine ⟨by have := h.1; omega, h.2.1, h.2.2.1, fun m h1 h2 h3 => ?_⟩
  by_cases e : m = n
  · subst e; exact hs
  · exact h.2.2.2 m (by omega) h2 h3
theorem bst_take {d : jRD} {aim t n : Nat} {o : Option Nat} (h : bstP d aim t n o) (hr : rgt d n = true) (ht : rec4 d n 3 ≤ t) (hs : ∀ w, o = some w → befB aim (rec4 d n) (rec4 d w) = true) : bstP d aim t (n + 1) (some n) := by
  refine ⟨Nat.lt_succ_self n, hr, ht, fun m h1 h2 h3 => ?_⟩
  by_cases e : m = n
  · subst e; rw [befB_f]; omega
  · cases o with
    | none => exact absurd h3 (h m (by omega) h2)
    | some w =>
      have a := h.2.2.2 m (by omega) h2 h3
      have b := hs w rfl
      rw [befB_f] at a ⊢
      rw [befB_iff] at b
      omega
section MBest2
variable {h : jHp} {m i : Nat} {d : jRD} {F F0 : Nat → Value} {A A0 : Nat → Nat → Int32}
theorem l_layBest (D0 : MRd d i A0) (hd : rdOk d) (hP : 0 < rP d) (hE : 0 < rE d) (hi : i < 3) {aim : Nat} (ha : aim < 3) {t : Option Nat} (ht : ∀ u, t = some u → u ≤ 12) (hM : ¬ many d) :
    ∀ k n o F A l4 l5 o8 o9, n + k = nRows d → Bs F0 A0 F A → LB d aim t n o F l4 l5 → (n = 0 ∨ ∃ a b, F 35 = .int (nI a) ∧ F 36 = .int (nI b)) →
    ∃ F' A' o', R 5 203 23 [some (.ref m), some (.int (nI i)), some (.int (nI aim)), some (.int (cmI t)), some (.int l4), some (.int l5), some (.int (nI (nRows d))), some (.int (nI n)), o8, o9] [] (hX 8 h m F A) = some (none, hX 8 h m F' A') ∧ Bs F0 A0 F' A' ∧ bstP d aim (tMax t) (nRows d) o' ∧ F' 37 = .int (cmI o') ∧ (∀ w, o' = some w → TR d (dg d w) 0 0 F' A' ∧ ME d (dg d w) i A') ∧ ∃ a b, F' 35 = .int (nI a) ∧ F' 36 = .int (nI b) := by
  have hN := nR_le hM
  intro k
  induction k with
  | zero =>
    intro n o F A l4 l5 o8 o9 hn B L I
    obtain rfl : n = nRows d := hn
    have hN0 : 0 < nRows d := Nat.pow_pos (Nat.succ_pos _)
    rw [B203_23, if_neg (show ¬ nI (nRows d) < nI (nRows d) from Int32.lt_irrefl), x8_37, L.2.1, vI_i, obd_some]
    cases o with
    | none =>
      rw [if_pos (show cmI none < 0 by decide), B203_151]
      exact ⟨F, A, none, rfl, B, L.1, L.2.1, (fun w z => by cases z), I.resolve_left (by omega)⟩
    | some w =>
      have hw := L.1.1
      obtain ⟨A1, F2, A2, e1, e2, B2, f37, T, I2, E⟩ := c_try (h := h) (m := m) D0 hd hP hi (show w < 2147483648 by omega) B
      rw [show cmI (some w) = nI w from rfl, if_neg (nI_nneg (by omega)), obd_some, m_o, obd_some, e1]
      simp only [obd_some, obd_none, Option.toList_some, Option.toList_none, List.cons_append, List.nil_append, cond_true, cond_false, B203_143, m_o, e2, B203_150, B203_151]
      exact ⟨F2, A2, some w, rfl, B2, L.1, f37.trans L.2.1, fun w' z => by cases z; exact ⟨T L.1.2.1, E⟩, I2⟩
  | succ k ih =>
    intro n o F A l4 l5 o8 o9 hnk B L I
    have hn : n < nRows d := by omega
    obtain ⟨A1, F2, A2, e1, e2, B2, f37, T, I2, E⟩ := c_try (h := h) (m := m) D0 hd hP hi (show n < 2147483648 by omega) B
    have h10 := rec4_le10 hd hP n
    have go : ∀ o8 o9, bstP d aim (tMax t) (n + 1) o → ∃ F' A' o', R 5 203 23 [some (.ref m), some (.int (nI i)), some (.int (nI aim)), some (.int (cmI t)), some (.int l4), some (.int l5), some (.int (nI (nRows d))), some (.int (nI (n + 1))), o8, o9] [] (hX 8 h m F2 A2) = some (none, hX 8 h m F' A') ∧ Bs F0 A0 F' A' ∧ bstP d aim (tMax t) (nRows d) o' ∧ F' 37 = .int (cmI o') ∧ (∀ w, o' = some w → TR d (dg d w) 0 0 F' A' ∧ ME d (dg d w) i A') ∧ ∃ a b, F' 35 = .int (nI a) ∧ F' 36 = .int (nI b) :=
      fun o8 o9 z => ih (n + 1) o F2 A2 l4 l5 o8 o9 (by omega) B2 ⟨z, f37.trans L.2.1, L.2.2⟩ (Or.inr I2)
    rw [B203_23, if_pos (show nI n < nI (nRows d) by rw [nJ_lt (by omega) (by omega)]; exact hn), m_o, obd_some, e1]
    simp only [obd_some, obd_none, Option.toList_some, Option.toList_none, List.cons_append, List.nil_append, cond_true, cond_false, B203_37, m_o, e2, B203_44, nJ_add]
    simp only [wrOn_9 hd]
    by_cases hr : rgt d n = true
    · rw [if_pos (rgt_none ▸ hr)]
      have T := T hr
      have D2 : MRd d i A2 := E.1
      have a1 := c_outOf (h := h) (m := m) D2 hd hi (Nat.zero_le 60) T (show aim < 5 by omega)
      have a2 := c_outOf (h := h) (m := m) D2 hd hi (Nat.zero_le 60) T (show 0 < 5 by omega)
      rw [rec4_out (by omega)] at a1 a2
      have b1 := rec4_lt hd hE n (show aim < 4 by omega)
      have b2 := rec4_lt hd hE n (show 0 < 4 by omega)
      -- behind the ties
      have wei : rec4 d n 3 ≤ tMax t → ∃ F' A' o', R 5 203 69 [some (.ref m), some (.int (nI i)), some (.int (nI aim)), some (.int (cmI t)), some (.int l4), some (.int l5), some (.int (nI (nRows d))), some (.int (nI n)), none, none] [.int (nI (rec4 d n aim))] (hX 8 h m F2 A2) = some (none, hX 8 h m F' A') ∧ Bs F0 A0 F' A' ∧ bstP d aim (tMax t) (nRows d) o' ∧ F' 37 = .int (cmI o') ∧ (∀ w, o' = some w → TR d (dg d w) 0 0 F' A' ∧ ME d (dg d w) i A') ∧ ∃ a b, F' 35 = .int (nI a) ∧ F' 36 = .int (nI b) := by
        intro hti
        have take : ∀ o4 o5, (∀ w, o = some w → befB aim (rec4 d n) (rec4 d w) = true) → ∃ F' A' o', R 5 203 107 [some (.ref m), some (.int (nI i)), some (.int (nI aim)), some (.int (cmI t)), o4, o5, some (.int (nI (nRows d))), some (.int (nI n)), some (.int (nI (rec4 d n aim))), some (.int (nI (rec4 d n 0)))] [] (hX 8 h m F2 A2) = some (none, hX 8 h m F' A') ∧ Bs F0 A0 F' A' ∧ bstP d aim (tMax t) (nRows d) o' ∧ F' 37 = .int (cmI o') ∧ (∀ w, o' = some w → TR d (dg d w) 0 0 F' A' ∧ ME d (dg d w) i A') ∧ ∃ a b, F' 35 = .int (nI a) ∧ F' 36 = .int (nI b) := by
          intro o4 o5 hb
          rw [B203_107, p8_37, obd_some, nJ_add]
          obtain ⟨a, b, i1, i2⟩ := I2
          exact ih (n + 1) (some n) (updV F2 37 (.int (nI n))) A2 _ _ none none (by omega) (B2.tr (Bs.f 37 _ (by omega))) ⟨bst_take L.1 hr hti hb, updV_s _ _ _, fun w z => by cases z; exact ⟨rfl, rfl⟩⟩ (Or.inr ⟨a, b, (updV_n (by decide)).trans i1, (updV_n (by decide)).trans i2⟩)
        rw [B203_69, m_o, obd_some, a2]
        simp only [obd_some, obd_none, Option.toList_some, Option.toList_none, List.cons_append, List.nil_append, cond_true, cond_false, B203_77, x8_37, f37, L.2.1, vI_i, nJ_add]
        cases o with
        | none =>
          rw [if_pos (show cmI none < 0 by decide)]
          exact take _ _ (fun w z => by cases z)
        | some w =>
          obtain ⟨g1, g2⟩ := L.2.2 w rfl
          have hw := L.1.1
          have c1 := rec4_lt hd hE w (show aim < 4 by omega)
          have c2 := rec4_lt hd hE w (show 0 < 4 by omega)
          have e4n : rec4 d n 4 = n := rfl
          have e4w : rec4 d w 4 = w := rfl
          rw [show cmI (some w) = nI w from rfl, if_neg (nI_nneg (by omega)), g1, g2]
          rw [g1, g2] at go
          have keep : ¬ (rec4 d n aim < rec4 d w aim ∨ (rec4 d n aim = rec4 d w aim ∧ rec4 d n 0 < rec4 d w 0)) → befB aim (rec4 d n) (rec4 d w) = false := fun z => by
            rw [befB_f]; omega
          by_cases q1 : rec4 d n aim < rec4 d w aim
          · rw [if_pos (show nI (rec4 d n aim) < nI (rec4 d w aim) by rw [nJ_lt (by omega) (by omega)]; exact q1)]
            exact take _ _ (fun v z => by cases z; rw [befB_iff]; exact Or.inl q1)
          · rw [if_neg (show ¬ nI (rec4 d n aim) < nI (rec4 d w aim) by rw [nJ_lt (by omega) (by omega)]; exact q1)]
            by_cases q2 : rec4 d n aim = rec4 d w aim
            · rw [if_pos (show nI (rec4 d n aim) = nI (rec4 d w aim) by rw [q2])]
              by_cases q3 : rec4 d n 0 < rec4 d w 0
              · rw [if_pos (show nI (rec4 d n 0) < nI (rec4 d w 0) by rw [nJ_lt (by omega) (by omega)]; exact q3)]
                exact take _ _ (fun v z => by cases z; rw [befB_iff]; exact Or.inr ⟨q2, Or.inl q3⟩)
              · rw [if_neg (show ¬ nI (rec4 d n 0) < nI (rec4 d w 0) by rw [nJ_lt (by omega) (by omega)]; exact q3)]
                exact go _ _ (bst_keep L.1 (keep (by omega)))
            · rw [if_neg (show ¬ nI (rec4 d n aim) = nI (rec4 d w aim) by rw [nI_inj (by omega) (by omega)]; exact q2)]
              exact go _ _ (bst_keep L.1 (keep (by omega)))
      cases t with
      | none =>
        rw [if_pos (show cmI none = -nI 9 from rfl), a1]
        simp only [obd_some, obd_none, Option.toList_some, Option.toList_none, List.cons_append, List.nil_append, cond_true, cond_false]
        exact wei (by show rec4 d n 3 ≤ 100; omega)
      | some u =>
        have hu := ht u rfl
        rw [show cmI (some u) = nI u from rfl, if_neg (show ¬ nI u = -nI 9 by rw [neg9_ne (by omega)]; exact id), x8_35, T.2.2.2.2.1, vI_i, obd_some]
        by_cases q : rec4 d n 3 ≤ u
        · rw [if_neg (show ¬ nI u < nI (gt (sq d (dg d n) 0 0 (rP d))) by rw [nJ_lt (by omega) (by show rec4 d n 3 < 2147483648; omega)]; show ¬ u < rec4 d n 3; omega), a1]
          simp only [obd_some, obd_none, Option.toList_some, Option.toList_none, List.cons_append, List.nil_append, cond_true, cond_false]
          exact wei q
        · rw [if_pos (show nI u < nI (gt (sq d (dg d n) 0 0 (rP d))) by rw [nJ_lt (by omega) (by show rec4 d n 3 < 2147483648; omega)]; show u < rec4 d n 3; omega)]
          exact go _ _ (bst_skip L.1 (fun _ => q))
    · rw [if_neg (fun z => hr (rgt_none ▸ z))]
      exact go _ _ (bst_skip L.1 (fun z => absurd z hr))
theorem c_layBest (D0 : MRd d i A) (hd : rdOk d) (hP : 0 < rP d) (hE : 0 < rE d) (hi : i < 3) {aim : Nat} (ha : aim < 3) {t : Option Nat} (ht : ∀ u, t = some u → u ≤ 12) (hM : ¬ many d) :
    ∃ F' A', mc 203 [.ref m, .int (nI i), .int (nI aim), .int (cmI t)] (hX 8 h m F A) = some (none, hX 8 h m F' A') ∧ Bs F A F' A' ∧ F' 37 = .int (cmI ((pkO d aim t).map fun c => c.2 4)) ∧ (∀ c, pkO d aim t = some c → TR d (dg d (c.2 4)) 0 0 F' A' ∧ ME d (dg d (c.2 4)) i A' ∧ c.2 = rec4 d (c.2 4)) ∧ ∃ a b, F' 35 = .int (nI a) ∧ F' 36 = .int (nI b) := by
  have hN := nR_le hM
  obtain ⟨p1, p2⟩ := pkO_bst hd hP ha ht
  have b0 : Bs F A (updV F 37 (.int (-nI 9))) A := Bs.f 37 _ (by omega)
  obtain ⟨F', A', o', e1, B1, L1, f1, T1, I1⟩ := l_layBest (h := h) (m := m) (F0 := F) (A0 := A) D0 hd hP hE hi ha ht hM (nRows d) 0 none (updV F 37 (.int (-nI 9))) A (nI 0) (nI 0) none none (Nat.zero_add _) b0 ⟨fun m hm => absurd hm (Nat.not_lt_zero m), updV_s _ _ _, fun w z => by cases z⟩ (Or.inl rfl)
  have eo := bst_one L1 p1
  subst eo
  refine ⟨F', A', ?_, B1, f1, fun c ec => ?_, I1⟩
  · rw [M203, p8_37, obd_some, m_o, obd_some, c_mMany D0 hd hi]
    simp only [obd_some, obd_none, Option.toList_some, Option.toList_none, List.cons_append, List.nil_append, cond_true, cond_false, B203_17, lN_i32]
    rw [pwl_eq (Nat.succ_pos _) _ hN]
    exact e1
  · have := T1 (c.2 4) (by rw [ec]; rfl)
    exact ⟨this.1, this.2, p2 c ec⟩
end MBest2
