/-! The reference's new road. -/
section MRead4
variable {h : jHp} {m s n : Nat} {cd : Nat → Int32} {F : Nat → Value} {A : Nat → Nat → Int32}
def RdR (h : jHp) (m : Nat) (q : Nat ⊕ jTx) (F : Nat → Value) (A : Nat → Nat → Int32) (r : jRs) : Prop :=
  ∃ F' A', (∀ j, j < 11 ∨ 15 < j → F' j = F j) ∧ (∀ a c, ¬ (10 ≤ a ∧ a ≤ 13) → A' a c = A a c) ∧
  match q with
  | .inl f => r = some (some (.int (nI 0)), hX 8 h m F' A') ∧ F' 11 = .int (nI f)
  | .inr w => r = some (some (.int (nI 1)), hX 8 h m F' A') ∧ F' 13 = .int (nI w.1.length) ∧ F' 14 = .int (nI w.2.1.length) ∧ F' 15 = .int (nI w.2.2.length) ∧ (∀ j, j < w.1.length → A' 10 j = nI (w.1.getD j (0, 0)).1 ∧ A' 11 j = nI (w.1.getD j (0, 0)).2) ∧ (∀ u, u < w.2.1.length → ∀ j, j < 4 → A' 12 (4 * u + j) = nI ((w.2.1.getD u []).getD j 0)) ∧ ∀ u, u < w.2.2.length → ∀ j, j < 6 → A' 13 (6 * u + j) = nI ((w.2.2.getD u []).getD j 0)
theorem sFolk_no {cd : Nat → Int32} {n f t b : Nat} (h : ¬ cd t = nI 59) : sFolk cd n (f + 1) 0 b t = .inl t := by
  rw [sFolk, if_neg (fun z => absurd z.2 (Nat.lt_irrefl 0)), if_pos h]
theorem c_readsRoad (T : MTx cd s n A) : RdR h m (sText cd n) F A (mc 150 [.ref m, .int (nI s), .int (nI n)] (hX 8 h m F A)) := by
  have hn := T.1
  rw [M150, p8_11, obd_some, p8_13, obd_some, p8_14, obd_some, p8_15, obd_some, m_o, obd_some]
  have k11 : (updV (updV (updV (updV F 11 (.int (nI 0))) 13 (.int (nI 0))) 14 (.int (nI 0))) 15 (.int (nI 0))) 11 = .int (nI 0) := by rw [updV_n (by decide), updV_n (by decide), updV_n (by decide), updV_s]
  have k13 : (updV (updV (updV (updV F 11 (.int (nI 0))) 13 (.int (nI 0))) 14 (.int (nI 0))) 15 (.int (nI 0))) 13 = .int (nI 0) := by rw [updV_n (by decide), updV_n (by decide), updV_s]
  have k14 : (updV (updV (updV (updV F 11 (.int (nI 0))) 13 (.int (nI 0))) 14 (.int (nI 0))) 15 (.int (nI 0))) 14 = .int (nI 0) := by rw [updV_n (by decide), updV_s]
  have k15 : (updV (updV (updV (updV F 11 (.int (nI 0))) 13 (.int (nI 0))) 14 (.int (nI 0))) 15 (.int (nI 0))) 15 = .int (nI 0) := updV_s _ _ _
  have hF0 : ∀ j, j < 11 ∨ 15 < j → (updV (updV (updV (updV F 11 (.int (nI 0))) 13 (.int (nI 0))) 14 (.int (nI 0))) 15 (.int (nI 0))) j = F j := fun j hj => by rw [updV_n (by omega), updV_n (by omega), updV_n (by omega), updV_n (by omega)]
  generalize updV (updV (updV (updV F 11 (.int (nI 0))) 13 (.int (nI 0))) 14 (.int (nI 0))) 15 (.int (nI 0)) = F0 at k11 k13 k14 k15 hF0 ⊢
  rw [M151, m_o, obd_some, c_takes T k11 (by omega) (by omega)]
  unfold sText
  by_cases c : cd 0 = nI 109
  · have tlt := T.lt (by omega) c
    rw [if_pos c, if_pos c]
    simp only [obd_some, obd_none, Option.toList_some, Option.toList_none, List.cons_append, List.nil_append, cond_true, cond_false, B151_8]
    obtain ⟨F1, A1, ok, p1, p2, p3, p4, p5, p6⟩ := l_pcs (h := h) (m := m) (cd := cd) (s := s) (n := n) 6 0 1 (updV F0 11 (.int (nI (0 + 1)))) A rfl T (updV_s _ _ _) tlt ((updV_n (by decide)).trans k13)
    have p6 : match sPieces cd 6 true 1 with
      | .inl f => ok = 0 ∧ F1 11 = .int (nI f)
      | .inr w => F1 11 = .int (nI w.2) ∧ w.2 ≤ n ∧ (ok = 0 → ¬ cd w.2 = nI 59) ∧ (ok = 1 → F1 13 = .int (nI (0 + w.1.length)) ∧ ∀ j, j < w.1.length → A1 10 (0 + j) = nI (w.1.getD j (0, 0)).1 ∧ A1 11 (0 + j) = nI (w.1.getD j (0, 0)).2) := p6
    have gF : ∀ j, j < 11 ∨ 15 < j → F1 j = F j := fun j hj => (p2 j (by omega)).trans ((updV_n (by omega)).trans (hF0 j hj))
    rw [p1]
    simp only [obd_some, obd_none, Option.toList_some, Option.toList_none, List.cons_append, List.nil_append, cond_true, cond_false, B150_26]
    cases ep : sPieces cd 6 true 1 with
    | inl f =>
      rw [ep] at p6
      obtain ⟨rfl, p7⟩ := p6
      rw [if_pos (show nI 0 = 0 from rfl)]
      exact ⟨F1, A1, gF, fun a c z => p3 a c (by omega), rfl, p7⟩
    | inr w =>
      rw [ep] at p6
      obtain ⟨p7, p8, p9, p10⟩ := p6
      rcases p5 with rfl | rfl
      · rw [if_pos (show nI 0 = 0 from rfl)]
        dsimp only
        rw [sFolk_no (p9 rfl)]
        exact ⟨F1, A1, gF, fun a c z => p3 a c (by omega), rfl, p7⟩
      · obtain ⟨p11, p12⟩ := p10 rfl
        rw [if_neg (show ¬ nI 1 = 0 by decide)]
        have T1 : MTx cd s n A1 := T.of (by funext c; exact p3 _ _ (by omega))
        obtain ⟨F2, A2, q1, q2, q3, q4⟩ := l_mfolk (h := h) (m := m) (cd := cd) (s := s) (n := n) 7 0 0 w.2 F1 A1 rfl (by omega) (by omega) T1 p7 p8 ((p2 14 (by omega)).trans ((updV_n (by decide)).trans k14)) ((p2 15 (by omega)).trans ((updV_n (by decide)).trans k15))
        refine ⟨F2, A2, fun j hj => (q1 j (by omega)).trans (gF j hj), fun a c z => (q2 a c (by omega)).trans (p3 a c (by omega)), ?_⟩
        dsimp only
        cases ez : sFolk cd n 7 0 0 w.2 with
        | inl f => rw [ez] at q4; exact q4
        | inr z =>
          rw [ez] at q4
          obtain ⟨y1, y2, y3, y4, y5⟩ := q4
          refine ⟨y1, ?_, ?_, ?_, fun j hj => ?_, fun u hu j hj => ?_, fun u hu j hj => ?_⟩
          · rw [q1 13 (by omega), p11, Nat.zero_add]
          · rw [y2, Nat.zero_add]
          · rw [y3, Nat.zero_add]
          · have := p12 j hj
            rw [Nat.zero_add] at this
            rw [q2 10 _ (by omega), q2 11 _ (by omega)]; exact this
          · have := y4 u hu j hj
            rw [Nat.zero_add] at this; exact this
          · have := y5 u hu j hj
            rw [Nat.zero_add] at this; exact this
  · rw [if_neg c, if_neg c]
    simp only [obd_some, obd_none, Option.toList_some, Option.toList_none, List.cons_append, List.nil_append, cond_true, cond_false, B151_8, B151_9]
    rw [if_pos (show nI 0 = 0 from rfl), pc_ret _ (by decide)]
    simp only [obd_some, obd_none, Option.toList_some, Option.toList_none, List.cons_append, List.nil_append, cond_true, cond_false, B150_26]
    rw [if_pos (show nI 0 = 0 from rfl)]
    exact ⟨F0, A, hF0, fun _ _ _ => rfl, rfl, k11⟩
/-! copying what was read -/
def cp2 (A : Nat → Nat → Int32) (o n : Nat) : Nat → Nat → Int32 := fun j t => if (j = 4 ∨ j = 5) ∧ o ≤ t ∧ t < o + n then A (j + 6) (t - o) else A j t
theorem cp2_s (A : Nat → Nat → Int32) (o n : Nat) : uA (uA (cp2 A o n) 4 (o + n) (A 10 n)) 5 (o + n) (A 11 n) = cp2 A o (n + 1) := by
  funext j t
  unfold uA cp2
  by_cases e5 : j = 5 ∧ t = o + n
  · rw [if_pos e5, if_pos (by omega), e5.1, e5.2, Nat.add_sub_cancel_left]
  · rw [if_neg e5]
    by_cases e4 : j = 4 ∧ t = o + n
    · rw [if_pos e4, if_pos (by omega), e4.1, e4.2, Nat.add_sub_cancel_left]
    · rw [if_neg e4]
      by_cases e : (j = 4 ∨ j = 5) ∧ o ≤ t ∧ t < o + n
      · rw [if_pos e, if_pos (by omega)]
      · rw [if_neg e, if_neg (by omega)]
theorem cp2_n {o n j t : Nat} (hj : ¬ ((j = 4 ∨ j = 5) ∧ o ≤ t ∧ t < o + n)) : cp2 A o n j t = A j t := by
  unfold cp2; rw [if_neg hj]
def cp1 (A : Nat → Nat → Int32) (b o n : Nat) : Nat → Nat → Int32 := fun j t => if j = b ∧ o ≤ t ∧ t < o + n then A (b + 6) (t - o) else A j t
theorem cp1_s (A : Nat → Nat → Int32) (b o n : Nat) : uA (cp1 A b o n) b (o + n) (A (b + 6) n) = cp1 A b o (n + 1) := by
  funext j t
  unfold uA cp1
  by_cases e4 : j = b ∧ t = o + n
  · rw [if_pos e4, if_pos (by omega), e4.2, Nat.add_sub_cancel_left]
  · rw [if_neg e4]
    by_cases e : j = b ∧ o ≤ t ∧ t < o + n
    · rw [if_pos e, if_pos (by omega)]
    · rw [if_neg e, if_neg (by omega)]
theorem cp1_n {b o n j t : Nat} (hj : ¬ (j = b ∧ o ≤ t ∧ t < o + n)) : cp1 A b o n j t = A j t := by
  unfold cp1; rw [if_neg hj]
theorem l_rcp3 {z : Nat} (hz : z < 3) (h1 : F 1 = .int (nI z)) : ∀ c t (o1 o2 o3 o4 o5 : Option Value), t + c = 12 → R 5 142 229 [some (.ref m), o1, o2, o3, o4, o5, some (.int (nI t))] [] (hX 8 h m F (cp1 A 7 (12 * z) t)) = some (some (.int (nI z)), hX 8 h m (updV (updV F 1 (.int (nI (z + 1)))) 0 (.int (nI 0))) (uA (uA (cp1 A 7 (12 * z) 12) 8 z (-nI 9)) 9 z (-nI 9))) := by
  intro c
  induction c with
  | zero =>
    intro t o1 o2 o3 o4 o5 ht
    obtain rfl : t = 12 := ht
    rw [B142_229, B142_231, if_neg (show ¬ nI 12 < nI 12 from Int32.lt_irrefl), x8_9, obd_some]
    simp only [x8_1, h1, vI_i, obd_some, obd_none, Option.toList_some, Option.toList_none, List.cons_append, List.nil_append, cond_true, cond_false]
    rw [mw_8 hz, obd_some, x8_10, obd_some]
    simp only [x8_1, h1, vI_i, obd_some, obd_none, Option.toList_some, Option.toList_none, List.cons_append, List.nil_append, cond_true, cond_false]
    rw [mw_9 hz, obd_some, x8_1, h1, vI_i, obd_some, p8_1, obd_some, B142_296, x8_1, updV_s, vI_i, obd_some, m_o, obd_some, c_refused]
    simp only [obd_some, obd_none, Option.toList_some, Option.toList_none, List.cons_append, List.nil_append, cond_true, cond_false, B142_306, nJ_add]
    rw [nI_sub (by omega), Nat.add_sub_cancel]
  | succ c ih =>
    intro t o1 o2 o3 o4 o5 htc
    rw [B142_229, B142_231, if_pos (show nI t < nI 12 by rw [nJ_lt (by omega) (by omega)]; omega), x8_8, obd_some, x8_1, h1, vI_i, obd_some, x8_19, obd_some, m_13 (by omega), obd_some, cp1_n (by omega), nI_mul, nJ_add, mw_7 (by omega), obd_some, nJ_add, show A 13 t = A (7 + 6) t from rfl, cp1_s]
    exact ih (t + 1) none none none none none (by omega)
theorem l_rcp2 {z : Nat} (hz : z < 3) (h1 : F 1 = .int (nI z)) : ∀ c t (o1 o2 o3 o4 o5 : Option Value), t + c = 16 → R 5 142 191 [some (.ref m), o1, o2, o3, o4, o5, some (.int (nI t))] [] (hX 8 h m F (cp1 A 6 (16 * z) t)) = R 5 142 229 [some (.ref m), none, none, none, none, none, some (.int (nI 0))] [] (hX 8 h m F (cp1 A 6 (16 * z) 16)) := by
  intro c
  induction c with
  | zero =>
    intro t o1 o2 o3 o4 o5 ht
    obtain rfl : t = 16 := ht
    rw [B142_191, B142_193, if_neg (show ¬ nI 16 < nI 16 from Int32.lt_irrefl)]
  | succ c ih =>
    intro t o1 o2 o3 o4 o5 htc
    rw [B142_191, B142_193, if_pos (show nI t < nI 16 by rw [nJ_lt (by omega) (by omega)]; omega), x8_7, obd_some, x8_1, h1, vI_i, obd_some, x8_18, obd_some, m_12 (by omega), obd_some, cp1_n (by omega), nI_mul, nJ_add, mw_6 (by omega), obd_some, nJ_add, show A 12 t = A (6 + 6) t from rfl, cp1_s]
    exact ih (t + 1) none none none none none (by omega)
theorem l_rcp1 {z : Nat} (hz : z < 3) (h1 : F 1 = .int (nI z)) : ∀ c t (o1 o2 o3 o4 o5 : Option Value), t + c = 6 → R 5 142 131 [some (.ref m), o1, o2, o3, o4, o5, some (.int (nI t))] [] (hX 8 h m F (cp2 A (6 * z) t)) = R 5 142 191 [some (.ref m), none, none, none, none, none, some (.int (nI 0))] [] (hX 8 h m F (cp2 A (6 * z) 6)) := by
  intro c
  induction c with
  | zero =>
    intro t o1 o2 o3 o4 o5 ht
    obtain rfl : t = 6 := ht
    rw [B142_131, B142_133, if_neg (show ¬ nI 6 < nI 6 from Int32.lt_irrefl)]
  | succ c ih =>
    intro t o1 o2 o3 o4 o5 htc
    rw [B142_131, B142_133, if_pos (show nI t < nI 6 by rw [nJ_lt (by omega) (by omega)]; omega), x8_5, obd_some, x8_1, h1, vI_i, obd_some, x8_16, obd_some, m_10 (by omega), obd_some, cp2_n (by omega), nI_mul, nJ_add, mw_4 (by omega), obd_some, x8_6, obd_some, x8_1, h1, vI_i, obd_some, B142_170, x8_17, obd_some, m_11 (by omega), obd_some, uA_n (by omega), cp2_n (by omega), nI_mul, nJ_add, mw_5 (by omega), obd_some, nJ_add, cp2_s]
    exact ih (t + 1) none none none none none (by omega)
end MRead4
section MRead5
variable {h : jHp} {m : Nat} {S : jST} {F : Nat → Value} {A : Nat → Nat → Int32}
theorem M_road (R0 : MR S F A) (hS : stOk S) {d0 : jRD} (hd0 : rL d0 = none) (k l i n : Int32) : Mv m (rRoad S d0 k l i n).2 h (mc 142 [.ref m, .int k, .int l, .int i, .int n] (hX 8 h m F A)) (.int (rRoad S d0 k l i n).1) := by
  rw [M142, c_noSheet]
  simp only [obd_some, obd_none, Option.toList_some, Option.toList_none, List.cons_append, List.nil_append, cond_true, cond_false, B142_4, b2i_0]
  unfold rRoad
  by_cases hk : inN k 4
  · obtain ⟨a, ha, rfl⟩ := inN_nI hk
    have hd : sdOk (zS S a) := hS.2.2.2.2.2.2 a ha
    have H := R0.2.2.2 a ha
    have h3 := hS.1
    rw [if_pos (not_not_intro hk), if_pos hk, toNat_nI (by omega), c_isLane]
    simp only [obd_some, obd_none, Option.toList_some, Option.toList_none, List.cons_append, List.nil_append, cond_true, cond_false, B142_17, b2i_0]
    by_cases hl : inN l 3
    · rw [if_neg (not_not_intro hl), if_pos hl, m_o, obd_some, c_barred R0 hS ha]
      have hf4 := fCells_le (zS S a) l i n
      by_cases hf : fCells (zS S a) l i n = 0
      · obtain ⟨hc, _⟩ := fCells_0 hf
        obtain ⟨ui, un, rfl, rfl, hun⟩ := inCs_nI hd hc
        have h120 := hd.1
        rw [if_pos hf, if_pos hf, toNat_nI (by omega), toNat_nI (by omega)]
        simp only [obd_some, obd_none, Option.toList_some, Option.toList_none, List.cons_append, List.nil_append, cond_true, cond_false, B142_37]
        have T : MTx (cdOf (sC (zS S a)) ui un) (120 * a + ui) un A := by
          refine ⟨by omega, by omega, fun t ht => ?_, fun t ht => ?_⟩
          · have := H.2.2 (ui + t) (by omega)
            unfold cdOf
            rw [if_pos ht, ← this, Nat.add_assoc]
          · unfold cdOf; rw [if_neg (by omega)]
        rw [if_neg (show ¬ nI 0 < 0 by decide), m_o, obd_some, nI_mul, nJ_add]
        obtain ⟨F1, A1, q1, q2, q3⟩ := c_readsRoad (h := h) (m := m) (F := F) T
        have B1 : Bs F A F1 A1 := ⟨⟨q1 0 (by omega), q1 1 (by omega), q1 20 (by omega), q1 21 (by omega), q1 44 (by omega)⟩, fun j hj => by funext c; exact q2 j c (by omega)⟩
        have R1 := R0.bs B1
        cases ht : sText (cdOf (sC (zS S a)) ui un) un with
        | inl f =>
          rw [ht] at q3
          obtain ⟨q4, q5⟩ := q3
          rw [q4]
          simp only [obd_some, obd_none, Option.toList_some, Option.toList_none, List.cons_append, List.nil_append, cond_true, cond_false, B142_59]
          rw [if_pos (show nI 0 = 0 from rfl), x8_11, q5, vI_i, obd_some, m_o, obd_some, c_refused]
          simp only [obd_some, obd_none, Option.toList_some, Option.toList_none, List.cons_append, List.nil_append, cond_true, cond_false, B142_73]
          exact ⟨_, _, rfl, R1.f0 0⟩
        | inr w =>
          rw [ht] at q3
          obtain ⟨q4, q5, q6, q7, q8, q9, q10⟩ := q3
          rw [q4]
          simp only [obd_some, obd_none, Option.toList_some, Option.toList_none, List.cons_append, List.nil_append, cond_true, cond_false, B142_59]
          rw [if_neg (show ¬ nI 1 = 0 by decide), x8_1, R1.1.2.1, vI_i, obd_some]
          by_cases hn : zn S < 3
          · have f1 : F1 1 = .int (nI (zn S)) := R1.1.2.1
            rw [if_neg (show ¬ nI (zn S) = nI 3 by rw [nI_inj (by omega) (by omega)]; omega), if_pos hn, x8_2, obd_some]
            simp only [x8_1, f1, x8_13, q5, vI_i, obd_some, obd_none, Option.toList_some, Option.toList_none, List.cons_append, List.nil_append, cond_true, cond_false]
            rw [mw_1 hn, obd_some, x8_3, obd_some]
            simp only [x8_1, f1, x8_14, q6, vI_i, obd_some, obd_none, Option.toList_some, Option.toList_none, List.cons_append, List.nil_append, cond_true, cond_false]
            rw [mw_2 hn, obd_some, B142_116, x8_4, obd_some]
            simp only [x8_1, f1, x8_15, q7, vI_i, obd_some, obd_none, Option.toList_some, Option.toList_none, List.cons_append, List.nil_append, cond_true, cond_false]
            rw [mw_3 hn, obd_some]
            generalize hA2 : uA (uA (uA A1 1 (zn S) (nI w.1.length)) 2 (zn S) (nI w.2.1.length)) 3 (zn S) (nI w.2.2.length) = A2
            have e1 := l_rcp1 (h := h) (m := m) (A := A2) hn f1 6 0 (some (.int (nI a))) (some (.int l)) (some (.int (nI ui))) (some (.int (nI un))) (some (.int (nI 0))) (Nat.zero_add _)
            rw [show cp2 A2 (6 * zn S) 0 = A2 by funext j t; exact cp2_n (by omega)] at e1
            have e2 := l_rcp2 (h := h) (m := m) (A := cp2 A2 (6 * zn S) 6) hn f1 16 0 none none none none none (Nat.zero_add _)
            rw [show cp1 (cp2 A2 (6 * zn S) 6) 6 (16 * zn S) 0 = cp2 A2 (6 * zn S) 6 by funext j t; exact cp1_n (by omega)] at e2
            have e3 := l_rcp3 (h := h) (m := m) (A := cp1 (cp2 A2 (6 * zn S) 6) 6 (16 * zn S) 16) hn f1 12 0 none none none none none (Nat.zero_add _)
            rw [show cp1 (cp1 (cp2 A2 (6 * zn S) 6) 6 (16 * zn S) 16) 7 (12 * zn S) 0 = cp1 (cp2 A2 (6 * zn S) 6) 6 (16 * zn S) 16 by funext j t; exact cp1_n (by omega)] at e3
            rw [e1, e2, e3]
            generalize hA3 : uA (uA (cp1 (cp1 (cp2 A2 (6 * zn S) 6) 6 (16 * zn S) 16) 7 (12 * zn S) 12) 8 (zn S) (-nI 9)) 9 (zn S) (-nI 9) = A3
            refine ⟨_, A3, rfl, ⟨rfl, rfl, ?_, ?_, ?_⟩, fun j hj => ?_, fun q hq => ?_, fun j hj => ?_⟩
            · rw [updV_n (by decide), updV_n (by decide)]; exact R1.1.2.2.1
            · rw [updV_n (by decide), updV_n (by decide)]; exact R1.1.2.2.2.1
            · rw [updV_n (by decide), updV_n (by decide)]; exact R1.1.2.2.2.2
            · have hj : j < zn S + 1 := hj
              show MRd (if j = zn S then rdOf d0 w else zD S j) j A3
              by_cases c : j = zn S
              · rw [if_pos c]
                subst c
                obtain ⟨n1, n2, n3, n4⟩ := rdOf_n d0 w
                obtain ⟨a1, a2, a3, a4, a5, a6, a7, a8⟩ := sText_ok ht
                have lo : ∀ j t, j < 4 → A3 j t = A2 j t := fun j t hj => by
                  rw [← hA3, uA_n (by omega), uA_n (by omega), cp1_n (by omega), cp1_n (by omega), cp2_n (by omega)]
                refine ⟨?_, ?_, ?_, fun k hk => ?_, fun p hp v hv => ?_, fun p hp v hv => ?_, ?_, ?_⟩
                · rw [n1, lo _ _ (by omega), ← hA2, uA_n (by omega), uA_n (by omega), uA_s]
                · rw [n2, lo _ _ (by omega), ← hA2, uA_n (by omega), uA_s]
                · rw [n3, lo _ _ (by omega), ← hA2, uA_s]
                · rw [n1] at hk
                  obtain ⟨m1, m2⟩ := rdOf_M d0 w hk
                  obtain ⟨m3, m4⟩ := q8 k hk
                  rw [m1, m2, ← m3, ← m4]
                  constructor
                  · rw [← hA3, uA_n (by omega), uA_n (by omega), cp1_n (by omega), cp1_n (by omega)]
                    unfold cp2; rw [if_pos (by omega), Nat.add_sub_cancel_left, ← hA2, uA_n (by omega), uA_n (by omega), uA_n (by omega)]
                  · rw [← hA3, uA_n (by omega), uA_n (by omega), cp1_n (by omega), cp1_n (by omega)]
                    unfold cp2; rw [if_pos (by omega), Nat.add_sub_cancel_left, ← hA2, uA_n (by omega), uA_n (by omega), uA_n (by omega)]
                · rw [n2] at hp
                  rw [rdOf_Q d0 a7 hp hv, ← q9 p hp v hv, ← hA3, uA_n (by omega), uA_n (by omega), cp1_n (by omega)]
                  unfold cp1; rw [if_pos (by omega), show 16 * zn S + 4 * p + v - 16 * zn S = 4 * p + v by omega, cp2_n (by omega), ← hA2, uA_n (by omega), uA_n (by omega), uA_n (by omega)]
                · rw [n3] at hp
                  rw [rdOf_O d0 a8 hp hv, ← q10 p hp v hv, ← hA3, uA_n (by omega), uA_n (by omega)]
                  unfold cp1; rw [if_pos (by omega), show 12 * zn S + 6 * p + v - 12 * zn S = 6 * p + v by omega, if_neg (by omega), cp2_n (by omega), ← hA2, uA_n (by omega), uA_n (by omega), uA_n (by omega)]
                · rw [n4, hd0, ← hA3, uA_n (by omega), uA_s]; rfl
                · rw [n4, hd0, ← hA3, uA_s]; rfl
              · rw [if_neg c]
                have hjn : j < zn S := by omega
                obtain ⟨b1, b2, b3, b4, b5, b6, b7, b8⟩ := R1.2.1 j hjn
                have hdj := (hS.2.2.2.2.1 j hjn).1
                have h6 := hdj.1
                have h4 := hdj.2.1
                have h2 := hdj.2.2.1
                have kp : ∀ x t, x < 10 → ¬ (x < 4 ∧ t = zn S) → ¬ ((x = 4 ∨ x = 5) ∧ 6 * zn S ≤ t ∧ t < 6 * zn S + 6) → ¬ (x = 6 ∧ 16 * zn S ≤ t ∧ t < 16 * zn S + 16) → ¬ (x = 7 ∧ 12 * zn S ≤ t ∧ t < 12 * zn S + 12) → ¬ (7 < x ∧ t = zn S) → A3 x t = A1 x t := fun x t z0 z1 z2 z3 z4 z5 => by
                  rw [← hA3, uA_n (by omega), uA_n (by omega), cp1_n z4, cp1_n z3, cp2_n z2, ← hA2, uA_n (by omega), uA_n (by omega), uA_n (by omega)]
                refine ⟨?_, ?_, ?_, fun k hk => ⟨?_, ?_⟩, fun p hp v hv => ?_, fun p hp v hv => ?_, ?_, ?_⟩
                · rw [kp _ _ (by omega) (by omega) (by omega) (by omega) (by omega) (by omega)]; exact b1
                · rw [kp _ _ (by omega) (by omega) (by omega) (by omega) (by omega) (by omega)]; exact b2
                · rw [kp _ _ (by omega) (by omega) (by omega) (by omega) (by omega) (by omega)]; exact b3
                · rw [kp _ _ (by omega) (by omega) (by omega) (by omega) (by omega) (by omega)]; exact (b4 k hk).1
                · rw [kp _ _ (by omega) (by omega) (by omega) (by omega) (by omega) (by omega)]; exact (b4 k hk).2
                · rw [kp _ _ (by omega) (by omega) (by omega) (by omega) (by omega) (by omega)]; exact b5 p hp v hv
                · rw [kp _ _ (by omega) (by omega) (by omega) (by omega) (by omega) (by omega)]; exact b6 p hp v hv
                · rw [kp _ _ (by omega) (by omega) (by omega) (by omega) (by omega) (by omega)]; exact b7
                · rw [kp _ _ (by omega) (by omega) (by omega) (by omega) (by omega) (by omega)]; exact b8
            · refine MPl.of (A := A1) (p := zP S q) ?_ fun j a1 a2 => ?_
              · have hx := (hS.2.2.2.2.2.1 q hq).1
                have := R1.2.2.1 q hq
                show MPl (if pX (zP S q) = zn S then rdOf d0 w else zD S (pX (zP S q))) (zP S q) q A1
                rw [if_neg (by omega)]; exact this
              · funext t
                rw [← hA3, uA_n (by omega), uA_n (by omega), cp1_n (by omega), cp1_n (by omega), cp2_n (by omega), ← hA2, uA_n (by omega), uA_n (by omega), uA_n (by omega)]
            · refine MSh.of (A := A1) (R1.2.2.2 j hj) fun x a1 a2 => ?_
              funext t
              rw [← hA3, uA_n (by omega), uA_n (by omega), cp1_n (by omega), cp1_n (by omega), cp2_n (by omega), ← hA2, uA_n (by omega), uA_n (by omega), uA_n (by omega)]
          · rw [if_pos (show nI (zn S) = nI 3 by rw [show zn S = 3 by omega]), if_neg hn, m_o, obd_some, c_refused]
            simp only [obd_some, obd_none, Option.toList_some, Option.toList_none, List.cons_append, List.nil_append, cond_true, cond_false, B142_88]
            exact ⟨_, _, rfl, R1.f0 0⟩
      · rw [if_neg hf, if_neg hf]
        simp only [obd_some, obd_none, Option.toList_some, Option.toList_none, List.cons_append, List.nil_append, cond_true, cond_false, B142_37]
        rw [if_pos (show fI (fCells (zS S a) l i n) < 0 by
          rcases (by omega : fCells (zS S a) l i n = 1 ∨ fCells (zS S a) l i n = 2 ∨ fCells (zS S a) l i n = 3 ∨ fCells (zS S a) l i n = 4) with e | e | e | e <;> rw [e] <;> decide)]
        exact ⟨_, _, rfl, R0.f0 _⟩
    · rw [if_pos hl, if_neg hl, m_o, obd_some, c_refused]
      simp only [obd_some, obd_none, Option.toList_some, Option.toList_none, List.cons_append, List.nil_append, cond_true, cond_false, B142_26]
      exact ⟨_, _, rfl, R0.f0 0⟩
  · rw [if_neg (show ¬ ¬ ¬ _ from fun z => z hk), if_neg hk, m_o, obd_some, c_refused]
    simp only [obd_some, obd_none, Option.toList_some, Option.toList_none, List.cons_append, List.nil_append, cond_true, cond_false, B142_12]
    exact ⟨_, _, rfl, R0.f0 0⟩
end MRead5
