/-! The reference's calls about the best. -/
theorem c_isAim (a t : Int32) (h : jHp) : mc 201 [.int a, .int t] h = some (some (.int (b2i (aimOk a t))), h) := by
  rw [M201, c_inN a (by decide)]
  simp only [obd_some, obd_none, Option.toList_some, Option.toList_none, List.cons_append, List.nil_append, cond_true, cond_false, B201_9, b2i_0]
  by_cases ha : inN a 3
  · rw [if_neg (not_not_intro ha)]
    by_cases t9 : t = -nI 9
    · rw [if_pos t9]
      unfold b2i; rw [if_pos ⟨ha, Or.inl t9⟩]
    · rw [if_neg t9, c_inN t (by decide)]
      simp only [obd_some, obd_none, Option.toList_some, Option.toList_none, List.cons_append, List.nil_append, cond_true, cond_false, B201_27, b2i_0]
      unfold b2i
      by_cases ht : inN t 13
      · rw [if_neg (not_not_intro ht), if_pos ⟨ha, Or.inr ht⟩]
      · rw [if_pos ht, if_neg (fun z => z.2.elim t9 ht)]
  · rw [if_pos ha]
    unfold b2i; rw [if_neg (fun z => ha z.1)]
section MBest3
variable {h : jHp} {m : Nat} {S : jST} {F : Nat → Value} {A : Nat → Nat → Int32}
theorem M_best (R0 : MR S F A) (hS : stOk S) (v a t w : Int32) : Mv m S h (mc 200 [.ref m, .int v, .int a, .int t, .int w] (hX 8 h m F A)) (.int (aBest S v a t w)) := by
  have h3 := hS.1
  rw [M200, m_o, obd_some, c_noRoad R0 hS]
  simp only [obd_some, obd_none, Option.toList_some, Option.toList_none, List.cons_append, List.nil_append, cond_true, cond_false, B200_5, b2i_0]
  unfold aBest
  by_cases hv : inN v (zn S)
  · obtain ⟨i, hi, rfl⟩ := inN_nI hv
    obtain ⟨g1, g2, g3, g4⟩ := hS.2.2.2.2.1 i hi
    have D0 := R0.2.1 i hi
    rw [if_pos (not_not_intro hv), if_pos hv, toNat_nI (by omega), c_isAim]
    simp only [obd_some, obd_none, Option.toList_some, Option.toList_none, List.cons_append, List.nil_append, cond_true, cond_false, B200_15, b2i_0]
    by_cases hat : aimOk a t
    · rw [if_neg (not_not_intro hat), if_pos hat, c_inN w (by decide)]
      simp only [obd_some, obd_none, Option.toList_some, Option.toList_none, List.cons_append, List.nil_append, cond_true, cond_false, B200_28, b2i_0]
      by_cases hw : inN w 4
      · obtain ⟨u, hu, rfl⟩ := inN_nI hw
        obtain ⟨ua, hua, rfl⟩ := inN_nI hat.1
        obtain ⟨ht1, ht2⟩ := tOf_ok hat
        rw [if_neg (not_not_intro hw), if_pos hw, m_o, obd_some, c_mMany D0 g1 (by omega), toNat_nI (by omega), toNat_nI (by omega)]
        simp only [obd_some, obd_none, Option.toList_some, Option.toList_none, List.cons_append, List.nil_append, cond_true, cond_false, B200_39, many_cmp g1]
        by_cases hM : many (zD S i)
        · rw [if_pos hM, if_pos hM]
          exact Mv.same R0 rfl
        · obtain ⟨F', A', e1, B1, f1, T1, I1⟩ := c_layBest (h := h) (m := m) (F := F) D0 g1 g2 g3 (by omega) hua ht2 hM
          rw [ht1] at e1
          rw [if_neg hM, if_neg hM, m_o, obd_some, e1]
          simp only [obd_some, obd_none, Option.toList_some, Option.toList_none, List.cons_append, List.nil_append, cond_true, cond_false, B200_56, x8_37, f1, vI_i]
          cases e : pkO (zD S i) ua (tOf t) with
          | none =>
            rw [if_pos (show cmI (Option.map (fun c : Nat × (Nat → Nat) => c.2 4) none) < 0 by decide), B200_75]
            exact ⟨F', A', rfl, R0.bs B1⟩
          | some c =>
            obtain ⟨T, E, ec⟩ := T1 c e
            have hc := pkO_lt hua e
            have hN := nR_le hM
            rw [if_neg (show ¬ cmI (Option.map (fun c : Nat × (Nat → Nat) => c.2 4) (some c)) < 0 from nI_nneg (show c.2 4 < 2147483648 by omega)), m_o, obd_some, c_outOf E.1 g1 (by omega) (Nat.zero_le 60) T (show u < 5 by omega)]
            simp only [obd_some, obd_none, Option.toList_some, Option.toList_none, List.cons_append, List.nil_append, cond_true, cond_false, B200_75]
            rw [rec4_out (by omega), ← ec]
            exact ⟨F', A', rfl, R0.bs B1⟩
      · rw [if_pos hw, if_neg hw, B200_31, B200_33]
        exact Mv.same R0 rfl
    · rw [if_pos hat, if_neg hat, B200_31, B200_33]
      exact Mv.same R0 rfl
  · rw [if_neg (show ¬ ¬ ¬ _ from fun z => z hv), if_neg hv]
    exact Mv.same R0 rfl
theorem M_row (R0 : MR S F A) (hS : stOk S) (v a t k p : Int32) : Mv m S h (mc 205 [.ref m, .int v, .int a, .int t, .int k, .int p] (hX 8 h m F A)) (.int (aRow S v a t k p)) := by
  have h3 := hS.1
  rw [M205, m_o, obd_some]
  unfold aRow
  by_cases hv : inN v (zn S)
  · obtain ⟨i, hi, rfl⟩ := inN_nI hv
    obtain ⟨g1, g2, g3, g4⟩ := hS.2.2.2.2.1 i hi
    have D0 := R0.2.1 i hi
    have h6 := g1.1
    have h4 := g1.2.1
    rw [c_noPiece R0 hS hi, if_pos hv, toNat_nI (by omega)]
    simp only [obd_some, obd_none, Option.toList_some, Option.toList_none, List.cons_append, List.nil_append, cond_true, cond_false, B205_7, b2i_0]
    by_cases hk : inN k (rP (zD S i))
    · obtain ⟨uk, huk, rfl⟩ := inN_nI hk
      rw [if_pos (not_not_intro hk), if_pos hk, m_o, obd_some, c_noPerson R0 hS hi, toNat_nI (by omega)]
      simp only [obd_some, obd_none, Option.toList_some, Option.toList_none, List.cons_append, List.nil_append, cond_true, cond_false, B205_17, b2i_0]
      by_cases hp : inN p (rE (zD S i))
      · obtain ⟨up, hup, rfl⟩ := inN_nI hp
        rw [if_pos (not_not_intro hp), if_pos hp, c_isAim, toNat_nI (by omega)]
        simp only [obd_some, obd_none, Option.toList_some, Option.toList_none, List.cons_append, List.nil_append, cond_true, cond_false, B205_27, b2i_0]
        by_cases hat : aimOk a t
        · obtain ⟨ua, hua, rfl⟩ := inN_nI hat.1
          obtain ⟨ht1, ht2⟩ := tOf_ok hat
          rw [if_neg (not_not_intro hat), if_pos hat, m_o, obd_some, c_mMany D0 g1 (by omega), toNat_nI (by omega)]
          simp only [obd_some, obd_none, Option.toList_some, Option.toList_none, List.cons_append, List.nil_append, cond_true, cond_false, B205_38, many_cmp g1]
          by_cases hM : many (zD S i)
          · rw [if_pos hM, if_pos hM]
            exact Mv.same R0 rfl
          · obtain ⟨F', A', e1, B1, f1, T1, I1⟩ := c_layBest (h := h) (m := m) (F := F) D0 g1 g2 g3 (by omega) hua ht2 hM
            rw [ht1] at e1
            rw [if_neg hM, if_neg hM, m_o, obd_some, e1]
            simp only [obd_some, obd_none, Option.toList_some, Option.toList_none, List.cons_append, List.nil_append, cond_true, cond_false, B205_55, x8_37, f1, vI_i]
            cases e : pkO (zD S i) ua (tOf t) with
            | none =>
              rw [if_pos (show cmI (Option.map (fun c : Nat × (Nat → Nat) => c.2 4) none) < 0 by decide), B205_76]
              exact ⟨F', A', rfl, R0.bs B1⟩
            | some c =>
              obtain ⟨T, E, ec⟩ := T1 c e
              have hc := pkO_lt hua e
              have hN := nR_le hM
              rw [if_neg (show ¬ cmI (Option.map (fun c : Nat × (Nat → Nat) => c.2 4) (some c)) < 0 from nI_nneg (show c.2 4 < 2147483648 by omega)), m_o, obd_some, c_actOf E huk hup]
              simp only [obd_some, obd_none, Option.toList_some, Option.toList_none, List.cons_append, List.nil_append, cond_true, cond_false, B205_76]
              unfold rowC; rw [if_pos hup]
              exact ⟨F', A', rfl, R0.bs B1⟩
        · rw [if_pos hat, if_neg hat]
          exact Mv.same R0 rfl
      · rw [if_neg (show ¬ ¬ ¬ _ from fun z => z hp), if_neg hp, B205_20, B205_21]
        exact Mv.same R0 rfl
    · rw [if_neg (show ¬ ¬ ¬ _ from fun z => z hk), if_neg hk, B205_20, B205_21]
      exact Mv.same R0 rfl
  · rw [if_neg hv, c_noPieceNo R0 hS hv]
    simp only [obd_some, obd_none, Option.toList_some, Option.toList_none, List.cons_append, List.nil_append, cond_true, cond_false, B205_7]
    rw [if_neg (show ¬ nI 1 = 0 by decide), B205_20, B205_21]
    exact Mv.same R0 rfl
/-- whatever the arrays hold, it tells a number -/
theorem l_outAny {i : Nat} {d : jRD} (D0 : MRd d i A) (hd : rdOk d) (hi : i < 3) {a b : Nat} (h35 : F 35 = .int (nI a)) (h36 : F 36 = .int (nI b)) (w : Int32) :
    ∀ n p o7 (x y z : Int32), p + n = rE d → ∃ r, R 2 194 13 [some (.ref m), some (.int (nI i)), some (.int w), some (.int x), some (.int y), some (.int z), some (.int (nI p)), o7] [] (hX 8 h m F A) = some (some (.int r), hX 8 h m F A) := by
  have h4 := hd.2.1
  have h6 := hd.1
  have cg : ∀ a b : Int32, ∃ r, mc 184 [.int a, .int b] (hX 8 h m F A) = some (some (.int r), hX 8 h m F A) := by
    intro a b
    rw [M184]
    split
    · exact ⟨_, rfl⟩
    · exact ⟨_, rfl⟩
  intro n
  induction n with
  | zero =>
    intro p o7 x y z hp
    obtain rfl : p = rE d := hp
    rw [B194_13, x8_3, obd_some, m_2 hi, obd_some, D0.2.1, if_neg (show ¬ nI (rE d) < nI (rE d) from Int32.lt_irrefl), x8_35, h35, vI_i, obd_some, x8_36, h36, vI_i, obd_some]
    simp only [B194_130]
    repeat' split
    all_goals exact ⟨_, rfl⟩
  | succ n ih =>
    intro p o7 x y z hpn
    have hp : p < rE d := by omega
    rw [B194_13, x8_3, obd_some, m_2 hi, obd_some, D0.2.1, if_pos (show nI p < nI (rE d) by rw [nJ_lt (by omega) (by omega)]; exact hp), x8_28, obd_some, x8_2, obd_some, m_1 hi, obd_some, D0.1, nI_mul, nJ_add, m_20 (by omega), obd_some, B194_46]
    obtain ⟨r1, e1⟩ := cg x (A 20 (7 * p + rP d))
    rw [e1]
    simp only [obd_some, obd_none, Option.toList_some, Option.toList_none, List.cons_append, List.nil_append, cond_true, cond_false, B194_49]
    have fin : ∀ o4 v, ∃ r, R 2 194 64 [some (.ref m), some (.int (nI i)), some (.int w), some (.int r1), o4, some (.int z), some (.int (nI p)), some (.int (A 20 (7 * p + rP d)))] [.int v] (hX 8 h m F A) = some (some (.int r), hX 8 h m F A) := by
      intro o4 v
      rw [B194_64, x8_30, obd_some, m_22 (by omega), obd_some]
      obtain ⟨r2, e2⟩ := cg z (A 22 p)
      rw [e2]
      simp only [obd_some, obd_none, Option.toList_some, Option.toList_none, List.cons_append, List.nil_append, cond_true, cond_false, B194_78, nJ_add]
      exact ih (p + 1) none _ _ _ (by omega)
    split
    · exact fin _ _
    · exact fin _ _
theorem c_outAny {i : Nat} {d : jRD} (D0 : MRd d i A) (hd : rdOk d) (hi : i < 3) {a b : Nat} (h35 : F 35 = .int (nI a)) (h36 : F 36 = .int (nI b)) (w : Int32) : ∃ r, mc 194 [.ref m, .int (nI i), .int w] (hX 8 h m F A) = some (some (.int r), hX 8 h m F A) := by
  rw [M194, B194_10]
  exact l_outAny D0 hd hi h35 h36 w (rE d) 0 none _ _ _ (Nat.zero_add _)
theorem pkO_both {d : jRD} (hd : rdOk d) (hP : 0 < rP d) : (pkO d 2 none = none) = (pkO d 0 none = none) := by
  have a := (pkO_bst hd hP (show 2 < 3 by omega) (t := none) (fun m q => by cases q)).1
  have b := (pkO_bst hd hP (show 0 < 3 by omega) (t := none) (fun m q => by cases q)).1
  cases e1 : pkO d 2 none with
  | none =>
    cases e2 : pkO d 0 none with
    | none => rfl
    | some c =>
      rw [e1] at a; rw [e2] at b
      exact absurd b.2.2.1 (a _ b.1 b.2.1)
  | some c =>
    cases e2 : pkO d 0 none with
    | none =>
      rw [e1] at a; rw [e2] at b
      exact absurd a.2.2.1 (b _ a.1 a.2.1)
    | some c2 => exact propext ⟨(fun z => by cases z), (fun z => by cases z)⟩
theorem M_cost (R0 : MR S F A) (hS : stOk S) (v : Int32) : Mv m S h (mc 206 [.ref m, .int v] (hX 8 h m F A)) (.int (aCost S v)) := by
  have h3 := hS.1
  rw [M206, m_o, obd_some, c_noRoad R0 hS]
  simp only [obd_some, obd_none, Option.toList_some, Option.toList_none, List.cons_append, List.nil_append, cond_true, cond_false, B206_5, b2i_0]
  unfold aCost
  by_cases hv : inN v (zn S)
  · obtain ⟨i, hi, rfl⟩ := inN_nI hv
    obtain ⟨g1, g2, g3, g4⟩ := hS.2.2.2.2.1 i hi
    have D0 := R0.2.1 i hi
    rw [if_pos (not_not_intro hv), if_pos hv, toNat_nI (by omega), m_o, obd_some, c_mMany D0 g1 (by omega)]
    simp only [obd_some, obd_none, Option.toList_some, Option.toList_none, List.cons_append, List.nil_append, cond_true, cond_false, B206_15, many_cmp g1]
    by_cases hM : many (zD S i)
    · rw [if_pos hM, if_pos hM]
      exact Mv.same R0 rfl
    · have hN := nR_le hM
      obtain ⟨F1, A1, e1, B1, f1, T1, a1, b1, I1, I2⟩ := c_layBest (h := h) (m := m) (F := F) D0 g1 g2 g3 (by omega) (show 2 < 3 by omega) (t := none) (fun m q => by cases q) hM
      have D1 : MRd (zD S i) i A1 := (R0.bs B1).2.1 i hi
      obtain ⟨F2, A2, e2, B2, f2, T2, a2, b2, I3, I4⟩ := c_layBest (h := h) (m := m) (F := F1) D1 g1 g2 g3 (by omega) (show 0 < 3 by omega) (t := none) (fun m q => by cases q) hM
      rw [show cmI none = -nI 9 from rfl] at e1 e2
      rw [if_neg hM, if_neg hM, m_o, obd_some, e1]
      simp only [obd_some, obd_none, Option.toList_some, Option.toList_none, List.cons_append, List.nil_append, cond_true, cond_false, B206_33, m_o]
      unfold costA
      cases ec : pkO (zD S i) 2 none with
      | none =>
        obtain ⟨r, er⟩ := c_outAny (h := h) (m := m) D1 g1 (by omega) I1 I2 (nI 0)
        rw [er]
        simp only [obd_some, obd_none, Option.toList_some, Option.toList_none, List.cons_append, List.nil_append, cond_true, cond_false, B206_39, m_o, e2, B206_48, x8_37, f2, vI_i]
        rw [show pkO (zD S i) 0 none = none from Eq.mp (pkO_both g1 g2) ec, if_pos (show cmI (Option.map (fun c : Nat × (Nat → Nat) => c.2 4) none) < 0 by decide)]
        exact ⟨F2, A2, rfl, R0.bs (B1.tr B2)⟩
      | some c =>
        obtain ⟨T, E, eq⟩ := T1 c ec
        rw [c_outOf E.1 g1 (by omega) (Nat.zero_le 60) T (show 0 < 5 by omega)]
        simp only [obd_some, obd_none, Option.toList_some, Option.toList_none, List.cons_append, List.nil_append, cond_true, cond_false, B206_39, m_o, e2, B206_48, x8_37, f2, vI_i]
        cases e0 : pkO (zD S i) 0 none with
        | none =>
          have := Eq.mpr (pkO_both g1 g2) e0
          rw [ec] at this; cases this
        | some c0 =>
          obtain ⟨T', E', eq'⟩ := T2 c0 e0
          have hc := pkO_lt (by omega) e0
          rw [if_neg (show ¬ cmI (Option.map (fun c : Nat × (Nat → Nat) => c.2 4) (some c0)) < 0 from nI_nneg (show c0.2 4 < 2147483648 by omega)), c_outOf E'.1 g1 (by omega) (Nat.zero_le 60) T' (show 0 < 5 by omega)]
          simp only [obd_some, obd_none, Option.toList_some, Option.toList_none, List.cons_append, List.nil_append, cond_true, cond_false, B206_67]
          rw [rec4_out (by omega), rec4_out (by omega), ← eq, ← eq']
          exact ⟨F2, A2, rfl, R0.bs (B1.tr B2)⟩
  · rw [if_neg (show ¬ ¬ ¬ _ from fun z => z hv), if_neg hv]
    exact Mv.same R0 rfl
/-! how few ties -/
theorem few_skip {d : jRD} {s n : Nat} {o : Option Nat} (h : fewP d s n o) (hs : rgt d n = true → ¬ rec4 d n 0 = s) : fewP d s (n + 1) o := by
  cases o with
  | none =>
    intro m h1 h2
    by_cases e : m = n
    · subst e; exact hs h2
    · exact h m (by omega) h2
  | some t =>
    obtain ⟨⟨m, a1, a2, a3, a4⟩, b⟩ := h
    refine ⟨⟨m, by omega, a2, a3, a4⟩, fun m h1 h2 h3 => ?_⟩
    by_cases e : m = n
    · subst e; exact absurd h3 (hs h2)
    · exact b m (by omega) h2 h3
theorem few_keep {d : jRD} {s n t : Nat} (h : fewP d s n (some t)) (hs : t ≤ rec4 d n 3) : fewP d s (n + 1) (some t) := by
  obtain ⟨⟨m, a1, a2, a3, a4⟩, b⟩ := h
  refine ⟨⟨m, by omega, a2, a3, a4⟩, fun m h1 h2 h3 => ?_⟩
  by_cases e : m = n
  · subst e; exact hs
  · exact b m (by omega) h2 h3
theorem few_take {d : jRD} {s n : Nat} {o : Option Nat} (h : fewP d s n o) (hr : rgt d n = true) (h0 : rec4 d n 0 = s) (hs : ∀ t, o = some t → rec4 d n 3 < t) : fewP d s (n + 1) (some (rec4 d n 3)) := by
  refine ⟨⟨n, Nat.lt_succ_self n, hr, h0, rfl⟩, fun m h1 h2 h3 => ?_⟩
  by_cases e : m = n
  · subst e; exact Nat.le_refl _
  · cases o with
    | none => exact absurd h3 (h m (by omega) h2)
    | some t =>
      have a := hs t rfl
      have b := h.2 m (by omega) h2 h3
      omega
theorem l_fewest {i : Nat} {d : jRD} {F0 : Nat → Value} {A0 : Nat → Nat → Int32} (D0 : MRd d i A0) (hd : rdOk d) (hP : 0 < rP d) (hE : 0 < rE d) (hi : i < 3) (hM : ¬ many d) {s : Nat} (hs : s < 1000000) :
    ∀ k n o F A o6, n + k = nRows d → Bs F0 A0 F A → fewP d s n o → (∀ t, o = some t → t ≤ 10) →
    ∃ F' A' o', R 6 207 64 [some (.ref m), some (.int (nI i)), some (.int (nI s)), some (.int (cmI o)), some (.int (nI (nRows d))), some (.int (nI n)), o6] [] (hX 8 h m F A) = some (some (.int (cmI o')), hX 8 h m F' A') ∧ Bs F0 A0 F' A' ∧ fewP d s (nRows d) o' := by
  have hN := nR_le hM
  intro k
  induction k with
  | zero =>
    intro n o F A o6 hn B L _
    obtain rfl : n = nRows d := hn
    rw [B207_64, if_neg (show ¬ nI (nRows d) < nI (nRows d) from Int32.lt_irrefl)]
    exact ⟨F, A, o, rfl, B, L⟩
  | succ k ih =>
    intro n o F A o6 hnk B L ho
    have hn : n < nRows d := by omega
    obtain ⟨A1, F2, A2, e1, e2, B2, f37, T, I2, E⟩ := c_try (h := h) (m := m) D0 hd hP hi (show n < 2147483648 by omega) B
    have h10 := rec4_le10 hd hP n
    rw [B207_64, if_pos (show nI n < nI (nRows d) by rw [nJ_lt (by omega) (by omega)]; exact hn), m_o, obd_some, e1]
    simp only [obd_some, obd_none, Option.toList_some, Option.toList_none, List.cons_append, List.nil_append, cond_true, cond_false, B207_78, m_o, e2, B207_85]
    simp only [wrOn_9 hd]
    by_cases hr : rgt d n = true
    · rw [if_pos (rgt_none ▸ hr)]
      have T := T hr
      have b2 := rec4_lt hd hE n (show 0 < 4 by omega)
      rw [c_outOf E.1 hd hi (Nat.zero_le 60) T (show 0 < 5 by omega), rec4_out (by omega)]
      simp only [obd_some, obd_none, Option.toList_some, Option.toList_none, List.cons_append, List.nil_append, cond_true, cond_false, B207_96]
      by_cases h0 : rec4 d n 0 = s
      · rw [if_pos (show nI (rec4 d n 0) = nI s by rw [h0]), B207_105, if_neg (show ¬ nI 1 = 0 by decide)]
        have e35 : F2 35 = .int (nI (rec4 d n 3)) := T.2.2.2.2.1
        have take : ∀ o3 o6, (∀ t, o = some t → rec4 d n 3 < t) → ∃ F' A' o', R 6 207 124 [some (.ref m), some (.int (nI i)), some (.int (nI s)), o3, some (.int (nI (nRows d))), some (.int (nI n)), o6] [] (hX 8 h m F2 A2) = some (some (.int (cmI o')), hX 8 h m F' A') ∧ Bs F0 A0 F' A' ∧ fewP d s (nRows d) o' := by
          intro o3 o6 hb
          rw [B207_124, x8_35, e35, vI_i, obd_some, nJ_add]
          exact ih (n + 1) (some (rec4 d n 3)) F2 A2 none (by omega) B2 (few_take L hr h0 hb) (fun t z => by cases z; exact h10)
        cases o with
        | none =>
          rw [if_pos (show cmI none < 0 by decide)]
          exact take _ _ (fun t z => by cases z)
        | some t =>
          have ht := ho t rfl
          rw [show cmI (some t) = nI t from rfl, if_neg (nI_nneg (by omega)), x8_35, e35, vI_i, obd_some]
          by_cases q : rec4 d n 3 < t
          · rw [if_pos (show nI (rec4 d n 3) < nI t by rw [nJ_lt (by omega) (by omega)]; exact q)]
            exact take _ _ (fun t' z => by cases z; exact q)
          · rw [if_neg (show ¬ nI (rec4 d n 3) < nI t by rw [nJ_lt (by omega) (by omega)]; exact q), nJ_add]
            exact ih (n + 1) (some t) F2 A2 none (by omega) B2 (few_keep L (by omega)) ho
      · rw [if_neg (show ¬ nI (rec4 d n 0) = nI s by rw [nI_inj (by omega) (by omega)]; exact h0), B207_105, if_pos (show nI 0 = 0 from rfl), nJ_add]
        exact ih (n + 1) o F2 A2 none (by omega) B2 (few_skip L (fun _ => h0)) ho
    · rw [if_neg (fun z => hr (rgt_none ▸ z)), B207_105, if_pos (show nI 0 = 0 from rfl), nJ_add]
      exact ih (n + 1) o F2 A2 none (by omega) B2 (few_skip L (fun z => absurd z hr)) ho
theorem M_fewest (R0 : MR S F A) (hS : stOk S) (v : Int32) : Mv m S h (mc 207 [.ref m, .int v] (hX 8 h m F A)) (.int (aFewest S v)) := by
  have h3 := hS.1
  rw [M207, m_o, obd_some, c_noRoad R0 hS]
  simp only [obd_some, obd_none, Option.toList_some, Option.toList_none, List.cons_append, List.nil_append, cond_true, cond_false, B207_5, b2i_0]
  unfold aFewest
  by_cases hv : inN v (zn S)
  · obtain ⟨i, hi, rfl⟩ := inN_nI hv
    obtain ⟨g1, g2, g3, g4⟩ := hS.2.2.2.2.1 i hi
    have D0 := R0.2.1 i hi
    rw [if_pos (not_not_intro hv), if_pos hv, toNat_nI (by omega), m_o, obd_some, c_mMany D0 g1 (by omega)]
    simp only [obd_some, obd_none, Option.toList_some, Option.toList_none, List.cons_append, List.nil_append, cond_true, cond_false, B207_15, many_cmp g1]
    by_cases hM : many (zD S i)
    · rw [if_pos hM, if_pos hM]
      exact Mv.same R0 rfl
    · have hN := nR_le hM
      obtain ⟨F1, A1, e1, B1, f1, T1, I1⟩ := c_layBest (h := h) (m := m) (F := F) D0 g1 g2 g3 (by omega) (show 0 < 3 by omega) (t := none) (fun m q => by cases q) hM
      have pb := (pkO_bst g1 g2 (show 0 < 3 by omega) (t := none) (fun m q => by cases q)).1
      have D1 : MRd (zD S i) i A1 := (R0.bs B1).2.1 i hi
      rw [show cmI none = -nI 9 from rfl] at e1
      rw [if_neg hM, if_neg hM, m_o, obd_some, e1]
      simp only [obd_some, obd_none, Option.toList_some, Option.toList_none, List.cons_append, List.nil_append, cond_true, cond_false, B207_33, m_o, x8_37, f1, vI_i]
      unfold fewO
      cases e0 : pkO (zD S i) 0 none with
      | none =>
        rw [if_pos (show cmI (Option.map (fun c : Nat × (Nat → Nat) => c.2 4) none) < 0 by decide)]
        exact ⟨F1, A1, rfl, R0.bs B1⟩
      | some c =>
        obtain ⟨T, E, eq⟩ := T1 c e0
        have hc := pkO_lt (by omega) e0
        have hlt := rec4_lt g1 g3 (c.2 4) (show 0 < 4 by omega)
        rw [if_neg (show ¬ cmI (Option.map (fun c : Nat × (Nat → Nat) => c.2 4) (some c)) < 0 from nI_nneg (show c.2 4 < 2147483648 by omega)), c_outOf E.1 g1 (by omega) (Nat.zero_le 60) T (show 0 < 5 by omega), rec4_out (by omega)]
        simp only [obd_some, obd_none, Option.toList_some, Option.toList_none, List.cons_append, List.nil_append, cond_true, cond_false, B207_49, m_o, c_mMany D1 g1 (show i < 3 by omega), B207_58, lN_i32]
        rw [pwl_eq (Nat.succ_pos _) _ hN]
        obtain ⟨F2, A2, o', e2, B2, L2⟩ := l_fewest (h := h) (m := m) D1 g1 g2 g3 (by omega) hM hlt (nRows (zD S i)) 0 none F1 A1 none (Nat.zero_add _) (Bs.id _ _) (fun m hm => absurd hm (Nat.not_lt_zero m)) (fun t z => by cases z)
        rw [e0] at pb
        have pb : bstP (zD S i) 0 (tMax none) (nRows (zD S i)) (some (c.2 4)) := pb
        have few := fwT_few g1 g2 (s := rec4 (zD S i) (c.2 4) 0) (fun m h1 h2 => by
          have q := pb.2.2.2 m h1 h2 (by have := rec4_le10 g1 g2 m; show _ ≤ 100; omega)
          rw [befB_f] at q; omega) 11 0 rfl (fun m _ _ _ => Nat.zero_le _)
        have eo := few_one L2 few
        refine ⟨F2, A2, ?_, R0.bs (B1.tr B2)⟩
        rw [show nI ((rB (zD S i) + 1) ^ (rP (zD S i) * rE (zD S i))) = nI (nRows (zD S i)) from rfl, show -nI 9 = cmI none from rfl, e2, eo]
        rw [← eq]
  · rw [if_neg (show ¬ ¬ ¬ _ from fun z => z hv), if_neg hv]
    exact Mv.same R0 rfl
theorem l_rows {i : Nat} {d : jRD} {F0 : Nat → Value} {A0 : Nat → Nat → Int32} (D0 : MRd d i A0) (hd : rdOk d) (hP : 0 < rP d) (hi : i < 3) (hM : ¬ many d) :
    ∀ k n F A, n + k = nRows d → Bs F0 A0 F A → ∃ F' A', R 5 208 37 [some (.ref m), some (.int (nI i)), some (.int (bR d n)), some (.int (nI (nRows d))), some (.int (nI n))] [] (hX 8 h m F A) = some (some (.int (bR d (nRows d))), hX 8 h m F' A') ∧ Bs F0 A0 F' A' := by
  have hN := nR_le hM
  intro k
  induction k with
  | zero =>
    intro n F A hn B
    obtain rfl : n = nRows d := hn
    rw [B208_37, if_neg (show ¬ nI (nRows d) < nI (nRows d) from Int32.lt_irrefl)]
    exact ⟨F, A, rfl, B⟩
  | succ k ih =>
    intro n F A hnk B
    have hn : n < nRows d := by omega
    obtain ⟨A1, F2, A2, e1, e2, B2, f37, T, I2, E⟩ := c_try (h := h) (m := m) D0 hd hP hi (show n < 2147483648 by omega) B
    rw [B208_37, if_pos (show nI n < nI (nRows d) by rw [nJ_lt (by omega) (by omega)]; exact hn), m_o, obd_some, e1]
    simp only [obd_some, obd_none, Option.toList_some, Option.toList_none, List.cons_append, List.nil_append, cond_true, cond_false, B208_50, m_o, e2, B208_58]
    simp only [wrOn_9 hd, nJ_add]
    have e := ih (n + 1) F2 A2 (by omega) B2
    unfold bR at e ⊢
    rw [acc] at e
    by_cases hr : rgt d n = true
    · rw [if_pos (rgt_none ▸ hr), nJ_add]
      rw [if_pos hr] at e
      exact e
    · rw [if_neg (fun z => hr (rgt_none ▸ z)), nJ_add, Nat.add_zero]
      rw [if_neg hr] at e
      exact e
theorem M_rows (R0 : MR S F A) (hS : stOk S) (v : Int32) : Mv m S h (mc 208 [.ref m, .int v] (hX 8 h m F A)) (.int (aRows S v)) := by
  have h3 := hS.1
  rw [M208, m_o, obd_some, c_noRoad R0 hS]
  simp only [obd_some, obd_none, Option.toList_some, Option.toList_none, List.cons_append, List.nil_append, cond_true, cond_false, B208_5, b2i_0]
  unfold aRows
  by_cases hv : inN v (zn S)
  · obtain ⟨i, hi, rfl⟩ := inN_nI hv
    obtain ⟨g1, g2, g3, g4⟩ := hS.2.2.2.2.1 i hi
    have D0 := R0.2.1 i hi
    rw [if_pos (not_not_intro hv), if_pos hv, toNat_nI (by omega), m_o, obd_some, c_mMany D0 g1 (by omega)]
    simp only [obd_some, obd_none, Option.toList_some, Option.toList_none, List.cons_append, List.nil_append, cond_true, cond_false, B208_15, many_cmp g1]
    by_cases hM : many (zD S i)
    · rw [if_pos hM, if_pos hM]
      exact Mv.same R0 rfl
    · have hN := nR_le hM
      rw [if_neg hM, if_neg hM, m_o, obd_some, c_mMany D0 g1 (by omega)]
      simp only [obd_some, obd_none, Option.toList_some, Option.toList_none, List.cons_append, List.nil_append, cond_true, cond_false, B208_32, lN_i32]
      rw [pwl_eq (Nat.succ_pos _) _ hN]
      obtain ⟨F2, A2, e2, B2⟩ := l_rows (h := h) (m := m) D0 g1 g2 (by omega) hM (nRows (zD S i)) 0 F A (Nat.zero_add _) (Bs.id _ _)
      exact ⟨F2, A2, e2, R0.bs B2⟩
  · rw [if_neg (show ¬ ¬ ¬ _ from fun z => z hv), if_neg hv]
    exact Mv.same R0 rfl
end MBest3
