/-! The reference reads the pieces, the people and the beasts. -/
theorem sNumA_eq {c : Int32} {lo hi : Nat} (h : hi ≤ 9) : (dgt c 48 57 ∧ lo ≤ dv c ∧ dv c ≤ hi) = dgt c (48 + lo) (48 + hi) := by
  unfold dgt dv
  exact propext ⟨fun z => by omega, fun z => by omega⟩
theorem dgt_59 {c : Int32} (h : c = nI 59) : ¬ dgt c 49 57 := by
  rw [h]; intro z; have := z.2; rw [toInt_nI (by omega)] at this; omega
section MRead3
variable {h : jHp} {m s n : Nat} {cd : Nat → Int32}
def PcR (h : jHp) (m n k : Nat) (cd : Nat → Int32) (q : Nat ⊕ (List (Nat × Nat) × Nat)) (F : Nat → Value) (A : Nat → Nat → Int32) (r : jRs) : Prop :=
  ∃ F' A' ok, r = some (some (.int (nI ok)), hX 8 h m F' A') ∧ (∀ j, j < 11 ∨ 13 < j → F' j = F j) ∧ (∀ a c, ¬ (a = 10 ∨ a = 11) → A' a c = A a c) ∧ (∀ c, c < k → A' 10 c = A 10 c ∧ A' 11 c = A 11 c) ∧ (ok = 0 ∨ ok = 1) ∧
  match q with
  | .inl f => ok = 0 ∧ F' 11 = .int (nI f)
  | .inr w => F' 11 = .int (nI w.2) ∧ w.2 ≤ n ∧ (ok = 0 → ¬ cd w.2 = nI 59) ∧ (ok = 1 → F' 13 = .int (nI (k + w.1.length)) ∧ ∀ j, j < w.1.length → A' 10 (k + j) = nI (w.1.getD j (0, 0)).1 ∧ A' 11 (k + j) = nI (w.1.getD j (0, 0)).2)
theorem pc_ret {F : Nat → Value} {A : Nat → Nat → Int32} (x : Int32) (hx : bl x = true) : cond (bl x) (some (some (Value.int x), hX 8 h m F A)) none = some (some (.int x), hX 8 h m F A) := by
  rw [hx]; rfl
theorem pc_93 {F : Nat → Value} {A : Nat → Nat → Int32} {k v : Nat} (hk : k < 6) (h13 : F 13 = .int (nI k)) (h12 : F 12 = .int (nI v)) (o3 : Option Value) {ok : Nat} (hok : ok = 0 ∨ ok = 1) : R 3 151 93 [some (.ref m), some (.int (nI s)), some (.int (nI n)), o3] [.int (nI ok)] (hX 8 h m F A) = R 3 151 9 [some (.ref m), some (.int (nI s)), some (.int (nI n)), some (.int (nI ok))] [] (hX 8 h m (updV F 13 (.int (nI (k + ok)))) (uA A 11 k (nI v))) := by
  rw [B151_93, x8_17, obd_some]
  simp only [x8_13, h13, vI_i, obd_some, obd_none, Option.toList_some, Option.toList_none, List.cons_append, List.nil_append, cond_true, cond_false, x8_12, h12]
  rw [mw_11 hk, obd_some]
  simp only [x8_13, h13, vI_i, obd_some, obd_none, Option.toList_some, Option.toList_none, List.cons_append, List.nil_append, cond_true, cond_false, p8_13, nJ_add]
  rcases hok with rfl | rfl
  · rw [if_pos (show nI 0 = 0 from rfl)]
  · rw [if_neg (show ¬ nI 1 = 0 by decide)]
theorem l_pcs : ∀ r k t F A, k + r = 6 → MTx cd s n A → F 11 = .int (nI t) → t ≤ n → F 13 = .int (nI k) →
    PcR h m n k cd (sPieces cd r (k == 0) t) F A (R 3 151 9 [some (.ref m), some (.int (nI s)), some (.int (nI n)), some (.int (nI 1))] [] (hX 8 h m F A)) := by
  intro r
  induction r with
  | zero =>
    intro k t F A hk T h11 htn h13
    obtain rfl : k = 6 := hk
    refine ⟨F, A, 1, ?_, fun _ _ => rfl, fun _ _ _ => rfl, fun _ _ => ⟨rfl, rfl⟩, Or.inr rfl, h11, htn, fun z => (by cases z), fun _ => ⟨h13, fun j hj => absurd hj (Nat.not_lt_zero j)⟩⟩
    rw [B151_9, if_neg (show ¬ nI 1 = 0 by decide)]
    simp only [x8_13, h13, vI_i, obd_some, obd_none, Option.toList_some, Option.toList_none, List.cons_append, List.nil_append, cond_true, cond_false]
    rw [if_neg (show ¬ nI 6 = 0 by decide), if_neg (show ¬ nI 6 < nI 6 from Int32.lt_irrefl)]
    exact pc_ret _ (by decide)
  | succ r ih =>
    intro k t F A hkr T h11 htn h13
    have hk : k < 6 := by omega
    have hn := T.1
    -- a return that tells of no more pieces
    have stop : ¬ dgt (cd t) 49 57 → ¬ k = 0 → PcR h m n k cd (sPieces cd (r + 1) (k == 0) t) F A (some (some (.int (nI 1)), hX 8 h m F A)) := by
      intro c k0
      rw [sPieces, show (k == 0) = false from beq_eq_false_iff_ne.mpr k0, if_neg (fun z => z.elim (fun y => by cases y) c)]
      exact ⟨F, A, 1, rfl, fun _ _ => rfl, fun _ _ _ => rfl, fun _ _ => ⟨rfl, rfl⟩, Or.inr rfl, h11, htn, fun z => (by cases z), fun _ => ⟨h13, fun j hj => absurd hj (Nat.not_lt_zero j)⟩⟩
    have at48 : ∀ o3, (k = 0 ∨ ¬ cd t = nI 59) → PcR h m n k cd (sPieces cd (r + 1) (k == 0) t) F A (R 3 151 48 [some (.ref m), some (.int (nI s)), some (.int (nI n)), o3] [] (hX 8 h m F A)) := by
      intro o3 hc
      obtain ⟨F1, v1, r1, r2, r3, r4, r5⟩ := c_num1 (h := h) (m := m) (lo := 1) (hi := 9) T h11 (by omega) (by omega) (by omega)
      have f13 : F1 13 = .int (nI k) := (r5 13 (by decide) (by decide)).trans h13
      have T1 : MTx cd s n (uA A 10 k (nI v1)) := T.of (by funext c; rw [uA_n (by omega)])
      rw [B151_48, m_o, obd_some, r1]
      simp only [obd_some, obd_none, Option.toList_some, Option.toList_none, List.cons_append, List.nil_append, cond_true, cond_false, B151_58, x8_16, x8_13, x8_12, f13, r3, vI_i]
      rw [mw_10 hk, obd_some]
      have eA := sNumA_eq (c := cd t) (lo := 1) (hi := 9) (by omega)
      by_cases c1 : dgt (cd t) 49 57
      · have e1 : sNumA cd t 1 9 = .inr (dv (cd t), t + 1) := by unfold sNumA; rw [if_pos (Eq.mpr eA c1)]
        have tlt := T.dlt (by omega) c1
        rw [e1] at r2 ⊢
        have ev := r4 _ e1
        dsimp only at ev
        subst ev
        obtain ⟨F2, v2, q1, q2, q3, q4, q5⟩ := c_num1 (h := h) (m := m) (lo := 0) (hi := 2) T1 r2 (by show t + 1 < 900; omega) (by omega) (by omega)
        have g13 : F2 13 = .int (nI k) := (q5 13 (by decide) (by decide)).trans f13
        have q1 : mc 154 [.ref m, .int (nI s), .int (nI n), .int (nI 1), .int (nI 0), .int (nI 2)] (hX 8 h m F1 (uA A 10 k (nI (dv (cd t))))) = some (some (.int (nI (rnO (sNumA cd (t + 1) 0 2)))), hX 8 h m F2 (uA A 10 k (nI (dv (cd t))))) := q1
        have q2 : F2 11 = .int (nI (rnT (sNumA cd (t + 1) 0 2))) := q2
        have hFk : ∀ j, j < 11 ∨ 13 < j → F2 j = F j := fun j hj => (q5 j (by omega) (by omega)).trans (r5 j (by omega) (by omega))
        rw [show rnO (Sum.inr (dv (cd t), t + 1) : Nat ⊕ (Nat × Nat)) = 1 from rfl, if_neg (show ¬ nI 1 = 0 by decide), m_o, obd_some, q1]
        simp only [obd_some, obd_none, Option.toList_some, Option.toList_none, List.cons_append, List.nil_append, cond_true, cond_false, B151_85]
        rw [sPieces, if_pos (Or.inr c1)]
        unfold sPiece
        rw [if_pos c1]
        have eA2 := sNumA_eq (c := cd (t + 1)) (lo := 0) (hi := 2) (by omega)
        by_cases c2 : dgt (cd (t + 1)) 48 50
        · have e2 : sNumA cd (t + 1) 0 2 = .inr (dv (cd (t + 1)), t + 1 + 1) := by unfold sNumA; rw [if_pos (Eq.mpr eA2 c2)]
          have tlt2 := T.dlt (by omega) c2
          rw [e2] at q2 ⊢
          have ev2 := q4 _ e2
          dsimp only at ev2
          subst ev2
          rw [if_pos c2, show rnO (Sum.inr (dv (cd (t + 1)), t + 1 + 1) : Nat ⊕ (Nat × Nat)) = 1 from rfl, if_neg (show ¬ nI 1 = 0 by decide), pc_93 hk g13 q3 _ (Or.inr rfl)]
          have T2 : MTx cd s n (uA (uA A 10 k (nI (dv (cd t)))) 11 k (nI (dv (cd (t + 1))))) := T1.of (by funext c; rw [uA_n (by omega)])
          obtain ⟨F3, A3, ok, k1, k2, k3, k4, k5, k6⟩ := ih (k + 1) (t + 2) (updV F2 13 (.int (nI (k + 1)))) _ (by omega) T2 ((updV_n (by decide)).trans q2) (by omega) (updV_s _ _ _)
          rw [show (k + 1 == 0) = false from rfl] at k6
          have gF : ∀ j, j < 11 ∨ 13 < j → F3 j = F j := fun j hj => (k2 j hj).trans ((updV_n (by omega)).trans (hFk j hj))
          have gA : ∀ a c, ¬ (a = 10 ∨ a = 11) → A3 a c = A a c := fun a c z => by rw [k3 a c z, uA_n (by omega), uA_n (by omega)]
          have gC : ∀ c, c < k → A3 10 c = A 10 c ∧ A3 11 c = A 11 c := fun c hc => by
            obtain ⟨y1, y2⟩ := k4 c (by omega)
            rw [y1, y2, uA_n (by omega), uA_n (by omega), uA_n (by omega), uA_n (by omega)]; exact ⟨rfl, rfl⟩
          refine ⟨F3, A3, ok, k1, gF, gA, gC, k5, ?_⟩
          dsimp only
          cases ez : sPieces cd r false (t + 2) with
          | inl f => rw [ez] at k6; exact k6
          | inr z =>
            rw [ez] at k6
            obtain ⟨y1, y2, y3, y4⟩ := k6
            refine ⟨y1, y2, y3, fun ho => ?_⟩
            obtain ⟨y5, y6⟩ := y4 ho
            refine ⟨by rw [y5, List.length_cons, show k + 1 + z.1.length = k + (z.1.length + 1) by omega], fun j hj => ?_⟩
            cases j with
            | zero =>
              obtain ⟨w1, w2⟩ := k4 k (by omega)
              rw [Nat.add_zero, w1, w2, uA_n (by omega), uA_s, uA_s]
              exact ⟨rfl, rfl⟩
            | succ j =>
              have := y6 j (by rw [List.length_cons] at hj; omega)
              rw [show k + (j + 1) = k + 1 + j by omega]
              exact this
        · have e2 : sNumA cd (t + 1) 0 2 = .inl (t + 1) := by unfold sNumA; rw [if_neg (fun z => c2 (Eq.mp eA2 z))]
          rw [e2] at q2 ⊢
          rw [if_neg c2, show rnO (Sum.inl (t + 1) : Nat ⊕ (Nat × Nat)) = 0 from rfl, if_pos (show nI 0 = 0 from rfl), pc_93 hk g13 q3 _ (Or.inl rfl), B151_9, if_pos (show nI 0 = 0 from rfl)]
          refine ⟨_, _, 0, pc_ret _ (by decide), fun j hj => (updV_n (by omega)).trans (hFk j hj), fun a c z => by rw [uA_n (by omega), uA_n (by omega)], fun c hc => ?_, Or.inl rfl, rfl, (updV_n (by decide)).trans q2⟩
          rw [uA_n (by omega), uA_n (by omega), uA_n (by omega), uA_n (by omega)]; exact ⟨rfl, rfl⟩
      · have e1 : sNumA cd t 1 9 = .inl t := by unfold sNumA; rw [if_neg (fun z => c1 (Eq.mp eA z))]
        rw [e1] at r2 ⊢
        have f12 : F1 12 = .int (nI v1) := r3
        rw [show rnO (Sum.inl t : Nat ⊕ (Nat × Nat)) = 0 from rfl, if_pos (show nI 0 = 0 from rfl), pc_93 hk f13 f12 _ (Or.inl rfl), B151_9, if_pos (show nI 0 = 0 from rfl)]
        refine ⟨_, _, 0, pc_ret _ (by decide), fun j hj => (updV_n (by omega)).trans (r5 j (by omega) (by omega)), fun a c z => by rw [uA_n (by omega), uA_n (by omega)], fun c hc => ?_, Or.inl rfl, ?_⟩
        · rw [uA_n (by omega), uA_n (by omega), uA_n (by omega), uA_n (by omega)]; exact ⟨rfl, rfl⟩
        · rw [sPieces]
          by_cases k0 : k = 0
          · rw [if_pos (Or.inl (show (k == 0) = true by rw [k0]; rfl))]
            unfold sPiece
            rw [if_neg c1]
            exact ⟨rfl, (updV_n (by decide)).trans r2⟩
          · rw [show (k == 0) = false from beq_eq_false_iff_ne.mpr k0, if_neg (fun z => z.elim (fun y => by cases y) c1)]
            exact ⟨(updV_n (by decide)).trans r2, htn, fun _ => hc.resolve_left k0, fun z => (by cases z)⟩
    rw [B151_9, if_neg (show ¬ nI 1 = 0 by decide)]
    simp only [x8_13, h13, vI_i, obd_some, obd_none, Option.toList_some, Option.toList_none, List.cons_append, List.nil_append, cond_true, cond_false, x8_11, h11, m_o]
    by_cases k0 : k = 0
    · rw [if_pos (show nI k = 0 by rw [k0]; rfl)]
      exact at48 _ (Or.inl k0)
    · rw [if_neg (show ¬ nI k = 0 by rw [nI_eq0 (by omega)]; exact k0), if_pos (show nI k < nI 6 by rw [nJ_lt (by omega) (by omega)]; exact hk)]
      by_cases c1 : t < n
      · rw [if_pos (show nI t < nI n by rw [nJ_lt (by omega) (by omega)]; exact c1), c_isNext T h11 (by omega) (by omega)]
        simp only [obd_some, obd_none, Option.toList_some, Option.toList_none, List.cons_append, List.nil_append, cond_true, cond_false, B151_45, b2i_0]
        by_cases c2 : cd t = nI 59
        · rw [if_neg (not_not_intro c2), pc_ret _ (by decide)]
          exact stop (dgt_59 c2) k0
        · rw [if_pos c2]
          exact at48 _ (Or.inr c2)
      · rw [if_neg (show ¬ nI t < nI n by rw [nJ_lt (by omega) (by omega)]; exact c1), pc_ret _ (by decide)]
        exact stop (fun z => c1 (T.dlt (by omega) z)) k0
def FkR (h : jHp) (m e b : Nat) (q : Nat ⊕ (List (List Nat) × List (List Nat))) (F : Nat → Value) (A : Nat → Nat → Int32) (r : jRs) : Prop :=
  ∃ F' A', (∀ j, j < 11 ∨ j = 13 ∨ 15 < j → F' j = F j) ∧ (∀ a c, ¬ (a = 12 ∨ a = 13) → A' a c = A a c) ∧ (∀ c, (c < 4 * e → A' 12 c = A 12 c) ∧ (c < 6 * b → A' 13 c = A 13 c)) ∧
  match q with
  | .inl f => r = some (some (.int (nI 0)), hX 8 h m F' A') ∧ F' 11 = .int (nI f)
  | .inr w => r = some (some (.int (nI 1)), hX 8 h m F' A') ∧ F' 14 = .int (nI (e + w.1.length)) ∧ F' 15 = .int (nI (b + w.2.length)) ∧ (∀ u, u < w.1.length → ∀ j, j < 4 → A' 12 (4 * (e + u) + j) = nI ((w.1.getD u []).getD j 0)) ∧ ∀ u, u < w.2.length → ∀ j, j < 6 → A' 13 (6 * (b + u) + j) = nI ((w.2.getD u []).getD j 0)
theorem l_mfolk : ∀ f e b t F A, e + b + f = 7 → e ≤ 4 → b ≤ 2 → MTx cd s n A → F 11 = .int (nI t) → t ≤ n → F 14 = .int (nI e) → F 15 = .int (nI b) →
    FkR h m e b (sFolk cd n f e b t) F A (R 4 150 31 [some (.ref m), some (.int (nI s)), some (.int (nI n))] [] (hX 8 h m F A)) := by
  intro f
  induction f with
  | zero => intro e b t F A hf he hb; omega
  | succ f ih =>
    intro e b t F A hf he hb T h11 htn h14 h15
    have hn := T.1
    have bad : ∀ F1 t1, F1 11 = .int (nI t1) → (∀ j, j ≠ 11 → F1 j = F j) → FkR h m e b (.inl t1) F A (some (some (.int (nI 0)), hX 8 h m F1 A)) := fun F1 t1 z1 z2 => ⟨F1, A, fun j hj => z2 j (by omega), fun _ _ _ => rfl, fun _ => ⟨fun _ => rfl, fun _ => rfl⟩, rfl, z1⟩
    rw [sFolk]
    -- behind the semicolon
    have at54 : ¬ (n ≤ t ∧ 0 < e) → FkR h m e b (if ¬ cd t = nI 59 then .inl t
      else if cd (t + 1) = nI 112 ∧ e < 4 ∧ b = 0 then match sNums cd bndP true (t + 2) with
        | .inl f => .inl f
        | .inr w => match sFolk cd n f (e + 1) b w.2 with
          | .inl f => .inl f
          | .inr z => .inr (w.1 :: z.1, z.2)
      else if cd (t + 1) = nI 98 ∧ 0 < e ∧ b < 2 then match sNums cd bndB true (t + 2) with
        | .inl f => .inl f
        | .inr w => match sFolk cd n f e (b + 1) w.2 with
          | .inl f => .inl f
          | .inr z => .inr (z.1, w.1 :: z.2)
      else .inl (t + 1)) F A (obd none (mc 152 [.ref m, .int (nI 59), .int (nI s), .int (nI n)] (hX 8 h m F A)) fun x2 => R 4 150 54 [some (.ref m), some (.int (nI s)), some (.int (nI n))] (x2.1.toList ++ []) x2.2) := by
      intro _
      rw [c_takes T h11 (by omega) (by omega)]
      by_cases c : cd t = nI 59
      · have tlt := T.lt (by omega) c
        rw [if_pos c, if_neg (not_not_intro c)]
        have hF1 : ∀ j, j ≠ 11 → updV F 11 (.int (nI (t + 1))) j = F j := fun j hj => updV_n hj
        generalize hF : updV F 11 (.int (nI (t + 1))) = F1 at hF1
        have g11 : F1 11 = .int (nI (t + 1)) := by rw [← hF]; exact updV_s _ _ _
        have g14 : F1 14 = .int (nI e) := (hF1 14 (by decide)).trans h14
        have g15 : F1 15 = .int (nI b) := (hF1 15 (by decide)).trans h15
        simp only [obd_some, obd_none, Option.toList_some, Option.toList_none, List.cons_append, List.nil_append, cond_true, cond_false, B150_54]
        rw [if_neg (show ¬ nI 1 = 0 by decide)]
        simp only [x8_14, g14, vI_i, obd_some, obd_none, Option.toList_some, Option.toList_none, List.cons_append, List.nil_append, cond_true, cond_false, x8_15, g15, m_o]
        -- a beast, or nothing
        have at110 : ¬ (cd (t + 1) = nI 112 ∧ e < 4 ∧ b = 0) → FkR h m e b (if cd (t + 1) = nI 112 ∧ e < 4 ∧ b = 0 then match sNums cd bndP true (t + 2) with
            | .inl f => .inl f
            | .inr w => match sFolk cd n f (e + 1) b w.2 with
              | .inl f => .inl f
              | .inr z => .inr (w.1 :: z.1, z.2)
          else if cd (t + 1) = nI 98 ∧ 0 < e ∧ b < 2 then match sNums cd bndB true (t + 2) with
            | .inl f => .inl f
            | .inr w => match sFolk cd n f e (b + 1) w.2 with
              | .inl f => .inl f
              | .inr z => .inr (z.1, w.1 :: z.2)
          else .inl (t + 1)) F A (R 4 150 110 [some (.ref m), some (.int (nI s)), some (.int (nI n))] [] (hX 8 h m F1 A)) := by
          intro hnp
          rw [if_neg hnp, B150_110]
          simp only [x8_14, g14, vI_i, obd_some, obd_none, Option.toList_some, Option.toList_none, List.cons_append, List.nil_append, cond_true, cond_false, x8_15, g15, m_o]
          by_cases e0 : e = 0
          · rw [if_pos (show nI e = 0 by rw [e0]; rfl), if_neg (fun z => by omega)]
            exact bad F1 _ g11 hF1
          · rw [if_neg (show ¬ nI e = 0 by rw [nI_eq0 (by omega)]; exact e0)]
            by_cases b2 : b = 2
            · rw [if_pos (show nI b = nI 2 by rw [b2]), if_neg (fun z => by omega)]
              exact bad F1 _ g11 hF1
            · rw [if_neg (show ¬ nI b = nI 2 by rw [nI_inj (by omega) (by omega)]; exact b2), c_takes T g11 (by omega) (by omega)]
              by_cases cb : cd (t + 1) = nI 98
              · have tlt2 := T.lt (by omega) cb
                rw [if_pos cb, if_pos ⟨cb, by omega, by omega⟩]
                have hF2 : ∀ j, j ≠ 11 → updV F1 11 (.int (nI (t + 1 + 1))) j = F j := fun j hj => (updV_n hj).trans (hF1 j hj)
                generalize hFF : updV F1 11 (.int (nI (t + 1 + 1))) = F2 at hF2
                have k11 : F2 11 = .int (nI (t + 2)) := by rw [← hFF]; exact updV_s _ _ _
                simp only [obd_some, obd_none, Option.toList_some, Option.toList_none, List.cons_append, List.nil_append, cond_true, cond_false, B150_133]
                rw [if_neg (show ¬ nI 1 = 0 by decide), m_o, obd_some]
                obtain ⟨F3, A3, n1, n2, n3, n4, n5⟩ := c_nums (h := h) (m := m) (cd := cd) (s := s) (n := n) true (i := b) (show b < 2 by omega) T k11 (by omega) ((hF2 15 (by decide)).trans h15)
                have n1 : mc 155 [.ref m, .int (nI s), .int (nI n), .int (nI 1)] (hX 8 h m F2 A) = some (some (.int (nI (rnO (sNums cd bndB true (t + 2))))), hX 8 h m F3 A3) := n1
                rw [n1]
                simp only [obd_some, obd_none, Option.toList_some, Option.toList_none, List.cons_append, List.nil_append, cond_true, cond_false, B150_143]
                have n2 : F3 11 = .int (nI (rnT (sNums cd bndB true (t + 2)))) := n2
                have n4 : ∀ w, sNums cd bndB true (t + 2) = .inr w → w.2 ≤ n ∧ ∀ j, j < w.1.length → A3 13 (6 * b + 0 + j) = nI (w.1.getD j 0) := n4
                have n5 : ∀ a c, ¬ (a = 13 ∧ 6 * b + 0 ≤ c ∧ c < 6 * b + 6) → A3 a c = A a c := n5
                cases eq : sNums cd bndB true (t + 2) with
                | inl f1 =>
                  rw [eq] at n2
                  rw [show rnO (Sum.inl f1 : Nat ⊕ (List Nat × Nat)) = 0 from rfl, if_pos (show nI 0 = 0 from rfl)]
                  exact ⟨F3, A3, fun j hj => (n3 j (by omega) (by omega)).trans (hF2 j (by omega)), fun a c z => n5 a c (by omega), fun c => ⟨fun _ => n5 _ _ (by omega), fun _ => n5 _ _ (by omega)⟩, rfl, n2⟩
                | inr w =>
                  rw [eq] at n2
                  obtain ⟨w1, w2⟩ := n4 w eq
                  have wl := sNums_len _ _ _ w eq
                  have p15 : F3 15 = .int (nI b) := (n3 15 (by decide) (by decide)).trans ((hF2 15 (by decide)).trans h15)
                  have p14 : F3 14 = .int (nI e) := (n3 14 (by decide) (by decide)).trans ((hF2 14 (by decide)).trans h14)
                  rw [show rnO (Sum.inr w : Nat ⊕ (List Nat × Nat)) = 1 from rfl, if_neg (show ¬ nI 1 = 0 by decide), x8_15, p15, vI_i, obd_some, p8_15, obd_some, nJ_add]
                  obtain ⟨F4, A4, r1, r2, r3, r4⟩ := ih e (b + 1) w.2 (updV F3 15 (.int (nI (b + 1)))) A3 (by omega) he (by omega) (T.of (by funext c; exact n5 _ _ (by omega))) ((updV_n (by decide)).trans n2) w1 ((updV_n (by decide)).trans p14) (updV_s _ _ _)
                  have gF : ∀ j, j < 11 ∨ j = 13 ∨ 15 < j → F4 j = F j := fun j hj => (r1 j hj).trans ((updV_n (by omega)).trans ((n3 j (by omega) (by omega)).trans (hF2 j (by omega))))
                  have gA : ∀ a c, ¬ (a = 12 ∨ a = 13) → A4 a c = A a c := fun a c z => (r2 a c z).trans (n5 a c (by omega))
                  have gC : ∀ c, (c < 4 * e → A4 12 c = A 12 c) ∧ (c < 6 * b → A4 13 c = A 13 c) := fun c => ⟨fun z => ((r3 c).1 z).trans (n5 _ _ (by omega)), fun z => ((r3 c).2 (by omega)).trans (n5 _ _ (by omega))⟩
                  refine ⟨F4, A4, gF, gA, gC, ?_⟩
                  dsimp only
                  cases ez : sFolk cd n f e (b + 1) w.2 with
                  | inl f1 => rw [ez] at r4; exact r4
                  | inr z =>
                    rw [ez] at r4
                    obtain ⟨y1, y2, y3, y4, y5⟩ := r4
                    refine ⟨y1, y2, by rw [y3, List.length_cons, show b + 1 + z.2.length = b + (z.2.length + 1) by omega], y4, fun u hu j hj => ?_⟩
                    cases u with
                    | zero =>
                      have := w2 j (by rw [wl]; exact hj)
                      rw [Nat.add_zero, (r3 _).2 (by omega)]
                      exact this
                    | succ u =>
                      have := y5 u (by rw [List.length_cons] at hu; omega) j hj
                      rw [show b + (u + 1) = b + 1 + u by omega]
                      exact this
              · rw [if_neg cb, if_neg (fun z => cb z.1)]
                simp only [obd_some, obd_none, Option.toList_some, Option.toList_none, List.cons_append, List.nil_append, cond_true, cond_false, B150_133]
                rw [if_pos (show nI 0 = 0 from rfl)]
                exact bad F1 _ g11 hF1
        by_cases e4 : e < 4
        · rw [if_pos (show nI e < nI 4 by rw [nJ_lt (by omega) (by omega)]; exact e4)]
          by_cases b0 : b = 0
          · rw [if_pos (show nI b = 0 by rw [b0]; rfl), c_takes T g11 (by omega) (by omega)]
            by_cases cp : cd (t + 1) = nI 112
            · have tlt2 := T.lt (by omega) cp
              rw [if_pos cp, if_pos ⟨cp, e4, b0⟩]
              have hF2 : ∀ j, j ≠ 11 → updV F1 11 (.int (nI (t + 1 + 1))) j = F j := fun j hj => (updV_n hj).trans (hF1 j hj)
              generalize hFF : updV F1 11 (.int (nI (t + 1 + 1))) = F2 at hF2
              have k11 : F2 11 = .int (nI (t + 2)) := by rw [← hFF]; exact updV_s _ _ _
              simp only [obd_some, obd_none, Option.toList_some, Option.toList_none, List.cons_append, List.nil_append, cond_true, cond_false, B150_82]
              rw [if_neg (show ¬ nI 1 = 0 by decide), m_o, obd_some]
              obtain ⟨F3, A3, n1, n2, n3, n4, n5⟩ := c_nums (h := h) (m := m) (cd := cd) (s := s) (n := n) false (i := e) (show e < 4 by omega) T k11 (by omega) ((hF2 14 (by decide)).trans h14)
              have n1 : mc 155 [.ref m, .int (nI s), .int (nI n), .int (nI 0)] (hX 8 h m F2 A) = some (some (.int (nI (rnO (sNums cd bndP true (t + 2))))), hX 8 h m F3 A3) := n1
              rw [n1]
              simp only [obd_some, obd_none, Option.toList_some, Option.toList_none, List.cons_append, List.nil_append, cond_true, cond_false, B150_92]
              have n2 : F3 11 = .int (nI (rnT (sNums cd bndP true (t + 2)))) := n2
              have n4 : ∀ w, sNums cd bndP true (t + 2) = .inr w → w.2 ≤ n ∧ ∀ j, j < w.1.length → A3 12 (4 * e + 0 + j) = nI (w.1.getD j 0) := n4
              have n5 : ∀ a c, ¬ (a = 12 ∧ 4 * e + 0 ≤ c ∧ c < 4 * e + 4) → A3 a c = A a c := n5
              cases eq : sNums cd bndP true (t + 2) with
              | inl f1 =>
                rw [eq] at n2
                rw [show rnO (Sum.inl f1 : Nat ⊕ (List Nat × Nat)) = 0 from rfl, if_pos (show nI 0 = 0 from rfl)]
                exact ⟨F3, A3, fun j hj => (n3 j (by omega) (by omega)).trans (hF2 j (by omega)), fun a c z => n5 a c (by omega), fun c => ⟨fun _ => n5 _ _ (by omega), fun _ => n5 _ _ (by omega)⟩, rfl, n2⟩
              | inr w =>
                rw [eq] at n2
                obtain ⟨w1, w2⟩ := n4 w eq
                have wl := sNums_len _ _ _ w eq
                have p15 : F3 15 = .int (nI b) := (n3 15 (by decide) (by decide)).trans ((hF2 15 (by decide)).trans h15)
                have p14 : F3 14 = .int (nI e) := (n3 14 (by decide) (by decide)).trans ((hF2 14 (by decide)).trans h14)
                rw [show rnO (Sum.inr w : Nat ⊕ (List Nat × Nat)) = 1 from rfl, if_neg (show ¬ nI 1 = 0 by decide), x8_14, p14, vI_i, obd_some, p8_14, obd_some, nJ_add]
                obtain ⟨F4, A4, r1, r2, r3, r4⟩ := ih (e + 1) b w.2 (updV F3 14 (.int (nI (e + 1)))) A3 (by omega) (by omega) hb (T.of (by funext c; exact n5 _ _ (by omega))) ((updV_n (by decide)).trans n2) w1 (updV_s _ _ _) ((updV_n (by decide)).trans p15)
                have gF : ∀ j, j < 11 ∨ j = 13 ∨ 15 < j → F4 j = F j := fun j hj => (r1 j hj).trans ((updV_n (by omega)).trans ((n3 j (by omega) (by omega)).trans (hF2 j (by omega))))
                have gA : ∀ a c, ¬ (a = 12 ∨ a = 13) → A4 a c = A a c := fun a c z => (r2 a c z).trans (n5 a c (by omega))
                have gC : ∀ c, (c < 4 * e → A4 12 c = A 12 c) ∧ (c < 6 * b → A4 13 c = A 13 c) := fun c => ⟨fun z => ((r3 c).1 (by omega)).trans (n5 _ _ (by omega)), fun z => ((r3 c).2 z).trans (n5 _ _ (by omega))⟩
                refine ⟨F4, A4, gF, gA, gC, ?_⟩
                dsimp only
                cases ez : sFolk cd n f (e + 1) b w.2 with
                | inl f1 => rw [ez] at r4; exact r4
                | inr z =>
                  rw [ez] at r4
                  obtain ⟨y1, y2, y3, y4, y5⟩ := r4
                  refine ⟨y1, by rw [y2, List.length_cons, show e + 1 + z.1.length = e + (z.1.length + 1) by omega], y3, fun u hu j hj => ?_, y5⟩
                  cases u with
                  | zero =>
                    have := w2 j (by rw [wl]; exact hj)
                    rw [Nat.add_zero, (r3 _).1 (by omega)]
                    exact this
                  | succ u =>
                    have := y4 u (by rw [List.length_cons] at hu; omega) j hj
                    rw [show e + (u + 1) = e + 1 + u by omega]
                    exact this
            · rw [if_neg cp]
              simp only [obd_some, obd_none, Option.toList_some, Option.toList_none, List.cons_append, List.nil_append, cond_true, cond_false, B150_82]
              rw [if_pos (show nI 0 = 0 from rfl)]
              exact at110 (fun z => cp z.1)
          · rw [if_neg (show ¬ nI b = 0 by rw [nI_eq0 (by omega)]; exact b0)]
            exact at110 (fun z => b0 z.2.2)
        · rw [if_neg (show ¬ nI e < nI 4 by rw [nJ_lt (by omega) (by omega)]; exact e4)]
          exact at110 (fun z => e4 z.2.1)
      · rw [if_neg c, if_pos c]
        simp only [obd_some, obd_none, Option.toList_some, Option.toList_none, List.cons_append, List.nil_append, cond_true, cond_false, B150_54]
        rw [if_pos (show nI 0 = 0 from rfl)]
        exact bad F _ h11 (fun _ _ => rfl)
    rw [B150_31]
    simp only [x8_14, h14, vI_i, obd_some, obd_none, Option.toList_some, Option.toList_none, List.cons_append, List.nil_append, cond_true, cond_false, x8_11, h11, m_o]
    by_cases e0 : e = 0
    · rw [if_pos (show nI e = 0 by rw [e0]; rfl), if_neg (show ¬ (n ≤ t ∧ 0 < e) by omega)]
      exact at54 (by omega)
    · rw [if_neg (show ¬ nI e = 0 by rw [nI_eq0 (by omega)]; exact e0)]
      by_cases c : t < n
      · rw [if_pos (show nI t < nI n by rw [nJ_lt (by omega) (by omega)]; exact c), if_neg (show ¬ (n ≤ t ∧ 0 < e) by omega)]
        exact at54 (by omega)
      · rw [if_neg (show ¬ nI t < nI n by rw [nJ_lt (by omega) (by omega)]; exact c), if_pos (show n ≤ t ∧ 0 < e by omega)]
        exact ⟨F, A, fun _ _ => rfl, fun _ _ _ => rfl, fun _ => ⟨fun _ => rfl, fun _ => rfl⟩, rfl, h14, h15, fun u hu => absurd hu (Nat.not_lt_zero u), fun u hu => absurd hu (Nat.not_lt_zero u)⟩
end MRead3
