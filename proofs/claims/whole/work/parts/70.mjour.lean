/-! The reference goes through a row. -/
def ME (d : jRD) (c : Nat → Nat) (i : Nat) (A : Nat → Nat → Int32) : Prop := MRd d i A ∧ rdOk d ∧ i < 3 ∧ (∀ t, t < rP d * rE d → A 19 t = nI (c t)) ∧ ∀ t, c t ≤ rB d
theorem ME.of {d : jRD} {c : Nat → Nat} {i : Nat} {A A' : Nat → Nat → Int32} (E : ME d c i A) (e : ∀ j, j < 20 → A' j = A j) : ME d c i A' :=
  ⟨E.1.of fun j hj => e j (by omega), E.2.1, E.2.2.1, fun t ht => by rw [e 19 (by omega)]; exact E.2.2.2.1 t ht, E.2.2.2.2⟩
theorem row_le {d : jRD} {c : Nat → Nat} (hc : ∀ t, c t ≤ rB d) (k p : Nat) : rowC d c k p ≤ rB d := by
  unfold rowC; split; exact hc _; exact Nat.zero_le _
/-- what a beast's numbers tell at a gate -/
def JB (k : Nat) (s : jGS) (b : Nat) (A : Nat → Nat → Int32) : Prop := (∃ j, j ≤ k ∧ A 23 b = nI j ∧ (j = k ↔ ¬ gc s b = none)) ∧ A 24 (7 * b + k) = cmI (gc s b) ∧ (¬ gc s b = none → A 25 b = nI (gw s b) ∧ A 26 b = nI (gs s b))
theorem c_greater {a b : Nat} (ha : a < 2147483648) (hb : b < 2147483648) (h : jHp) : mc 184 [.int (nI a), .int (nI b)] h = some (some (.int (nI (if a < b then b else a))), h) := by
  rw [M184]
  by_cases c : b < a
  · rw [if_pos (show nI b < nI a by rw [nJ_lt hb ha]; exact c), if_neg (by omega)]
  · rw [if_neg (show ¬ nI b < nI a by rw [nJ_lt hb ha]; exact c)]
    by_cases e : a < b
    · rw [if_pos e]
    · rw [if_neg e, show a = b by omega]
section MJour
variable {h : jHp} {m i : Nat} {d : jRD} {c : Nat → Nat} {F : Nat → Value} {A : Nat → Nat → Int32}
theorem c_actOf (E : ME d c i A) {k p : Nat} (hk : k < rP d) (hp : p < rE d) : mc 186 [.ref m, .int (nI i), .int (nI k), .int (nI p)] (hX 8 h m F A) = some (some (.int (nI (rowC d c k p))), hX 8 h m F A) := by
  have h24 := cells_le E.2.1
  have hi := E.2.2.1
  have hkE : k * rE d + rE d ≤ rP d * rE d := by rw [← Nat.succ_mul]; exact Nat.mul_le_mul hk (Nat.le_refl _)
  rw [M186, x8_27, obd_some, x8_3, obd_some, m_2 hi, obd_some, E.1.2.1, nI_mul, nJ_add, Nat.mul_comm (rE d) k, m_19 (by omega), obd_some, E.2.2.2.1 _ (by omega)]
  unfold rowC; rw [if_pos hp]
theorem or_0 (n : Nat) : nI n ||| nI 0 = nI n := by
  rw [show (nI 0) = 0 from rfl, Int32.or_zero]
theorem l_ridersOf (E : ME d c i A) {k b : Nat} (hk : k < rP d) (hb : b < rB d) : ∀ n p, p + n = rE d → R 2 188 6 [some (.ref m), some (.int (nI i)), some (.int (nI k)), some (.int (nI b)), some (.int (nI (msk (rdb (rowC d c k) b) p))), some (.int (nI p))] [] (hX 8 h m F A) = some (some (.int (nI (rdrs d (rowC d c k) b))), hX 8 h m F A) := by
  have hi := E.2.2.1
  have h4 := E.2.1.2.1
  have h2 := E.2.1.2.2.1
  intro n
  induction n with
  | zero =>
    intro p hp
    obtain rfl : p = rE d := hp
    rw [B188_6, x8_3, obd_some, m_2 hi, obd_some, E.1.2.1, if_neg (show ¬ nI (rE d) < nI (rE d) from Int32.lt_irrefl)]
    rfl
  | succ n ih =>
    intro p hpn
    have hp : p < rE d := by omega
    have hr := row_le E.2.2.2.2 k p
    have hm := msk_lt (rdb (rowC d c k) b) p
    rw [B188_6, x8_3, obd_some, m_2 hi, obd_some, E.1.2.1, if_pos (show nI p < nI (rE d) by rw [nJ_lt (by omega) (by omega)]; exact hp), m_o, obd_some, c_actOf E hk hp]
    simp only [obd_some, obd_none, Option.toList_some, Option.toList_none, List.cons_append, List.nil_append, cond_true, cond_false, B188_27, nJ_add]
    have e := ih (p + 1) (by omega)
    rw [msk] at e
    by_cases q : rowC d c k p = b + 1
    · rw [if_pos (show nI (rowC d c k p) = nI (b + 1) by rw [q]), or_m (by omega) hm]
      rw [if_pos (show rdb (rowC d c k) b p = true by unfold rdb; rw [q]; exact beq_self_eq_true _)] at e
      exact e
    · rw [if_neg (show ¬ nI (rowC d c k p) = nI (b + 1) by rw [nI_inj (by omega) (by omega)]; exact q), or_0]
      rw [if_neg (show ¬ rdb (rowC d c k) b p = true by unfold rdb; rw [beq_iff_eq]; exact q), Nat.add_zero] at e
      exact e
theorem c_ridersOf (E : ME d c i A) {k b : Nat} (hk : k < rP d) (hb : b < rB d) : mc 188 [.ref m, .int (nI i), .int (nI k), .int (nI b)] (hX 8 h m F A) = some (some (.int (nI (rdrs d (rowC d c k) b))), hX 8 h m F A) := by
  rw [M188]
  exact l_ridersOf E hk hb (rE d) 0 (Nat.zero_add _)
theorem l_whyNot (E : ME d c i A) {k p : Nat} (hk : k < rP d) (hp : p < rE d) {s : jGS} (ha : ¬ rowC d c k p = 0) (hB : JB k s (rowC d c k p - 1) A) : ∀ n o, o + n = p → R 2 185 54 [some (.ref m), some (.int (nI i)), some (.int (nI k)), some (.int (nI p)), some (.int (nI (rowC d c k p))), some (.int (nI (cntB (rdb (rowC d c k) (rowC d c k p - 1)) o))), some (.int (nI o))] [] (hX 8 h m F A) = some (some (.int (nI (if gc s (rowC d c k p - 1) = none then 1 else if sB d (rowC d c k p - 1) 3 ≤ cntB (rdb (rowC d c k) (rowC d c k p - 1)) p then 2 else 0))), hX 8 h m F A) := by
  have hi := E.2.2.1
  have h4 := E.2.1.2.1
  have h2 := E.2.1.2.2.1
  have hr := row_le E.2.2.2.2 k p
  have h6 := E.2.1.1
  intro n
  induction n with
  | zero =>
    intro o ho
    obtain rfl : o = p := ho
    obtain ⟨⟨j, j1, j2, j3⟩, _, _⟩ := hB
    have hc := cntB_le (rdb (rowC d c k) (rowC d c k o - 1)) o
    have hsb := sB_le E.2.1 (rowC d c k o - 1) 3
    rw [B185_54, if_neg (show ¬ nI o < nI o from Int32.lt_irrefl), x8_31, obd_some, nI_sub (by omega), m_23 (by omega), obd_some, j2]
    by_cases g : gc s (rowC d c k o - 1) = none
    · rw [if_pos g, if_neg (show ¬ nI j = nI k by rw [nI_inj (by omega) (by omega)]; exact fun z => (j3.mp z) g), B185_126]
    · rw [if_neg g, if_pos (show nI j = nI k by rw [j3.mpr g]), m_o, obd_some, c_ofB E.1 E.2.1 hi (by omega) (by omega)]
      simp only [obd_some, obd_none, Option.toList_some, Option.toList_none, List.cons_append, List.nil_append, cond_true, cond_false, B185_118]
      by_cases q : sB d (rowC d c k o - 1) 3 ≤ cntB (rdb (rowC d c k) (rowC d c k o - 1)) o
      · rw [if_pos q, if_neg (show ¬ nI (cntB (rdb (rowC d c k) (rowC d c k o - 1)) o) < nI (sB d (rowC d c k o - 1) 3) by rw [nJ_lt (by omega) (by omega)]; omega), B185_126]
      · rw [if_neg q, if_pos (show nI (cntB (rdb (rowC d c k) (rowC d c k o - 1)) o) < nI (sB d (rowC d c k o - 1) 3) by rw [nJ_lt (by omega) (by omega)]; omega), B185_126]
  | succ n ih =>
    intro o hon
    have ho : o < p := by omega
    have hro := row_le E.2.2.2.2 k o
    rw [B185_54, if_pos (show nI o < nI p by rw [nJ_lt (by omega) (by omega)]; exact ho), m_o, obd_some, c_actOf E hk (show o < rE d by omega)]
    simp only [obd_some, obd_none, Option.toList_some, Option.toList_none, List.cons_append, List.nil_append, cond_true, cond_false, B185_70, nJ_add]
    have e := ih (o + 1) (by omega)
    rw [cntB] at e
    by_cases q : rowC d c k o = rowC d c k p
    · rw [if_pos (show nI (rowC d c k o) = nI (rowC d c k p) by rw [q])]
      rw [if_pos (show rdb (rowC d c k) (rowC d c k p - 1) o = true by unfold rdb; rw [beq_iff_eq]; omega)] at e
      exact e
    · rw [if_neg (show ¬ nI (rowC d c k o) = nI (rowC d c k p) by rw [nI_inj (by omega) (by omega)]; exact q)]
      rw [if_neg (show ¬ rdb (rowC d c k) (rowC d c k p - 1) o = true by unfold rdb; rw [beq_iff_eq]; omega)] at e
      exact e
theorem c_whyNot (E : ME d c i A) {k p : Nat} (hk : k < rP d) (hp : p < rE d) {s : jGS} (hs : gOk k s) (hf : A 22 p = nI (gf s p)) (hB : ∀ b, b < rB d → JB k s b A) : mc 185 [.ref m, .int (nI i), .int (nI k), .int (nI p)] (hX 8 h m F A) = some (some (.int (nI (whyN d (rowC d c k) k s p))), hX 8 h m F A) := by
  have hi := E.2.2.1
  have h4 := E.2.1.2.1
  have h6 := E.2.1.1
  have hr := row_le E.2.2.2.2 k p
  have h2 := E.2.1.2.2.1
  rw [M185, m_o, obd_some, c_actOf E hk hp]
  simp only [obd_some, obd_none, Option.toList_some, Option.toList_none, List.cons_append, List.nil_append, cond_true, cond_false, B185_7]
  unfold whyN
  by_cases ha : rowC d c k p = 0
  · have h1 := hs.2.1 p
    have h3 := E.2.1.2.2.2.1 k
    have h5 := sP_le E.2.1 p 3
    rw [if_pos ha, if_pos (show nI (rowC d c k p) = 0 by rw [ha]; rfl), x8_30, obd_some, m_22 (by omega), obd_some, x8_5, obd_some, nI_mul, nJ_add, m_4 (by omega), obd_some, hf, (E.1.2.2.2.1 k hk).1, nJ_add, B185_36, m_o, obd_some, c_ofP E.1 E.2.1 hi hp (by omega)]
    simp only [obd_some, obd_none, Option.toList_some, Option.toList_none, List.cons_append, List.nil_append, cond_true, cond_false, B185_39]
    by_cases q : sP d p 3 < gf s p + rM d k
    · rw [if_pos q, if_pos (show nI (sP d p 3) < nI (gf s p + rM d k) by rw [nJ_lt (by omega) (by omega)]; exact q), B185_47]
    · rw [if_neg q, if_neg (show ¬ nI (sP d p 3) < nI (gf s p + rM d k) by rw [nJ_lt (by omega) (by omega)]; exact q), B185_47]
  · rw [if_neg ha, if_neg (show ¬ nI (rowC d c k p) = 0 by rw [nI_eq0 (by omega)]; exact ha)]
    exact l_whyNot E hk hp ha (hB _ (by omega)) p 0 (Nat.zero_add _)
/-! walking -/
def WkF (d : jRD) (a : Nat → Nat) (k : Nat) (s : jGS) (A A' : Nat → Nat → Int32) (n : Nat) : Prop :=
  (∀ p, p < n → a p = 0 → A' 20 (7 * p + k + 1) = nI (ga s p + wlk d p k) ∧ A' 21 (6 * p + k) = nI (ga s p) ∧ A' 22 p = nI (gf s p + rM d k)) ∧
  ∀ j t, ¬ (∃ p, p < n ∧ a p = 0 ∧ ((j = 20 ∧ t = 7 * p + k + 1) ∨ (j = 21 ∧ t = 6 * p + k) ∨ (j = 22 ∧ t = p))) → A' j t = A j t
theorem l_walking {k : Nat} {s : jGS} (hs : gOk k s) (hk : k < rP d) : ∀ n p A', p + n = rE d → ME d c i A' → (∀ p, p < rE d → A 20 (7 * p + k) = nI (ga s p) ∧ A 22 p = nI (gf s p)) → WkF d (rowC d c k) k s A A' p →
    ∃ A2, R 3 189 2 [some (.ref m), some (.int (nI i)), some (.int (nI k)), some (.int (nI p))] [] (hX 8 h m F A') = some (none, hX 8 h m F A2) ∧ WkF d (rowC d c k) k s A A2 (rE d) := by
  intro n
  induction n with
  | zero =>
    intro p A' hp E hA W
    have hi := E.2.2.1
    obtain rfl : p = rE d := hp
    refine ⟨A', ?_, W⟩
    rw [B189_2, x8_3, obd_some, m_2 hi, obd_some, E.1.2.1, if_neg (show ¬ nI (rE d) < nI (rE d) from Int32.lt_irrefl)]
  | succ n ih =>
    intro p A' hpn E hA W
    have hi := E.2.2.1
    have h4 := E.2.1.2.1
    have h6 := E.2.1.1
    have h2 := E.2.1.2.2.1
    have hr := row_le E.2.2.2.2 k p
    have hp : p < rE d := by omega
    rw [B189_2, x8_3, obd_some, m_2 hi, obd_some, E.1.2.1, if_pos (show nI p < nI (rE d) by rw [nJ_lt (by omega) (by omega)]; exact hp), m_o, obd_some, c_actOf E hk hp]
    simp only [obd_some, obd_none, Option.toList_some, Option.toList_none, List.cons_append, List.nil_append, cond_true, cond_false, B189_19]
    by_cases ha : rowC d c k p = 0
    · have e20 : A' 20 (7 * p + k) = nI (ga s p) := (W.2 20 _ (by rintro ⟨q, q1, q2, q3⟩; omega)).trans (hA p hp).1
      have e22 : A' 22 p = nI (gf s p) := (W.2 22 _ (by rintro ⟨q, q1, q2, q3⟩; omega)).trans (hA p hp).2
      have E1 : ME d c i (uA A' 21 (6 * p + k) (nI (ga s p))) := E.of fun j hj => by funext t; rw [uA_n (by omega)]
      rw [if_pos (show nI (rowC d c k p) = 0 by rw [ha]; rfl), x8_29, obd_some, x8_28, obd_some, nI_mul, nJ_add, m_20 (by omega), obd_some, e20, nI_mul, nJ_add, mw_21 (by omega), obd_some, x8_28, obd_some, B189_50, x8_28, obd_some, nI_mul, nJ_add, m_20 (by omega), obd_some, uA_n (by omega), e20, m_o, obd_some, c_walkingTime E1.1 E1.2.1 hi hp hk]
      simp only [obd_some, obd_none, Option.toList_some, Option.toList_none, List.cons_append, List.nil_append, cond_true, cond_false, B189_74, nJ_add]
      rw [mw_20 (by omega), obd_some, x8_30, obd_some, m_22 (by omega), obd_some, uA_n (by omega), uA_n (by omega), e22, x8_5, obd_some, nI_mul, nJ_add, m_4 (by omega), obd_some, uA_n (by omega), uA_n (by omega), (E.1.2.2.2.1 k hk).1, nJ_add, mw_22 (by omega), obd_some]
      refine ih (p + 1) _ (by omega) (E.of fun j hj => by funext t; rw [uA_n (by omega), uA_n (by omega), uA_n (by omega)]) hA ⟨fun q hq hq0 => ?_, fun j t hn => ?_⟩
      · by_cases e : q = p
        · subst e
          refine ⟨?_, ?_, ?_⟩
          · rw [uA_n (by omega), uA_s]
          · rw [uA_n (by omega), uA_n (by omega), uA_s]
          · rw [uA_s]
        · have g := W.1 q (by omega) hq0
          refine ⟨?_, ?_, ?_⟩
          · rw [uA_n (by omega), uA_n (by omega), uA_n (by omega)]; exact g.1
          · rw [uA_n (by omega), uA_n (by omega), uA_n (by omega)]; exact g.2.1
          · rw [uA_n (by omega), uA_n (by omega), uA_n (by omega)]; exact g.2.2
      · have n1 : ¬ (j = 20 ∧ t = 7 * p + k + 1) := fun z => hn ⟨p, by omega, ha, Or.inl z⟩
        have n2 : ¬ (j = 21 ∧ t = 6 * p + k) := fun z => hn ⟨p, by omega, ha, Or.inr (Or.inl z)⟩
        have n3 : ¬ (j = 22 ∧ t = p) := fun z => hn ⟨p, by omega, ha, Or.inr (Or.inr z)⟩
        rw [uA_n n3, uA_n n1, uA_n n2]
        exact W.2 j t (fun ⟨q, q1, q2⟩ => hn ⟨q, by omega, q2⟩)
    · rw [if_neg (show ¬ nI (rowC d c k p) = 0 by rw [nI_eq0 (by omega)]; exact ha), nJ_add]
      refine ih (p + 1) _ (by omega) E hA ⟨fun q hq hq0 => ?_, fun j t hn => ?_⟩
      · by_cases e : q = p
        · subst e; exact absurd hq0 ha
        · exact W.1 q (by omega) hq0
      · exact W.2 j t (fun ⟨q, q1, q2⟩ => hn ⟨q, by omega, q2⟩)
theorem c_goWalking {k : Nat} {s : jGS} (hs : gOk k s) (hk : k < rP d) (E : ME d c i A) (hA : ∀ p, p < rE d → A 20 (7 * p + k) = nI (ga s p) ∧ A 22 p = nI (gf s p)) :
    ∃ A2, mc 189 [.ref m, .int (nI i), .int (nI k)] (hX 8 h m F A) = some (none, hX 8 h m F A2) ∧ WkF d (rowC d c k) k s A A2 (rE d) := by
  rw [M189]
  exact l_walking hs hk (rE d) 0 A (Nat.zero_add _) E hA ⟨fun p hp => absurd hp (Nat.not_lt_zero p), fun j t _ => rfl⟩
end MJour
