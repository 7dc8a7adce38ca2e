def hdA (A : Nat → Nat → Int32) (s c : Nat) : Nat → Nat → Int32 := fun i t => if i = 30 ∧ t < c then A 29 (s + t) else A i t
def wcA (A : Nat → Nat → Int32) (s n o c : Nat) : Nat → Nat → Int32 := fun i t => if i = 29 ∧ o ≤ t ∧ t < o + c then A 29 (s + (t - o)) else hdA A s n i t
theorem hdA_s (A : Nat → Nat → Int32) (s c : Nat) : uA (hdA A s c) 30 c (A 29 (s + c)) = hdA A s (c + 1) := by
  funext i t
  unfold uA hdA
  by_cases e : i = 30 ∧ t = c
  · rw [if_pos e, if_pos (by omega), e.2]
  · rw [if_neg e]
    by_cases e2 : i = 30 ∧ t < c
    · rw [if_pos e2, if_pos (by omega)]
    · rw [if_neg e2, if_neg (by omega)]
theorem wcA_s (A : Nat → Nat → Int32) (s n o c : Nat) : uA (wcA A s n o c) 29 (o + c) (A 29 (s + c)) = wcA A s n o (c + 1) := by
  funext i t
  unfold uA wcA
  by_cases e : i = 29 ∧ t = o + c
  · rw [if_pos e, if_pos (by omega), e.2, show s + (o + c - o) = s + c by omega]
  · rw [if_neg e]
    by_cases e2 : i = 29 ∧ o ≤ t ∧ t < o + c
    · rw [if_pos e2, if_pos (by omega)]
    · rw [if_neg e2, if_neg (by omega)]
section MCopy
variable {h : jHp} {m : Nat} {S : jST} {F : Nat → Value} {A : Nat → Nat → Int32}
theorem l_cp2 {k i o j n : Nat} (hk : k < 4) (ho : o < 4) (hi : i + n ≤ 120) (hj : j + n ≤ 120) : ∀ c t (o1 o2 : Option Value), t + c = n → R 3 219 144 [some (.ref m), o1, o2, some (.int (nI o)), some (.int (nI j)), some (.int (nI n)), some (.int (nI t))] [] (hX 8 h m F (wcA A (120 * k + i) n (120 * o + j) t)) = some (some (.int (nI n)), hX 8 h m (updV F 0 (.int (nI 0))) (wcA A (120 * k + i) n (120 * o + j) n)) := by
  intro c
  induction c with
  | zero =>
    intro t o1 o2 ht
    obtain rfl : t = n := ht
    rw [B219_144, if_neg (show ¬ nI t < nI t from Int32.lt_irrefl), m_o, obd_some, c_refused]
    simp only [obd_some, obd_none, Option.toList_some, Option.toList_none, List.cons_append, List.nil_append, cond_true, cond_false, B219_185]
  | succ c ih =>
    intro t o1 o2 htc
    have e : wcA A (120 * k + i) n (120 * o + j) t 30 t = A 29 (120 * k + i + t) := by
      unfold wcA hdA
      rw [if_neg (by omega), if_pos (by omega)]
    rw [B219_144, if_pos (show nI t < nI n by rw [nJ_lt (by omega) (by omega)]; omega), x8_42, obd_some, x8_43, obd_some, m_30 (by omega), obd_some, e, nI_mul, nJ_add, nJ_add, mw_29 (by omega), obd_some, wcA_s, nJ_add]
    exact ih (t + 1) none none (by omega)
theorem l_cp1 {k i o j n : Nat} (hk : k < 4) (ho : o < 4) (hi : i + n ≤ 120) (hj : j + n ≤ 120) : ∀ c t, t + c = n → R 3 219 107 [some (.ref m), some (.int (nI k)), some (.int (nI i)), some (.int (nI o)), some (.int (nI j)), some (.int (nI n)), some (.int (nI t))] [] (hX 8 h m F (hdA A (120 * k + i) t)) = some (some (.int (nI n)), hX 8 h m (updV F 0 (.int (nI 0))) (wcA A (120 * k + i) n (120 * o + j) n)) := by
  intro c
  induction c with
  | zero =>
    intro t ht
    obtain rfl : t = n := ht
    rw [B219_107, if_neg (show ¬ nI t < nI t from Int32.lt_irrefl)]
    have e : hdA A (120 * k + i) t = wcA A (120 * k + i) t (120 * o + j) 0 := by
      funext a b; unfold wcA; rw [if_neg (by omega)]
    rw [e]
    exact l_cp2 hk ho hi hj t 0 _ _ (Nat.zero_add _)
  | succ c ih =>
    intro t htc
    have e : hdA A (120 * k + i) t 29 (120 * k + i + t) = A 29 (120 * k + i + t) := by
      unfold hdA; rw [if_neg (by omega)]
    rw [B219_107, if_pos (show nI t < nI n by rw [nJ_lt (by omega) (by omega)]; omega), x8_43, obd_some, x8_42, obd_some, nI_mul, nJ_add, nJ_add, m_29 (by omega), obd_some, e, mw_30 (by omega), obd_some, hdA_s, nJ_add]
    exact ih (t + 1) (by omega)
theorem M_copy (R0 : MR S F A) (hS : stOk S) (k i o j n : Int32) : Mv m (rCopy S k i o j n).2 h (mc 219 [.ref m, .int k, .int i, .int o, .int j, .int n] (hX 8 h m F A)) (.int (rCopy S k i o j n).1) := by
  have e14 : ∀ o1 o2 o3 o4 o5 o6, R 3 219 14 [some (.ref m), o1, o2, o3, o4, o5, o6] [] (hX 8 h m F A) = some (some (.int (-nI 1)), hX 8 h m (updV F 0 (.int (nI 0))) A) := by
    intro o1 o2 o3 o4 o5 o6
    rw [B219_14, B219_15, m_o, obd_some, c_refused]
    simp only [obd_some, obd_none, Option.toList_some, Option.toList_none, List.cons_append, List.nil_append, cond_true, cond_false, B219_19]
  have e38 : ∀ o1 o2 o3 o4 o5 o6, R 3 219 38 [some (.ref m), o1, o2, o3, o4, o5, o6] [] (hX 8 h m F A) = some (some (.int (fI 1)), hX 8 h m (updV F 0 (.int (nI 1))) A) := by
    intro o1 o2 o3 o4 o5 o6
    rw [B219_38, B219_39, m_o, obd_some, c_mfailed]
    simp only [obd_some, obd_none, Option.toList_some, Option.toList_none, List.cons_append, List.nil_append, cond_true, cond_false, B219_43]
  have e98 : ∀ o1 o2 o3 o4 o5 o6, R 3 219 98 [some (.ref m), o1, o2, o3, o4, o5, o6] [] (hX 8 h m F A) = some (some (.int (fI 3)), hX 8 h m (updV F 0 (.int (nI 3))) A) := by
    intro o1 o2 o3 o4 o5 o6
    rw [B219_98, B219_99, m_o, obd_some, c_mfailed]
    simp only [obd_some, obd_none, Option.toList_some, Option.toList_none, List.cons_append, List.nil_append, cond_true, cond_false, B219_103]
  rw [M219, c_noSheet]
  simp only [obd_some, obd_none, Option.toList_some, Option.toList_none, List.cons_append, List.nil_append, cond_true, cond_false, B219_4, b2i_0]
  unfold rCopy
  by_cases hk : inN k 4
  · obtain ⟨a, ha, rfl⟩ := inN_nI hk
    have hd := hS.2.2.2.2.2.2 a ha
    have H := R0.2.2.2 a ha
    rw [if_pos (not_not_intro hk), if_pos hk, toNat_nI (by omega), c_noSheet]
    simp only [obd_some, obd_none, Option.toList_some, Option.toList_none, List.cons_append, List.nil_append, cond_true, cond_false, B219_11, b2i_0]
    by_cases ho : inN o 4
    · obtain ⟨b, hb, rfl⟩ := inN_nI ho
      have hd' := hS.2.2.2.2.2.2 b hb
      have H' := R0.2.2.2 b hb
      have h1 := hd.1
      have h2 := hd'.1
      rw [if_pos (not_not_intro ho), if_pos ho, toNat_nI (by omega), x8_40, obd_some, m_27 (by omega), obd_some, H.1]
      simp only [szI_0 hd]
      by_cases l0 : sL (zS S a) = none
      · rw [if_pos l0, if_pos (Or.inl l0), e38]
        exact ⟨_, _, rfl, R0.f0 1⟩
      · rw [if_neg l0, obd_some, m_27 (by omega), obd_some, H'.1]
        simp only [szI_0 hd']
        by_cases l1 : sL (zS S b) = none
        · rw [if_pos l1, if_pos (Or.inr l1), e38]
          exact ⟨_, _, rfl, R0.f0 1⟩
        · rw [if_neg l1, if_neg (fun z => z.elim l0 l1), x8_41, obd_some, m_28 (by omega), obd_some, obd_some, m_28 (by omega), obd_some, ms_lane H l0, ms_lane H' l1]
          have el := lane_eq hd hd' l0 l1
          by_cases c : sL (zS S a) = sL (zS S b)
          · rw [if_pos (show laneI (sL (zS S a)) = laneI (sL (zS S b)) from el ▸ c), if_neg (not_not_intro c), B219_65, x8_40, obd_some, m_27 (by omega), obd_some, H.1, szI_s l0, c_isBeyond i n h1]
            simp only [obd_some, obd_none, Option.toList_some, Option.toList_none, List.cons_append, List.nil_append, cond_true, cond_false, B219_78, b2i_0]
            by_cases i1 : inCs i n (sN (zS S a))
            · rw [if_pos (not_not_intro i1), x8_40, obd_some, m_27 (by omega), obd_some, H'.1, szI_s l1, c_isBeyond j n h2]
              simp only [obd_some, obd_none, Option.toList_some, Option.toList_none, List.cons_append, List.nil_append, cond_true, cond_false, B219_95, b2i_0]
              by_cases i2 : inCs j n (sN (zS S b))
              · obtain ⟨ui, un, rfl, rfl, hun⟩ := inCs_nI hd i1
                obtain ⟨uj, un', rfl, e1, hun'⟩ := inCs_nI hd' i2
                rw [nI_inj (by omega) (by omega)] at e1
                subst e1
                have g := l_cp1 (h := h) (m := m) (F := F) (A := A) (k := a) (i := ui) (o := b) (j := uj) (n := un) ha hb (by omega) (by omega) un 0 (Nat.zero_add _)
                rw [show hdA A (120 * a + ui) 0 = A by funext x t; unfold hdA; rw [if_neg (by omega)]] at g
                rw [if_pos (not_not_intro i2), if_pos ⟨i1, i2⟩, toNat_nI (show ui < 2147483648 by omega), toNat_nI (show uj < 2147483648 by omega), toNat_nI (show un < 2147483648 by omega)]
                refine ⟨_, _, g, (R0.f0 0).setS (fun x hx => ?_) ⟨?_, fun l hl => ?_, fun t ht => ?_⟩ (fun q hq hne => ⟨?_, ?_, fun t ht => ?_⟩) (stOk_F hS (by omega))⟩
                · funext t; unfold wcA hdA; rw [if_neg (by omega), if_neg (by omega)]
                · unfold wcA hdA; rw [if_neg (by omega), if_neg (by omega)]; exact H'.1
                · unfold wcA hdA; rw [if_neg (by omega), if_neg (by omega)]; exact H'.2.1 l hl
                · have ht : t < sN (zS S b) := ht
                  show _ = va_cpy (sC (zS S a)) (sC (zS S b)) ui uj un t
                  unfold wcA hdA va_cpy
                  by_cases q : uj ≤ t ∧ t < uj + un
                  · rw [if_pos (by omega), if_pos q, ← H.2.2 (ui + (t - uj)) (by omega)]
                    congr 1; omega
                  · rw [if_neg (by omega), if_neg (by omega), if_neg q]
                    exact H'.2.2 t ht
                · unfold wcA hdA; rw [if_neg (by omega), if_neg (by omega)]
                · unfold wcA hdA; rw [if_neg (by omega), if_neg (by omega)]
                · unfold wcA hdA; rw [if_neg (by omega), if_neg (by omega)]
              · rw [if_neg (show ¬ ¬ ¬ _ from fun z => z i2), if_neg (fun z => i2 z.2), e98]
                exact ⟨_, _, rfl, R0.f0 3⟩
            · rw [if_neg (show ¬ ¬ ¬ _ from fun z => z i1), if_neg (fun z => i1 z.1), e98]
              exact ⟨_, _, rfl, R0.f0 3⟩
          · rw [if_neg (show ¬ laneI (sL (zS S a)) = laneI (sL (zS S b)) from fun z => c (el ▸ z)), if_pos c, B219_59, m_o, obd_some, c_mfailed]
            simp only [obd_some, obd_none, Option.toList_some, Option.toList_none, List.cons_append, List.nil_append, cond_true, cond_false, B219_64]
            exact ⟨_, _, rfl, R0.f0 2⟩
    · rw [if_neg (show ¬ ¬ ¬ _ from fun z => z ho), if_neg ho, e14]
      exact ⟨_, _, rfl, R0.f0 0⟩
  · rw [if_neg (show ¬ ¬ ¬ _ from fun z => z hk), if_neg hk, e14]
    exact ⟨_, _, rfl, R0.f0 0⟩
end MCopy
