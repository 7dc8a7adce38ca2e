/-! The reference reads a number. -/
theorem updV_id {F : Nat → Value} {k : Nat} {v : Value} (h : F k = v) : updV F k v = F := by
  funext j; unfold updV
  by_cases e : j = k
  · rw [if_pos e, e, h]
  · rw [if_neg e]
def MTx (cd : Nat → Int32) (s n : Nat) (A : Nat → Nat → Int32) : Prop := n ≤ 120 ∧ s + n ≤ 480 ∧ (∀ t, t < n → A 29 (s + t) = cd t) ∧ ∀ t, n ≤ t → cd t = nI 0
theorem MTx.of {cd : Nat → Int32} {s n : Nat} {A A' : Nat → Nat → Int32} (T : MTx cd s n A) (e : A' 29 = A 29) : MTx cd s n A' := ⟨T.1, T.2.1, fun t ht => by rw [e]; exact T.2.2.1 t ht, T.2.2.2⟩
theorem MTx.lt {cd : Nat → Int32} {s n : Nat} {A : Nat → Nat → Int32} (T : MTx cd s n A) {t c : Nat} (hc : 0 < c ∧ c < 1000) (h : cd t = nI c) : t < n := by
  refine Nat.lt_of_not_le fun z => ?_
  rw [T.2.2.2 t z, nI_inj (by omega) (by omega)] at h
  omega
theorem MTx.dlt {cd : Nat → Int32} {s n : Nat} {A : Nat → Nat → Int32} (T : MTx cd s n A) {t lo hi : Nat} (hc : 0 < lo) (h : dgt (cd t) lo hi) : t < n := by
  refine Nat.lt_of_not_le fun z => ?_
  have := h.1
  rw [T.2.2.2 t z, toInt_nI (by omega)] at this
  omega
theorem dgt_nI {c : Int32} (h : dgt c 48 57) : c = nI (dv c + 48) ∧ dv c ≤ 9 := by
  have e : c = nI (c.toInt).toNat := by
    apply Int32.toInt_inj.mp
    have := h.1
    have := h.2
    rw [toInt_nI (by omega)]
    omega
  have h1 := h.1
  have h2 := h.2
  unfold dv
  refine ⟨?_, by omega⟩
  rw [show (c.toInt - 48).toNat + 48 = c.toInt.toNat by omega]
  exact e
section MRead1
variable {h : jHp} {m s n : Nat} {cd : Nat → Int32} {F : Nat → Value} {A : Nat → Nat → Int32}
theorem c_isNext (T : MTx cd s n A) {t : Nat} (h11 : F 11 = .int (nI t)) (ht : t < 1000) {c : Nat} (hc : 0 < c ∧ c < 1000) : mc 153 [.ref m, .int (nI c), .int (nI s), .int (nI n)] (hX 8 h m F A) = some (some (.int (b2i (cd t = nI c))), hX 8 h m F A) := by
  have h1 := T.1
  have h2 := T.2.1
  rw [M153]
  simp only [x8_11, h11, vI_i, obd_some, obd_none, Option.toList_some, Option.toList_none, List.cons_append, List.nil_append, cond_true, cond_false, x8_42, nJ_add]
  unfold b2i
  by_cases c1 : t < n
  · rw [if_pos (show nI t < nI n by rw [nJ_lt (by omega) (by omega)]; exact c1), m_29 (by omega), obd_some, T.2.2.1 t c1]
    split <;> rfl
  · rw [if_neg (show ¬ nI t < nI n by rw [nJ_lt (by omega) (by omega)]; exact c1), if_neg (fun z => c1 (T.lt hc z))]
theorem c_takes (T : MTx cd s n A) {t : Nat} (h11 : F 11 = .int (nI t)) (ht : t < 1000) {c : Nat} (hc : 0 < c ∧ c < 1000) : mc 152 [.ref m, .int (nI c), .int (nI s), .int (nI n)] (hX 8 h m F A) = if cd t = nI c then some (some (.int (nI 1)), hX 8 h m (updV F 11 (.int (nI (t + 1)))) A) else some (some (.int (nI 0)), hX 8 h m F A) := by
  rw [M152, m_o, obd_some, c_isNext T h11 ht hc]
  simp only [obd_some, obd_none, Option.toList_some, Option.toList_none, List.cons_append, List.nil_append, cond_true, cond_false, B152_7, b2i_0, x8_11, h11, vI_i, p8_11, nJ_add, bl_b2i]
  unfold b2i
  by_cases e : cd t = nI c
  · rw [if_neg (not_not_intro e), if_pos e, if_pos e]
  · rw [if_pos e, if_neg e, if_neg e, Nat.add_zero, updV_id h11]
theorem l_nstep (T : MTx cd s n A) {t fr num mx : Nat} (h11 : F 11 = .int (nI t)) (ht : t < 1000) (hf : fr + mx < 2000) (hnum : num < 1000) (lo hi : Int32) (o8 : Option Value) :
    R 2 154 9 [some (.ref m), some (.int (nI s)), some (.int (nI n)), some (.int (nI mx)), some (.int lo), some (.int hi), some (.int (nI fr)), some (.int (nI num)), o8] [] (hX 8 h m F A) = if t < fr + mx ∧ dgt (cd t) 48 57 then R 2 154 9 [some (.ref m), some (.int (nI s)), some (.int (nI n)), some (.int (nI mx)), some (.int lo), some (.int hi), some (.int (nI fr)), some (.int (nI (10 * num + dv (cd t)))), none] [] (hX 8 h m (updV F 11 (.int (nI (t + 1)))) A) else R 2 154 87 [some (.ref m), some (.int (nI s)), some (.int (nI n)), some (.int (nI mx)), some (.int lo), some (.int hi), some (.int (nI fr)), some (.int (nI num)), none] [] (hX 8 h m F A) := by
  have h1 := T.1
  have h2 := T.2.1
  rw [B154_9]
  simp only [x8_11, h11, vI_i, obd_some, obd_none, Option.toList_some, Option.toList_none, List.cons_append, List.nil_append, cond_true, cond_false, x8_42, nJ_add]
  by_cases c1 : t < n
  · rw [if_pos (show nI t < nI n by rw [nJ_lt (by omega) (by omega)]; exact c1)]
    by_cases c2 : t < fr + mx
    · have b1 := Int32.le_toInt (cd t)
      have b2 := Int32.toInt_lt (cd t)
      rw [if_pos (show nI t < nI (fr + mx) by rw [nJ_lt (by omega) (by omega)]; exact c2), m_29 (by omega), obd_some, T.2.2.1 t c1, B154_46, i2l, lN_z, lN_z, c_in ⟨by omega, by omega⟩ ⟨by omega, by omega⟩ ⟨by omega, by omega⟩]
      simp only [obd_some, obd_none, Option.toList_some, Option.toList_none, List.cons_append, List.nil_append, cond_true, cond_false, B154_49, b2i_0]
      by_cases c3 : dgt (cd t) 48 57
      · obtain ⟨e1, e2⟩ := dgt_nI c3
        rw [if_neg (not_not_intro (show ((48 : Nat) : Int) ≤ (cd t).toInt ∧ (cd t).toInt ≤ ((57 : Nat) : Int) from c3)), if_pos ⟨c2, c3⟩]
        simp only [x8_11, h11, vI_i, obd_some, obd_none, Option.toList_some, Option.toList_none, List.cons_append, List.nil_append, cond_true, cond_false, x8_42, nJ_add]
        rw [m_29 (by omega), obd_some, T.2.2.1 t c1, B154_81, p8_11, obd_some]
        have e3 : nI 10 * nI num + cd t - nI 48 = nI (10 * num + dv (cd t)) := by
          rw [nI_mul]
          conv => lhs; rw [e1]
          rw [nJ_add, nI_sub (by omega)]
          congr 1
        rw [e3]
      · rw [if_pos (show ¬ (((48 : Nat) : Int) ≤ (cd t).toInt ∧ (cd t).toInt ≤ ((57 : Nat) : Int)) from c3), if_neg (fun z => c3 z.2)]
    · rw [if_neg (show ¬ nI t < nI (fr + mx) by rw [nJ_lt (by omega) (by omega)]; exact c2), if_neg (fun z => c2 z.1)]
  · rw [if_neg (show ¬ nI t < nI n by rw [nJ_lt (by omega) (by omega)]; exact c1), if_neg (fun z => c1 (T.dlt (by omega) z.2))]
theorem l_nend {t fr num lo hi : Nat} (h11 : F 11 = .int (nI t)) (ht : t < 1000) (hf : fr < 1000) (hnum : num < 1000) (hlo : lo < 1000) (hhi : hi < 1000) (o1 o2 o3 o8 : Option Value) :
    R 2 154 87 [some (.ref m), o1, o2, o3, some (.int (nI lo)), some (.int (nI hi)), some (.int (nI fr)), some (.int (nI num)), o8] [] (hX 8 h m F A) = if fr < t ∧ lo ≤ num ∧ num ≤ hi then some (some (.int (nI 1)), hX 8 h m (updV (updV F 11 (.int (nI t))) 12 (.int (nI num))) A) else some (some (.int (nI 0)), hX 8 h m (updV (updV F 11 (.int (nI fr))) 12 (.int (nI num))) A) := by
  have bad : ∀ o4 o5, R 2 154 115 [some (.ref m), none, none, none, o4, o5, some (.int (nI fr)), some (.int (nI num)), none] [] (hX 8 h m F A) = some (some (.int (nI 0)), hX 8 h m (updV (updV F 11 (.int (nI fr))) 12 (.int (nI num))) A) := by
    intro o4 o5
    rw [B154_115, B154_116, B154_118, if_pos (show nI 0 = 0 from rfl), B154_133, p8_11, obd_some, B154_136, p8_12, obd_some]
    rfl
  rw [B154_87, x8_11, h11, vI_i, obd_some]
  by_cases c1 : fr < t
  · rw [if_pos (show nI fr < nI t by rw [nJ_lt (by omega) (by omega)]; exact c1), nI_l (by omega), nI_l (by omega), nI_l (by omega), lN_z, lN_z, lN_z, c_in ⟨by omega, by omega⟩ ⟨by omega, by omega⟩ ⟨by omega, by omega⟩]
    simp only [obd_some, obd_none, Option.toList_some, Option.toList_none, List.cons_append, List.nil_append, cond_true, cond_false, B154_108, b2i_0]
    by_cases c2 : lo ≤ num ∧ num ≤ hi
    · rw [if_neg (not_not_intro (show (lo : Int) ≤ num ∧ (num : Int) ≤ hi by omega)), if_pos ⟨c1, c2⟩, B154_116, B154_118, if_neg (show ¬ nI 1 = 0 by decide), x8_11, h11, vI_i, obd_some, B154_133, p8_11, obd_some, B154_136, p8_12, obd_some]
      rfl
    · rw [if_pos (show ¬ ((lo : Int) ≤ num ∧ (num : Int) ≤ hi) by omega), if_neg (fun z => c2 z.2), bad]
  · rw [if_neg (show ¬ nI fr < nI t by rw [nJ_lt (by omega) (by omega)]; exact c1), if_neg (fun z => c1 z.1), bad]
/-- what stays of the fields while reading -/
def RK (F F' : Nat → Value) : Prop := ∀ j, j < 11 ∨ 15 < j → F' j = F j
def rnO {β : Type} (q : Nat ⊕ (β × Nat)) : Nat := match q with | .inl _ => 0 | .inr _ => 1
def rnT {β : Type} (q : Nat ⊕ (β × Nat)) : Nat := match q with | .inl f => f | .inr w => w.2
/-- one digit -/
def sNumA (cd : Nat → Int32) (t lo hi : Nat) : Nat ⊕ (Nat × Nat) := if dgt (cd t) 48 57 ∧ lo ≤ dv (cd t) ∧ dv (cd t) ≤ hi then .inr (dv (cd t), t + 1) else .inl t
theorem rnEnd {q : Nat ⊕ (Nat × Nat)} {t fr num lo hi : Nat} {r : jRs} (P : Prop) [Decidable P] (e : r = if P then some (some (.int (nI 1)), hX 8 h m (updV (updV F 11 (.int (nI t))) 12 (.int (nI num))) A) else some (some (.int (nI 0)), hX 8 h m (updV (updV F 11 (.int (nI fr))) 12 (.int (nI num))) A)) (h1 : P → q = .inr (num, t)) (h2 : ¬ P → q = .inl fr) :
    ∃ F' v, r = some (some (.int (nI (rnO q))), hX 8 h m F' A) ∧ F' 11 = .int (nI (rnT q)) ∧ F' 12 = .int (nI v) ∧ (∀ w, q = .inr w → v = w.1) ∧ ∀ j, j ≠ 11 → j ≠ 12 → F' j = F j := by
  by_cases c : P
  · rw [if_pos c] at e
    rw [h1 c]
    exact ⟨_, num, e, by rw [updV_n (by decide), updV_s]; rfl, updV_s _ _ _, (fun w z => by cases z; rfl), fun j a b => by rw [updV_n b, updV_n a]⟩
  · rw [if_neg c] at e
    rw [h2 c]
    exact ⟨_, num, e, by rw [updV_n (by decide), updV_s]; rfl, updV_s _ _ _, (fun w z => by cases z), fun j a b => by rw [updV_n b, updV_n a]⟩
theorem c_num1 (T : MTx cd s n A) {t lo hi : Nat} (h11 : F 11 = .int (nI t)) (ht : t < 900) (hlo : lo < 1000) (hhi : hi < 1000) :
    ∃ F' v, mc 154 [.ref m, .int (nI s), .int (nI n), .int (nI 1), .int (nI lo), .int (nI hi)] (hX 8 h m F A) = some (some (.int (nI (rnO (sNumA cd t lo hi)))), hX 8 h m F' A) ∧ F' 11 = .int (nI (rnT (sNumA cd t lo hi))) ∧ F' 12 = .int (nI v) ∧ (∀ w, sNumA cd t lo hi = .inr w → v = w.1) ∧ ∀ j, j ≠ 11 → j ≠ 12 → F' j = F j := by
  rw [M154, x8_11, h11, vI_i, obd_some, l_nstep T h11 (by omega) (by omega) (by omega)]
  by_cases c : dgt (cd t) 48 57
  · have d9 := (dgt_nI c).2
    rw [if_pos ⟨by omega, c⟩, l_nstep T (F := updV F 11 (.int (nI (t + 1)))) (updV_s _ _ _) (by omega) (by omega) (by omega), if_neg (fun z => by omega), l_nend (updV_s _ _ _) (by omega) (by omega) (by omega) hlo hhi]
    obtain ⟨F', v, e1, e2, e3, e4, e5⟩ := rnEnd (h := h) (m := m) (A := A) (F := updV F 11 (.int (nI (t + 1)))) (q := sNumA cd t lo hi) (t := t + 1) (fr := t) (num := 10 * 0 + dv (cd t)) (lo := 0) (hi := 0) (t < t + 1 ∧ lo ≤ 10 * 0 + dv (cd t) ∧ 10 * 0 + dv (cd t) ≤ hi) rfl (fun z => by unfold sNumA; rw [if_pos ⟨c, by omega, by omega⟩, Nat.mul_zero, Nat.zero_add]) (fun z => by unfold sNumA; rw [if_neg (fun y => z ⟨by omega, by omega, by omega⟩)])
    exact ⟨F', v, e1, e2, e3, e4, fun j a b => (e5 j a b).trans (updV_n a)⟩
  · rw [if_neg (fun z => c z.2), l_nend h11 (by omega) (by omega) (by omega) hlo hhi]
    exact rnEnd (h := h) (m := m) (A := A) (F := F) (q := sNumA cd t lo hi) (t := t) (fr := t) (num := 0) (lo := 0) (hi := 0) (t < t ∧ lo ≤ 0 ∧ 0 ≤ hi) rfl (fun z => by omega) (fun z => by unfold sNumA; rw [if_neg (fun y => c y.1)])
theorem c_num2 (T : MTx cd s n A) {t lo hi : Nat} (h11 : F 11 = .int (nI t)) (ht : t < 900) (hlo : lo < 1000) (hhi : hi < 1000) :
    ∃ F' v, mc 154 [.ref m, .int (nI s), .int (nI n), .int (nI 2), .int (nI lo), .int (nI hi)] (hX 8 h m F A) = some (some (.int (nI (rnO (sNum cd t lo hi)))), hX 8 h m F' A) ∧ F' 11 = .int (nI (rnT (sNum cd t lo hi))) ∧ F' 12 = .int (nI v) ∧ (∀ w, sNum cd t lo hi = .inr w → v = w.1) ∧ ∀ j, j ≠ 11 → j ≠ 12 → F' j = F j := by
  rw [M154, x8_11, h11, vI_i, obd_some, l_nstep T h11 (by omega) (by omega) (by omega)]
  by_cases c : dgt (cd t) 48 57
  · have d9 := (dgt_nI c).2
    rw [if_pos ⟨by omega, c⟩, l_nstep T (F := updV F 11 (.int (nI (t + 1)))) (updV_s _ _ _) (by omega) (by omega) (by omega)]
    by_cases c2 : dgt (cd (t + 1)) 48 57
    · have d92 := (dgt_nI c2).2
      rw [if_pos ⟨by omega, c2⟩, l_nstep T (F := updV (updV F 11 (.int (nI (t + 1)))) 11 (.int (nI (t + 1 + 1)))) (updV_s _ _ _) (by omega) (by omega) (by omega), if_neg (fun z => by omega), l_nend (updV_s _ _ _) (by omega) (by omega) (by omega) hlo hhi]
      obtain ⟨F', v, e1, e2, e3, e4, e5⟩ := rnEnd (h := h) (m := m) (A := A) (F := updV (updV F 11 (.int (nI (t + 1)))) 11 (.int (nI (t + 1 + 1)))) (q := sNum cd t lo hi) (t := t + 1 + 1) (fr := t) (num := 10 * (10 * 0 + dv (cd t)) + dv (cd (t + 1))) (lo := 0) (hi := 0) (t < t + 1 + 1 ∧ lo ≤ 10 * (10 * 0 + dv (cd t)) + dv (cd (t + 1)) ∧ 10 * (10 * 0 + dv (cd t)) + dv (cd (t + 1)) ≤ hi) rfl (fun z => by unfold sNum; rw [if_pos c, if_pos c2, if_pos (by omega), Nat.mul_zero, Nat.zero_add]) (fun z => by unfold sNum; rw [if_pos c, if_pos c2, if_neg (by omega)])
      exact ⟨F', v, e1, e2, e3, e4, fun j a b => (e5 j a b).trans ((updV_n a).trans (updV_n a))⟩
    · rw [if_neg (fun z => c2 z.2), l_nend (updV_s _ _ _) (by omega) (by omega) (by omega) hlo hhi]
      obtain ⟨F', v, e1, e2, e3, e4, e5⟩ := rnEnd (h := h) (m := m) (A := A) (F := updV F 11 (.int (nI (t + 1)))) (q := sNum cd t lo hi) (t := t + 1) (fr := t) (num := 10 * 0 + dv (cd t)) (lo := 0) (hi := 0) (t < t + 1 ∧ lo ≤ 10 * 0 + dv (cd t) ∧ 10 * 0 + dv (cd t) ≤ hi) rfl (fun z => by unfold sNum; rw [if_pos c, if_neg c2, if_pos (by omega), Nat.mul_zero, Nat.zero_add]) (fun z => by unfold sNum; rw [if_pos c, if_neg c2, if_neg (by omega)])
      exact ⟨F', v, e1, e2, e3, e4, fun j a b => (e5 j a b).trans (updV_n a)⟩
  · rw [if_neg (fun z => c z.2), l_nend h11 (by omega) (by omega) (by omega) hlo hhi]
    exact rnEnd (h := h) (m := m) (A := A) (F := F) (q := sNum cd t lo hi) (t := t) (fr := t) (num := 0) (lo := 0) (hi := 0) (t < t ∧ lo ≤ 0 ∧ 0 ≤ hi) rfl (fun z => by omega) (fun z => by unfold sNum; rw [if_neg c])
end MRead1
