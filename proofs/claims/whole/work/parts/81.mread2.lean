/-! The reference reads a person's numbers, or a beast's. -/
def nbq (b : Bool) : Nat := if b = true then 6 else 4
def arq (b : Bool) : Nat := if b = true then 13 else 12
def fdq (b : Bool) : Nat := if b = true then 15 else 14
def bnq (b : Bool) : List (Nat × Nat) := if b = true then bndB else bndP
def b0q (b : Bool) : Nat := if b = true then 1 else 0
theorem bnq_len (b : Bool) : (bnq b).length = nbq b := by cases b <;> rfl
theorem bnq_le (b : Bool) {p : Nat} (hp : p < nbq b) : ((bnq b).getD p (0, 0)).1 < 1000 ∧ ((bnq b).getD p (0, 0)).2 < 1000 := by
  cases b with
  | true =>
    have hp : p < 6 := hp
    rcases (by omega : p = 0 ∨ p = 1 ∨ p = 2 ∨ p = 3 ∨ p = 4 ∨ p = 5) with rfl | rfl | rfl | rfl | rfl | rfl <;> decide
  | false =>
    have hp : p < 4 := hp
    rcases (by omega : p = 0 ∨ p = 1 ∨ p = 2 ∨ p = 3) with rfl | rfl | rfl | rfl <;> decide
theorem c_least (b : Bool) {p : Nat} (hp : p < nbq b) (h : jHp) : mc 156 [.int (nI p), .int (nI (b0q b))] h = some (some (.int (nI ((bnq b).getD p (0, 0)).1)), h) := by
  rw [M156]
  cases b with
  | true =>
    have hp : p < 6 := hp
    rw [if_neg (show ¬ nI (b0q true) = 0 by decide), B156_18, if_neg (show ¬ nI (b0q true) = 0 by decide)]
    rcases (by omega : p = 0 ∨ p = 1 ∨ p = 2 ∨ p = 3 ∨ p = 4 ∨ p = 5) with rfl | rfl | rfl | rfl | rfl | rfl <;> rfl
  | false =>
    have hp : p < 4 := hp
    rw [if_pos (show nI (b0q false) = 0 from rfl), B156_18, if_pos (show nI (b0q false) = 0 from rfl)]
    rcases (by omega : p = 0 ∨ p = 1 ∨ p = 2 ∨ p = 3) with rfl | rfl | rfl | rfl <;> rfl
theorem c_most (b : Bool) {p : Nat} (hp : p < nbq b) (h : jHp) : mc 157 [.int (nI p), .int (nI (b0q b))] h = some (some (.int (nI ((bnq b).getD p (0, 0)).2)), h) := by
  rw [M157]
  cases b with
  | true =>
    have hp : p < 6 := hp
    rw [if_neg (show ¬ nI (b0q true) = 0 by decide)]
    rcases (by omega : p = 0 ∨ p = 1 ∨ p = 2 ∨ p = 3 ∨ p = 4 ∨ p = 5) with rfl | rfl | rfl | rfl | rfl | rfl <;> rfl
  | false =>
    have hp : p < 4 := hp
    rw [if_pos (show nI (b0q false) = 0 from rfl)]
    rcases (by omega : p = 0 ∨ p = 1 ∨ p = 2 ∨ p = 3) with rfl | rfl | rfl | rfl <;> rfl
theorem sNum_le {cd : Nat → Int32} {s n : Nat} {A : Nat → Nat → Int32} (T : MTx cd s n A) {t lo hi : Nat} {w : Nat × Nat} (h : sNum cd t lo hi = .inr w) : w.2 ≤ n := by
  unfold sNum at h
  split at h
  · next c1 =>
    have d1 := T.dlt (by omega) c1
    split at h
    · next c2 =>
      have d2 := T.dlt (by omega) c2
      split at h
      · cases h; show t + 2 ≤ n; omega
      · cases h
    · split at h
      · cases h; show t + 1 ≤ n; omega
      · cases h
  · cases h
theorem sNum_f {cd : Nat → Int32} {t lo hi f : Nat} (h : sNum cd t lo hi = .inl f) : f = t := by
  unfold sNum at h
  split at h
  · split at h
    · split at h
      · cases h
      · cases h; rfl
    · split at h
      · cases h
      · cases h; rfl
  · cases h; rfl
section MRead2
variable {h : jHp} {m s n : Nat} {cd : Nat → Int32}
theorem nu_6 (b : Bool) {F : Nat → Value} {A : Nat → Nat → Int32} (x p : Int32) : R 3 155 6 [some (.ref m), some (.int (nI s)), some (.int (nI n)), some (.int (nI (b0q b))), some (.int x), some (.int p)] [] (hX 8 h m F A) = R 3 155 18 [some (.ref m), some (.int (nI s)), some (.int (nI n)), some (.int (nI (b0q b))), some (.int x), some (.int p)] [.int (nI (nbq b)), .int p] (hX 8 h m F A) := by
  rw [B155_6]
  cases b with
  | true => rw [if_neg (show ¬ nI (b0q true) = 0 by decide)]; rfl
  | false => rw [if_pos (show nI (b0q false) = 0 from rfl)]; rfl
theorem nu_bad (b : Bool) {F : Nat → Value} {A : Nat → Nat → Int32} (p : Int32) : R 3 155 6 [some (.ref m), some (.int (nI s)), some (.int (nI n)), some (.int (nI (b0q b))), some (.int (nI 0)), some (.int p)] [] (hX 8 h m F A) = some (some (.int (nI 0)), hX 8 h m F A) := by
  rw [nu_6, B155_18, if_pos (show nI 0 = 0 from rfl), B155_132, B155_134]
  split <;> rfl
theorem nu_69 (b : Bool) {F : Nat → Value} {A : Nat → Nat → Int32} (p : Int32) (o4 : Option Value) : R 3 155 69 [some (.ref m), some (.int (nI s)), some (.int (nI n)), some (.int (nI (b0q b))), o4, some (.int p)] [.int (nI 0)] (hX 8 h m F A) = some (some (.int (nI 0)), hX 8 h m F A) := by
  rw [B155_69, if_pos (show nI 0 = 0 from rfl), B155_99, if_pos (show nI 0 = 0 from rfl), nu_bad]
theorem nu_w (b : Bool) {F : Nat → Value} {A : Nat → Nat → Int32} {p i v : Nat} (hp : p < nbq b) (hi : nbq b * i + p < (if b = true then 12 else 16)) (hf : F (fdq b) = .int (nI i)) (hv : F 12 = .int (nI v)) (o4 : Option Value) : R 3 155 69 [some (.ref m), some (.int (nI s)), some (.int (nI n)), some (.int (nI (b0q b))), o4, some (.int (nI p))] [.int (nI 1)] (hX 8 h m F A) = R 3 155 6 [some (.ref m), some (.int (nI s)), some (.int (nI n)), some (.int (nI (b0q b))), some (.int (nI 1)), some (.int (nI (p + 1)))] [] (hX 8 h m F (uA A (arq b) (nbq b * i + p) (nI v))) := by
  rw [B155_69, if_neg (show ¬ nI 1 = 0 by decide)]
  cases b with
  | true =>
    have hi : 6 * i + p < 12 := hi
    have hf : F 15 = .int (nI i) := hf
    rw [if_neg (show ¬ nI (b0q true) = 0 by decide), x8_19, obd_some, x8_15, hf, vI_i, obd_some, x8_12, hv, vI_i, obd_some, nI_mul, nJ_add, mw_13 hi, obd_some, B155_99, if_neg (show ¬ nI 1 = 0 by decide), if_neg (show ¬ nI (b0q true) = 0 by decide), nJ_add]
    rfl
  | false =>
    have hi : 4 * i + p < 16 := hi
    have hf : F 14 = .int (nI i) := hf
    rw [if_pos (show nI (b0q false) = 0 from rfl), B155_99, if_neg (show ¬ nI 1 = 0 by decide), if_pos (show nI (b0q false) = 0 from rfl), x8_18, obd_some, x8_14, hf, vI_i, obd_some, x8_12, hv, vI_i, obd_some, nI_mul, nJ_add, mw_12 hi, obd_some, nJ_add]
    rfl
/-- what such a reading comes to -/
def NuR (b : Bool) (h : jHp) (m n i p : Nat) (q : Nat ⊕ (List Nat × Nat)) (F : Nat → Value) (A : Nat → Nat → Int32) (r : jRs) : Prop :=
  ∃ F' A', r = some (some (.int (nI (rnO q))), hX 8 h m F' A') ∧ F' 11 = .int (nI (rnT q)) ∧ (∀ j, j ≠ 11 → j ≠ 12 → F' j = F j) ∧ (∀ w, q = .inr w → w.2 ≤ n ∧ ∀ j, j < w.1.length → A' (arq b) (nbq b * i + p + j) = nI (w.1.getD j 0)) ∧ ∀ a c, ¬ (a = arq b ∧ nbq b * i + p ≤ c ∧ c < nbq b * i + nbq b) → A' a c = A a c
theorem l_nums (b : Bool) {i : Nat} (hi : i < (if b = true then 2 else 4)) : ∀ k p t F A, p + k = nbq b → MTx cd s n A → F 11 = .int (nI t) → t ≤ n → F (fdq b) = .int (nI i) →
    NuR b h m n i p (sNums cd ((bnq b).drop p) (p == 0) t) F A (R 3 155 6 [some (.ref m), some (.int (nI s)), some (.int (nI n)), some (.int (nI (b0q b))), some (.int (nI 1)), some (.int (nI p))] [] (hX 8 h m F A)) := by
  have h69 : nbq b ≤ 6 := by cases b <;> decide
  have hin : nbq b * i + nbq b ≤ (if b = true then 12 else 16) := by
    cases b with
    | true => have hi : i < 2 := hi; show 6 * i + 6 ≤ 12; omega
    | false => have hi : i < 4 := hi; show 4 * i + 4 ≤ 16; omega
  intro k
  induction k with
  | zero =>
    intro p t F A hp T h11 htn hf
    obtain rfl : p = nbq b := hp
    rw [List.drop_of_length_le (by rw [bnq_len]; omega)]
    refine ⟨F, A, ?_, h11, fun j _ _ => rfl, fun w z => ?_, fun a c _ => rfl⟩
    · rw [nu_6, B155_18, if_neg (show ¬ nI (nbq b) < nI (nbq b) from Int32.lt_irrefl), B155_132, B155_134]
      rfl
    · cases z
      exact ⟨htn, fun j hj => absurd hj (Nat.not_lt_zero j)⟩
  | succ k ih =>
    intro p t F A hpk T h11 htn hf
    have hp : p < nbq b := by omega
    have hn := T.1
    have hdr : (bnq b).drop p = (bnq b).getD p (0, 0) :: (bnq b).drop (p + 1) := by
      rw [List.drop_eq_getElem_cons (by rw [bnq_len]; exact hp), List.getD, List.getElem?_eq_getElem (by rw [bnq_len]; exact hp)]
      rfl
    obtain ⟨hl, hh⟩ := bnq_le b hp
    have e1 := c_least b hp
    have e2 := c_most b hp
    generalize (bnq b).getD p (0, 0) = q at hdr hl hh e1 e2
    -- behind the comma
    have at42 : ∀ t0 F0 o4, F0 11 = .int (nI t0) → t0 ≤ n → (∀ j, j ≠ 11 → j ≠ 12 → F0 j = F j) → NuR b h m n i p (match sNum cd t0 q.1 q.2 with | .inl f => .inl f | .inr w => match sNums cd ((bnq b).drop (p + 1)) false w.2 with | .inl f => .inl f | .inr z => .inr (w.1 :: z.1, z.2)) F A (R 3 155 42 [some (.ref m), some (.int (nI s)), some (.int (nI n)), some (.int (nI (b0q b))), o4, some (.int (nI p))] [] (hX 8 h m F0 A)) := by
      intro t0 F0 o4 g11 gn gF
      obtain ⟨F1, v, r1, r2, r3, r4, r5⟩ := c_num2 (h := h) (m := m) T g11 (by omega) hl hh
      rw [B155_42, e1]
      simp only [obd_some, obd_none, Option.toList_some, Option.toList_none, List.cons_append, List.nil_append, cond_true, cond_false, B155_52]
      rw [e2]
      simp only [obd_some, obd_none, Option.toList_some, Option.toList_none, List.cons_append, List.nil_append, cond_true, cond_false, B155_58]
      rw [m_o, obd_some, r1]
      simp only [obd_some, obd_none, Option.toList_some, Option.toList_none, List.cons_append, List.nil_append, cond_true, cond_false, B155_61]
      cases eq : sNum cd t0 q.1 q.2 with
      | inl f =>
        rw [eq] at r2
        rw [show rnO (Sum.inl f : Nat ⊕ (Nat × Nat)) = 0 from rfl, if_pos (show nI 0 = 0 from rfl), nu_69]
        exact ⟨F1, A, rfl, r2, fun j a c => (r5 j a c).trans (gF j a c), fun w z => (by cases z), fun a c _ => rfl⟩
      | inr w =>
        rw [eq] at r2
        have ev := r4 w eq
        subst ev
        have hw := sNum_le T eq
        have hf1 : F1 (fdq b) = .int (nI i) := by
          rw [r5 _ (by cases b <;> decide) (by cases b <;> decide), gF _ (by cases b <;> decide) (by cases b <;> decide)]; exact hf
        rw [show rnO (Sum.inr w : Nat ⊕ (Nat × Nat)) = 1 from rfl, if_neg (show ¬ nI 1 = 0 by decide), nu_w b hp (by omega) hf1 r3]
        have T1 : MTx cd s n (uA A (arq b) (nbq b * i + p) (nI w.1)) := T.of (by funext c; rw [uA_n (by cases b <;> (intro z; exact absurd z.1 (by decide)))])
        obtain ⟨F2, A2, k1, k2, k3, k4, k5⟩ := ih (p + 1) w.2 F1 _ (by omega) T1 r2 hw hf1
        rw [k1]
        rw [show (p + 1 == 0) = false from rfl] at k2 k4 ⊢
        have kp : ∀ a c, ¬ (a = arq b ∧ nbq b * i + p ≤ c ∧ c < nbq b * i + nbq b) → A2 a c = A a c := fun a c z => by
          rw [k5 a c (fun y => z ⟨y.1, by omega, y.2.2⟩), uA_n (fun y => z ⟨y.1, by omega, by omega⟩)]
        dsimp only
        cases ez : sNums cd ((bnq b).drop (p + 1)) false w.2 with
        | inl f =>
          rw [ez] at k2
          exact ⟨F2, A2, rfl, k2, fun j a c => (k3 j a c).trans ((r5 j a c).trans (gF j a c)), fun w z => (by cases z), kp⟩
        | inr z =>
          rw [ez] at k2
          obtain ⟨z1, z2⟩ := k4 z ez
          refine ⟨F2, A2, rfl, k2, fun j a c => (k3 j a c).trans ((r5 j a c).trans (gF j a c)), fun w' hw' => ?_, kp⟩
          cases hw'
          refine ⟨z1, fun j hj => ?_⟩
          cases j with
          | zero =>
            rw [k5 _ _ (fun y => by omega), Nat.add_zero, uA_s]; rfl
          | succ j =>
            have := z2 j (by rw [List.length_cons] at hj; omega)
            rw [show nbq b * i + p + (j + 1) = nbq b * i + (p + 1) + j by omega, this]; rfl
    rw [hdr, nu_6, B155_18, if_pos (show nI p < nI (nbq b) by rw [nJ_lt (by omega) (by omega)]; exact hp), if_neg (show ¬ nI 1 = 0 by decide), sNums]
    by_cases p0 : p = 0
    · rw [if_pos (show nI p = 0 by rw [p0]; rfl), show (p == 0) = true by rw [p0]; rfl, if_neg (fun z => by cases z.1), if_pos rfl]
      exact at42 t F _ h11 htn (fun j _ _ => rfl)
    · rw [if_neg (show ¬ nI p = 0 by rw [nI_eq0 (by omega)]; exact p0), show (p == 0) = false from beq_eq_false_iff_ne.mpr p0, m_o, obd_some, c_takes T h11 (by omega) (by omega)]
      by_cases c : cd t = nI 44
      · have hlt := T.lt (by omega) c
        rw [if_pos c, if_neg (fun z => z.2 c), if_neg Bool.false_ne_true]
        simp only [obd_some, obd_none, Option.toList_some, Option.toList_none, List.cons_append, List.nil_append, cond_true, cond_false, B155_39]
        rw [if_neg (show ¬ nI 1 = 0 by decide)]
        exact at42 (t + 1) _ _ (updV_s _ _ _) (by omega) (fun j a _ => updV_n a)
      · rw [if_neg c, if_pos ⟨rfl, c⟩]
        simp only [obd_some, obd_none, Option.toList_some, Option.toList_none, List.cons_append, List.nil_append, cond_true, cond_false, B155_39]
        rw [if_pos (show nI 0 = 0 from rfl), nu_69]
        exact ⟨F, A, rfl, h11, fun j _ _ => rfl, fun w z => (by cases z), fun a c _ => rfl⟩
theorem c_nums (b : Bool) {i : Nat} (hi : i < (if b = true then 2 else 4)) {t : Nat} {F : Nat → Value} {A : Nat → Nat → Int32} (T : MTx cd s n A) (h11 : F 11 = .int (nI t)) (htn : t ≤ n) (hf : F (fdq b) = .int (nI i)) :
    NuR b h m n i 0 (sNums cd (bnq b) true t) F A (mc 155 [.ref m, .int (nI s), .int (nI n), .int (nI (b0q b))] (hX 8 h m F A)) := by
  rw [M155]
  exact l_nums b hi (nbq b) 0 t F A (Nat.zero_add _) T h11 htn hf
end MRead2
