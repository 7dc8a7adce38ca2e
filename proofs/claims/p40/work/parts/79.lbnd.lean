/-! The law's long numbers stay small. -/
/-- a road of the law's -/
def smD (d : jRD) : Prop := rP d ≤ 3 ∧ rE d ≤ 3 ∧ (∀ p, p < rE d → sP d p 0 ≤ 34) ∧ 1 ≤ sB d 0 0
theorem gn33 {d : jRD} (h : smD d) {p : Nat} (hp : p < rE d) : gn d p ≤ 33 := by
  have h1 := h.2.2.1 p hp
  have h2 := h.2.2.2
  unfold gn
  omega
theorem prG33 {d : jRD} (h : smD d) (g : Nat) : ∀ p, p ≤ rE d → prG d g p ≤ 33 ^ p
  | 0, _ => Nat.le_refl _
  | p + 1, hp => by
    have ih := prG33 h g p (by omega)
    rw [prG, Nat.pow_succ]
    split
    · exact Nat.mul_le_mul ih (gn33 h (by omega))
    · omega
theorem prG_at33 {d : jRD} (h : smD d) (g : Nat) {p : Nat} (hb : g.testBit p = true) : ∀ n, n + 1 ≤ rE d → p < n + 1 → ∃ o, prG d g (n + 1) = gn d p * o ∧ o ≤ 33 ^ n
  | 0, _, hp => by
    obtain rfl : p = 0 := by omega
    exact ⟨1, by rw [prG, prG, if_pos hb, Nat.mul_comm], Nat.le_refl _⟩
  | n + 1, hn, hp => by
    rw [prG]
    by_cases e : p = n + 1
    · subst e
      refine ⟨prG d g (n + 1), ?_, prG33 h g (n + 1) (by omega)⟩
      rw [if_pos hb, Nat.mul_comm]
    · obtain ⟨o, h1, h2⟩ := prG_at33 h g hb n (by omega) (by omega)
      split
      · exact ⟨o * gn d (n + 1), by rw [h1, Nat.mul_assoc], by rw [Nat.pow_succ]; exact Nat.mul_le_mul h2 (gn33 h (by omega))⟩
      · exact ⟨o, h1, by rw [Nat.pow_succ]; omega⟩
theorem oth33 {d : jRD} (h : smD d) {g p : Nat} (hp : p < rE d) (hb : g.testBit p = true) (hg : 0 < gn d p) : prG d g (rE d) / gn d p ≤ 1089 := by
  have h3 := h.2.1
  obtain ⟨o, h1, h2⟩ := prG_at33 h g hb (rE d - 1) (by omega) (by omega)
  rw [show rE d - 1 + 1 = rE d by omega] at h1
  rw [h1, Nat.mul_div_cancel_left _ hg]
  have : (33 : Nat) ^ (rE d - 1) ≤ 33 ^ 2 := Nat.pow_le_pow_right (by decide) (by omega)
  have e : (33 : Nat) ^ 2 = 1089 := rfl
  omega
theorem dnS33 {d : jRD} (h : smD d) (g : Nat) : ∀ n, n ≤ rE d → dnS d g (prG d g (rE d)) n ≤ n * 1089
  | 0, _ => Nat.zero_le _
  | n + 1, hn => by
    have ih := dnS33 h g n (by omega)
    rw [dnS, Nat.succ_mul]
    split
    · next e => exact Nat.add_le_add ih (oth33 h (show n < rE d by omega) e.1 e.2)
    · exact Nat.le_trans ih (Nat.le_add_right _ _)
theorem rise33 {q : Nat × Nat} {up : Int} {dn X : Nat} (h1 : q.2 ≤ X) (h2 : dn ≤ X) : (rise q up dn).2 ≤ X := by
  unfold rise
  split
  · exact Nat.le_trans (red_le _ _).2 h2
  · exact h1
theorem evP33 (d : jRD) : ∀ n, (evP d n).2 ≤ 3267
  | 0 => by show 1 ≤ 3267; omega
  | n + 1 => rise33 (evP33 d n) (by omega)
theorem evG33 {d : jRD} (h : smD d) : ∀ n, (evG d n).2 ≤ 3267
  | 0 => evP33 d _
  | n + 1 => by
    have h3 := h.2.1
    have e : evG d (n + 1) = if prG d (n + 1) (rE d) = 0 then evG d n else rise (evG d n) (upg d (n + 1)) (dng d (n + 1)) := rfl
    rw [e]
    have hd : dng d (n + 1) ≤ 3267 := by
      have := dnS33 h (n + 1) (rE d) (Nat.le_refl _)
      show dnS d (n + 1) (prG d (n + 1) (rE d)) (rE d) ≤ 3267
      omega
    split
    · exact evG33 h n
    · exact rise33 (evG33 h n) hd
theorem evn33 {d : jRD} (h : smD d) : (evn d).2 ≤ 3267 := evG33 h _
theorem ridn33 {d : jRD} (h : smD d) {u l p : Nat} (hl : l ≤ 3267) (hp : p < rE d) : (ridn d p (u, l)).2 ≤ 107811 := by
  unfold ridn
  split
  · have h1 := (red_le (sumN (rM d) (rP d) * (sP d p 0 * l - u)) (l * gn d p)).2
    have h2 : l * gn d p ≤ 3267 * 33 := Nat.mul_le_mul hl (gn33 h hp)
    show (red (sumN (rM d) (rP d) * (sP d p 0 * l - u)) (l * gn d p)).2 ≤ 107811
    omega
  · have h1 := (red_le 0 1).2
    omega
theorem allM27 {d : jRD} (hd : rdOk d) (h : smD d) : allM d ≤ 27 := by
  have h1 := sumN_le hd.2.2.2.1 (rP d)
  have h3 := h.1
  unfold allM
  omega
theorem nd33 {d : jRD} (h : smD d) {u l : Nat} (H : EvS d u l) (hl : l ≤ 3267) (hr : ∀ p, p < rE d → (ridn d p (u, l)).1 ≤ allM d * (ridn d p (u, l)).2) : ∀ n, n ≤ rE d → (ndU d u l n).2 ≤ 107811 ^ n ∧ (ndU d u l n).1 ≤ allM d * n * (ndU d u l n).2
  | 0, _ => ⟨Nat.le_refl _, Nat.zero_le _⟩
  | n + 1, hn => by
    obtain ⟨h1, h2⟩ := nd33 h H hl hr n (by omega)
    have h3 := ridn33 h (u := u) hl (show n < rE d by omega)
    have h4 := hr n (by omega)
    constructor
    · show (ndU d u l n).2 * (ridn d n (u, l)).2 ≤ _
      rw [Nat.pow_succ]; exact Nat.mul_le_mul h1 h3
    · show (ndU d u l n).1 * (ridn d n (u, l)).2 + (ridn d n (u, l)).1 * (ndU d u l n).2 ≤ allM d * (n + 1) * ((ndU d u l n).2 * (ridn d n (u, l)).2)
      generalize (ndU d u l n).1 = N at h2 ⊢
      generalize (ndU d u l n).2 = M at h2 ⊢
      generalize (ridn d n (u, l)).1 = x at h4 ⊢
      generalize (ridn d n (u, l)).2 = y at h4 ⊢
      have a1 : N * y ≤ allM d * n * M * y := Nat.mul_le_mul_right _ h2
      have a2 : x * M ≤ allM d * y * M := Nat.mul_le_mul_right _ h4
      have a3 : allM d * (n + 1) * (M * y) = allM d * n * M * y + allM d * y * M := by grind
      omega
theorem nd_sm {d : jRD} (hd : rdOk d) (h : smD d) {u l : Nat} (H : EvS d u l) (hl : l ≤ 3267) (hr : ∀ p, p < rE d → (ridn d p (u, l)).1 ≤ allM d * (ridn d p (u, l)).2) {n : Nat} (hn : n ≤ rE d) : (ndU d u l n).2 ≤ 1253110078852731 ∧ (ndU d u l n).1 ≤ 101501916387071211 := by
  obtain ⟨h1, h2⟩ := nd33 h H hl hr n hn
  have h3 := h.2.1
  have h4 := allM27 hd h
  have e : (107811 : Nat) ^ 3 = 1253110078852731 := by decide
  have h5 : (107811 : Nat) ^ n ≤ 107811 ^ 3 := Nat.pow_le_pow_right (by decide) (by omega)
  have h6 : (ndU d u l n).2 ≤ 1253110078852731 := by omega
  refine ⟨h6, ?_⟩
  have h7 : allM d * n ≤ 27 * 3 := Nat.mul_le_mul h4 (by omega)
  have h8 : allM d * n * (ndU d u l n).2 ≤ 27 * 3 * 1253110078852731 := Nat.mul_le_mul h7 h6
  omega
