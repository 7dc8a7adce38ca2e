/-! all rows by their codes -/
theorem rowC_ext {d : jRD} {c c' : Nat → Nat} {k : Nat} (h : ∀ i, i < (k + 1) * rE d → c i = c' i) : rowC d c k = rowC d c' k := by
  funext p
  unfold rowC
  by_cases hp : p < rE d
  · rw [if_pos hp, if_pos hp]
    refine h _ ?_
    rw [Nat.succ_mul]; omega
  · rw [if_neg hp, if_neg hp]
theorem sq_ext {d : jRD} {c c' : Nat → Nat} {g mn : Nat} : ∀ k, (∀ i, i < k * rE d → c i = c' i) → sq d c g mn k = sq d c' g mn k
  | 0, _ => rfl
  | k + 1, h => by
    have e := sq_ext (d := d) (c := c) (c' := c') (g := g) (mn := mn) k (fun i hi => h i (by rw [Nat.succ_mul]; omega))
    rw [sq, sq, rowC_ext h, e]
/-- piece k is wrong in a row -/
def wrK (d : jRD) (c : Nat → Nat) (k : Nat) : Option Nat := fstW (whyN d (rowC d c k) k (sq d c 0 0 k)) (rE d) 0
theorem wrK_ext {d : jRD} {c c' : Nat → Nat} {k : Nat} (h : ∀ i, i < (k + 1) * rE d → c i = c' i) : wrK d c k = wrK d c' k := by
  unfold wrK
  rw [rowC_ext h, sq_ext k (fun i hi => h i (by rw [Nat.succ_mul]; omega))]
theorem wrOn_none {d : jRD} {c : Nat → Nat} : ∀ m k, (wrOn d c 0 0 m k = none) = (∀ i, k ≤ i → i < k + m → wrK d c i = none)
  | 0, k => propext ⟨fun _ i h1 h2 => absurd h2 (by omega), fun _ => rfl⟩
  | m + 1, k => by
    have ih := wrOn_none (d := d) (c := c) m (k + 1)
    rw [wrOn]
    refine propext ⟨fun h i h1 h2 => ?_, fun h => ?_⟩
    · cases e : fstW (whyN d (rowC d c k) k (sq d c 0 0 k)) (rE d) 0 with
      | some w => rw [e] at h; cases h
      | none =>
        rw [e] at h
        by_cases q : i = k
        · subst q; exact e
        · exact (ih ▸ h) i (by omega) (by omega)
    · have h0 := h k (Nat.le_refl k) (by omega)
      unfold wrK at h0
      rw [h0]
      exact ih ▸ fun i h1 h2 => h i (by omega) (by omega)
/-- cell i of the row with such a code -/
def dg (d : jRD) (n : Nat) : Nat → Nat := fun i => n / (rB d + 1) ^ (rP d * rE d - 1 - i) % (rB d + 1)
theorem dg_le (d : jRD) (n i : Nat) : dg d n i ≤ rB d := by
  exact Nat.le_of_lt_succ (Nat.mod_lt (n / (rB d + 1) ^ (rP d * rE d - 1 - i)) (Nat.succ_pos (rB d)))
def rgt (d : jRD) (n : Nat) : Bool := (wrOn d (dg d n) 0 0 (rP d) 0).isNone
/-- the table and how many rows are right, after the rows below n -/
def acc (d : jRD) : Nat → jTab × Nat
  | 0 => (fun _ _ => none, 0)
  | n + 1 => if rgt d n = true then (wgT (acc d n).1 (rcOf d (sq d (dg d n) 0 0 (rP d)) n) 3, (acc d n).2 + 1) else acc d n
theorem acc_skip {d : jRD} {m : Nat} : ∀ n, (∀ i, m ≤ i → i < m + n → rgt d i = false) → acc d (m + n) = acc d m
  | 0, _ => rfl
  | n + 1, h => by
    rw [← Nat.add_assoc, acc, h (m + n) (by omega) (by omega), if_neg Bool.false_ne_true]
    exact acc_skip n (fun i h1 h2 => h i h1 (by omega))
theorem acc_cnt (d : jRD) : ∀ n, (acc d n).2 ≤ n
  | 0 => Nat.le_refl _
  | n + 1 => by
    have := acc_cnt d n
    rw [acc]
    split
    · show (acc d n).2 + 1 ≤ n + 1; omega
    · omega
