/-! making objects: a block being made -/
def hB (c : Nat) (h : jHp) (b : Nat) (F : Nat → Value) (m s : Nat) : jHp := (fun a => if b ≤ a ∧ a ≤ b + m then some (if a = b then cO c F else cI (oSz c (a - b)) (fun _ => 0)) else h.1 a, b + m + 1, s)
theorem hB_new (h : jHp) (c : Nat) : newO h c = hB c h h.2.1 (dflt c) 0 (h.2.2 + fNT c) := by
  unfold newO hnew hB
  refine Prod.ext ?_ rfl
  funext q
  dsimp only
  by_cases e : q = h.2.1
  · subst e; rw [if_pos rfl, if_pos ⟨Nat.le_refl _, Nat.le_refl _⟩, if_pos rfl]
  · rw [if_neg e, if_neg (by omega)]
theorem hB_next (c : Nat) (h : jHp) (b : Nat) (F : Nat → Value) (m s : Nat) : (hB c h b F m s).2.1 = b + m + 1 := rfl
theorem hB_I {c : Nat} {h : jHp} {b : Nat} {F : Nat → Value} {m s n : Nat} (hn : n ≤ 100000) (e : oSz c (m + 1) = n) : newI (hB c h b F m s) (nI n) = some (hB c h b F (m + 1) (s + n)) := by
  unfold newI
  rw [toNat_nI (by omega), if_neg (by rintro (q | q); exact nI_nneg (by omega) q; omega)]
  unfold hnew hB
  refine congrArg some (Prod.ext ?_ rfl)
  funext q
  dsimp only
  by_cases e1 : q = b + m + 1
  · subst e1
    rw [if_pos rfl, if_pos (by omega), if_neg (by omega), show b + m + 1 - b = m + 1 by omega, e]
  · rw [if_neg e1]
    by_cases e2 : b ≤ q ∧ q ≤ b + m
    · rw [if_pos e2, if_pos (show b ≤ q ∧ q ≤ b + (m + 1) by omega)]
    · rw [if_neg e2, if_neg (by omega)]
theorem hB_O {c : Nat} {h : jHp} {b : Nat} {F : Nat → Value} {m s : Nat} : gO (hB c h b F m s) b c = some F := by
  refine gO_of ?_
  unfold hB
  dsimp only
  rw [if_pos ⟨Nat.le_refl _, Nat.le_add_right _ _⟩, if_pos rfl]
theorem hB_p {c : Nat} {h : jHp} {b : Nat} {F : Nat → Value} {m s k : Nat} {v : Value} : pF (hB c h b F m s) b c k v = some (hB c h b (updV F k v) m s) := by
  unfold pF
  rw [hB_O, Option.bind_some]
  unfold hset hB
  refine congrArg some (Prod.ext ?_ rfl)
  funext q
  dsimp only
  by_cases e : q = b
  · subst e
    rw [if_pos rfl, if_pos ⟨Nat.le_refl _, Nat.le_add_right _ _⟩, if_pos rfl]
  · rw [if_neg e]
    by_cases e2 : b ≤ q ∧ q ≤ b + m
    · rw [if_pos e2, if_pos e2, if_neg e, if_neg e]
    · rw [if_neg e2, if_neg e2]
theorem hB_end {c : Nat} {h : jHp} {b : Nat} {F F' : Nat → Value} {m s : Nat} (hm : oN c = m) (e : ∀ k, F k = oF c b F' k) : hB c h b F m s = hX c (h.1, b + m + 1, s) b F' zA := by
  unfold hB hX
  rw [hm, show F = oF c b F' from funext e]
  rfl
/-- a heap with some of its room taken -/
def hT (h : jHp) (n s : Nat) : jHp := (h.1, n, s)
theorem blt_f {a b : Nat} (h : b ≤ a) : Nat.blt a b = false := by
  rw [← Bool.not_eq_true, Nat.blt_eq]; omega
theorem blt_t {a b : Nat} (h : a < b) : Nat.blt a b = true := by
  rw [Nat.blt_eq]; exact h
theorem nat9 (k : Nat) : k = 0 ∨ k = 1 ∨ k = 2 ∨ k = 3 ∨ k = 4 ∨ k = 5 ∨ k = 6 ∨ k = 7 ∨ k = 8 ∨ ∃ t, k = t + 9 := by
  by_cases h : k < 9
  · omega
  · exact Or.inr (Or.inr (Or.inr (Or.inr (Or.inr (Or.inr (Or.inr (Or.inr (Or.inr ⟨k - 9, by omega⟩))))))))
theorem jF_end (b r k : Nat) : updV (updV (updV (updV (updV (updV (updV (updV (updV (dflt 1) 1 (.ref (b + 0 + 1))) 2 (.ref (b + (0 + 1) + 1))) 3 (.ref (b + (0 + 1 + 1) + 1))) 4 (.ref (b + (0 + 1 + 1 + 1) + 1))) 5 (.ref (b + (0 + 1 + 1 + 1 + 1) + 1))) 6 (.ref (b + (0 + 1 + 1 + 1 + 1 + 1) + 1))) 7 (.ref (b + (0 + 1 + 1 + 1 + 1 + 1 + 1) + 1))) 8 (.ref (b + (0 + 1 + 1 + 1 + 1 + 1 + 1 + 1) + 1))) 0 (.ref r) k = oF 1 b (jF r) k := by
  rcases nat9 k with rfl | rfl | rfl | rfl | rfl | rfl | rfl | rfl | rfl | ⟨t, rfl⟩
  all_goals rfl
theorem c_initJourney (h : jHp) (r : Nat) : mc 24 [.ref h.2.1, .ref r] (newO h 1) = some (none, jJ (hT h (h.2.1 + 9) (h.2.2 + 9 + 28 + 28 + 28 + 14 + 14 + 14 + 7 + 7)) h.2.1 r zA) := by
  rw [M24, hB_new]
  rw [hB_I (n := 28) (by decide) rfl, obd_some, hB_next, hB_p, obd_some, hB_I (n := 28) (by decide) rfl, obd_some, hB_next, hB_p, obd_some, hB_I (n := 28) (by decide) rfl, obd_some, hB_next, hB_p, obd_some, hB_I (n := 14) (by decide) rfl, obd_some, hB_next, hB_p, obd_some, B24_39]
  rw [hB_I (n := 14) (by decide) rfl, obd_some, hB_next, hB_p, obd_some, hB_I (n := 14) (by decide) rfl, obd_some, hB_next, hB_p, obd_some, hB_I (n := 7) (by decide) rfl, obd_some, hB_next, hB_p, obd_some, hB_I (n := 7) (by decide) rfl, obd_some, hB_next, hB_p, obd_some, hB_p, obd_some]
  exact congrArg (fun x => some (none, x)) (hB_end (m := 0 + 1 + 1 + 1 + 1 + 1 + 1 + 1 + 1) rfl (jF_end h.2.1 r))
