/-! The reference is made. -/
def mF0 : Nat → Value := fun k => if k = 20 then .int (nI 1) else dflt 8 k
theorem mF_end (b k : Nat) : updV (updV (updV (updV (updV (updV (updV (updV (updV (updV (updV (updV (updV (updV (updV (updV (updV (updV (updV (updV (updV (updV (updV (updV (updV (updV (updV (updV (updV (updV (updV (dflt 8) 2 (.ref (b + 0 + 1))) 3 (.ref (b + (0 + 1) + 1))) 4 (.ref (b + (0 + 1 + 1) + 1))) 5 (.ref (b + (0 + 1 + 1 + 1) + 1))) 6 (.ref (b + (0 + 1 + 1 + 1 + 1) + 1))) 7 (.ref (b + (0 + 1 + 1 + 1 + 1 + 1) + 1))) 8 (.ref (b + (0 + 1 + 1 + 1 + 1 + 1 + 1) + 1))) 9 (.ref (b + (0 + 1 + 1 + 1 + 1 + 1 + 1 + 1) + 1))) 10 (.ref (b + (0 + 1 + 1 + 1 + 1 + 1 + 1 + 1 + 1) + 1))) 16 (.ref (b + (0 + 1 + 1 + 1 + 1 + 1 + 1 + 1 + 1 + 1) + 1))) 17 (.ref (b + (0 + 1 + 1 + 1 + 1 + 1 + 1 + 1 + 1 + 1 + 1) + 1))) 18 (.ref (b + (0 + 1 + 1 + 1 + 1 + 1 + 1 + 1 + 1 + 1 + 1 + 1) + 1))) 19 (.ref (b + (0 + 1 + 1 + 1 + 1 + 1 + 1 + 1 + 1 + 1 + 1 + 1 + 1) + 1))) 22 (.ref (b + (0 + 1 + 1 + 1 + 1 + 1 + 1 + 1 + 1 + 1 + 1 + 1 + 1 + 1) + 1))) 23 (.ref (b + (0 + 1 + 1 + 1 + 1 + 1 + 1 + 1 + 1 + 1 + 1 + 1 + 1 + 1 + 1) + 1))) 24 (.ref (b + (0 + 1 + 1 + 1 + 1 + 1 + 1 + 1 + 1 + 1 + 1 + 1 + 1 + 1 + 1 + 1) + 1))) 25 (.ref (b + (0 + 1 + 1 + 1 + 1 + 1 + 1 + 1 + 1 + 1 + 1 + 1 + 1 + 1 + 1 + 1 + 1) + 1))) 26 (.ref (b + (0 + 1 + 1 + 1 + 1 + 1 + 1 + 1 + 1 + 1 + 1 + 1 + 1 + 1 + 1 + 1 + 1 + 1) + 1))) 27 (.ref (b + (0 + 1 + 1 + 1 + 1 + 1 + 1 + 1 + 1 + 1 + 1 + 1 + 1 + 1 + 1 + 1 + 1 + 1 + 1) + 1))) 28 (.ref (b + (0 + 1 + 1 + 1 + 1 + 1 + 1 + 1 + 1 + 1 + 1 + 1 + 1 + 1 + 1 + 1 + 1 + 1 + 1 + 1) + 1))) 29 (.ref (b + (0 + 1 + 1 + 1 + 1 + 1 + 1 + 1 + 1 + 1 + 1 + 1 + 1 + 1 + 1 + 1 + 1 + 1 + 1 + 1 + 1) + 1))) 30 (.ref (b + (0 + 1 + 1 + 1 + 1 + 1 + 1 + 1 + 1 + 1 + 1 + 1 + 1 + 1 + 1 + 1 + 1 + 1 + 1 + 1 + 1 + 1) + 1))) 31 (.ref (b + (0 + 1 + 1 + 1 + 1 + 1 + 1 + 1 + 1 + 1 + 1 + 1 + 1 + 1 + 1 + 1 + 1 + 1 + 1 + 1 + 1 + 1 + 1) + 1))) 32 (.ref (b + (0 + 1 + 1 + 1 + 1 + 1 + 1 + 1 + 1 + 1 + 1 + 1 + 1 + 1 + 1 + 1 + 1 + 1 + 1 + 1 + 1 + 1 + 1 + 1) + 1))) 33 (.ref (b + (0 + 1 + 1 + 1 + 1 + 1 + 1 + 1 + 1 + 1 + 1 + 1 + 1 + 1 + 1 + 1 + 1 + 1 + 1 + 1 + 1 + 1 + 1 + 1 + 1) + 1))) 34 (.ref (b + (0 + 1 + 1 + 1 + 1 + 1 + 1 + 1 + 1 + 1 + 1 + 1 + 1 + 1 + 1 + 1 + 1 + 1 + 1 + 1 + 1 + 1 + 1 + 1 + 1 + 1) + 1))) 40 (.ref (b + (0 + 1 + 1 + 1 + 1 + 1 + 1 + 1 + 1 + 1 + 1 + 1 + 1 + 1 + 1 + 1 + 1 + 1 + 1 + 1 + 1 + 1 + 1 + 1 + 1 + 1 + 1) + 1))) 41 (.ref (b + (0 + 1 + 1 + 1 + 1 + 1 + 1 + 1 + 1 + 1 + 1 + 1 + 1 + 1 + 1 + 1 + 1 + 1 + 1 + 1 + 1 + 1 + 1 + 1 + 1 + 1 + 1 + 1) + 1))) 42 (.ref (b + (0 + 1 + 1 + 1 + 1 + 1 + 1 + 1 + 1 + 1 + 1 + 1 + 1 + 1 + 1 + 1 + 1 + 1 + 1 + 1 + 1 + 1 + 1 + 1 + 1 + 1 + 1 + 1 + 1) + 1))) 43 (.ref (b + (0 + 1 + 1 + 1 + 1 + 1 + 1 + 1 + 1 + 1 + 1 + 1 + 1 + 1 + 1 + 1 + 1 + 1 + 1 + 1 + 1 + 1 + 1 + 1 + 1 + 1 + 1 + 1 + 1 + 1) + 1))) 20 (.int (nI 1)) k = oF 8 b mF0 k := by
  match k with
  | 0 => rfl
  | 1 => rfl
  | 2 => rfl
  | 3 => rfl
  | 4 => rfl
  | 5 => rfl
  | 6 => rfl
  | 7 => rfl
  | 8 => rfl
  | 9 => rfl
  | 10 => rfl
  | 11 => rfl
  | 12 => rfl
  | 13 => rfl
  | 14 => rfl
  | 15 => rfl
  | 16 => rfl
  | 17 => rfl
  | 18 => rfl
  | 19 => rfl
  | 20 => rfl
  | 21 => rfl
  | 22 => rfl
  | 23 => rfl
  | 24 => rfl
  | 25 => rfl
  | 26 => rfl
  | 27 => rfl
  | 28 => rfl
  | 29 => rfl
  | 30 => rfl
  | 31 => rfl
  | 32 => rfl
  | 33 => rfl
  | 34 => rfl
  | 35 => rfl
  | 36 => rfl
  | 37 => rfl
  | 38 => rfl
  | 39 => rfl
  | 40 => rfl
  | 41 => rfl
  | 42 => rfl
  | 43 => rfl
  | 44 => rfl
  | k + 45 => rfl
def mAi (n : Nat) : Nat → Nat → Int32 := fun i t => if i = 27 ∧ t < n then -nI 1 else 0
theorem l_initM {h : jHp} {m : Nat} {F : Nat → Value} : ∀ c t, t + c = 4 → R 1 141 242 [some (.ref m), some (.int (nI t))] [] (hX 8 h m F (mAi t)) = some (none, hX 8 h m F (mAi 4)) := by
  intro c
  induction c with
  | zero =>
    intro t ht
    obtain rfl : t = 4 := ht
    rw [B141_242, if_neg (show ¬ nI 4 < nI 4 from Int32.lt_irrefl)]
  | succ c ih =>
    intro t htc
    rw [B141_242, if_pos (show nI t < nI 4 by rw [nJ_lt (by omega) (by omega)]; omega), x8_40, obd_some, mw_27 (by omega), obd_some, nJ_add, show uA (mAi t) 27 t (-nI 1) = mAi (t + 1) by
      funext i u
      unfold uA mAi
      by_cases e : i = 27 ∧ u = t
      · rw [if_pos e, if_pos (by omega)]
      · rw [if_neg e]
        by_cases e2 : i = 27 ∧ u < t
        · rw [if_pos e2, if_pos (by omega)]
        · rw [if_neg e2, if_neg (by omega)]]
    exact ih (t + 1) (by omega)
theorem M_init (h : jHp) : mc 141 [.ref h.2.1] (newO h 8) = some (none, fr 8 h (h.2.2 + fNT 8 + 3 + 3 + 3 + 18 + 18 + 48 + 36 + 3 + 3 + 6 + 6 + 16 + 12 + 10 + 10 + 10 + 10 + 240 + 24 + 28 + 24 + 4 + 2 + 14 + 2 + 2 + 4 + 4 + 480 + 120) mF0 (mAi 4)) := by
  have e := l_initM (h := hT h (h.2.1 + 30 + 1) (h.2.2 + fNT 8 + 3 + 3 + 3 + 18 + 18 + 48 + 36 + 3 + 3 + 6 + 6 + 16 + 12 + 10 + 10 + 10 + 10 + 240 + 24 + 28 + 24 + 4 + 2 + 14 + 2 + 2 + 4 + 4 + 480 + 120)) (m := h.2.1) (F := mF0) 4 0 rfl
  rw [show mAi 0 = zA by funext i t; unfold mAi; rw [if_neg (by omega)]; rfl] at e
  rw [M141, hB_new]
  rw [hB_I (n := 3) (by decide) rfl, obd_some, hB_next, hB_p, obd_some, hB_I (n := 3) (by decide) rfl, obd_some, hB_next, hB_p, obd_some, hB_I (n := 3) (by decide) rfl, obd_some, hB_next, hB_p, obd_some, hB_I (n := 18) (by decide) rfl, obd_some, hB_next, hB_p, obd_some]
  rw [B141_36, hB_I (n := 18) (by decide) rfl, obd_some, hB_next, hB_p, obd_some, hB_I (n := 48) (by decide) rfl, obd_some, hB_next, hB_p, obd_some, hB_I (n := 36) (by decide) rfl, obd_some, hB_next, hB_p, obd_some, hB_I (n := 3) (by decide) rfl, obd_some, hB_next, hB_p, obd_some, hB_I (n := 3) (by decide) rfl, obd_some, hB_next, hB_p, obd_some]
  rw [B141_74, hB_I (n := 6) (by decide) rfl, obd_some, hB_next, hB_p, obd_some, hB_I (n := 6) (by decide) rfl, obd_some, hB_next, hB_p, obd_some, hB_I (n := 16) (by decide) rfl, obd_some, hB_next, hB_p, obd_some, hB_I (n := 12) (by decide) rfl, obd_some, hB_next, hB_p, obd_some, hB_I (n := 10) (by decide) rfl, obd_some, hB_next, hB_p, obd_some]
  rw [B141_114, hB_I (n := 10) (by decide) rfl, obd_some, hB_next, hB_p, obd_some, hB_I (n := 10) (by decide) rfl, obd_some, hB_next, hB_p, obd_some, hB_I (n := 10) (by decide) rfl, obd_some, hB_next, hB_p, obd_some, hB_I (n := 240) (by decide) rfl, obd_some, hB_next, hB_p, obd_some, hB_I (n := 24) (by decide) rfl, obd_some, hB_next, hB_p, obd_some]
  rw [B141_155, hB_I (n := 28) (by decide) rfl, obd_some, hB_next, hB_p, obd_some, hB_I (n := 24) (by decide) rfl, obd_some, hB_next, hB_p, obd_some, hB_I (n := 4) (by decide) rfl, obd_some, hB_next, hB_p, obd_some, hB_I (n := 2) (by decide) rfl, obd_some, hB_next, hB_p, obd_some, hB_I (n := 14) (by decide) rfl, obd_some, hB_next, hB_p, obd_some]
  rw [B141_192, hB_I (n := 2) (by decide) rfl, obd_some, hB_next, hB_p, obd_some, hB_I (n := 2) (by decide) rfl, obd_some, hB_next, hB_p, obd_some, hB_I (n := 4) (by decide) rfl, obd_some, hB_next, hB_p, obd_some, hB_I (n := 4) (by decide) rfl, obd_some, hB_next, hB_p, obd_some, hB_I (n := 480) (by decide) rfl, obd_some, hB_next, hB_p, obd_some]
  rw [B141_230, hB_I (n := 120) (by decide) rfl, obd_some, hB_next, hB_p, obd_some, hB_p, obd_some]
  rw [hB_end (F' := mF0) (m := 0 + 1 + 1 + 1 + 1 + 1 + 1 + 1 + 1 + 1 + 1 + 1 + 1 + 1 + 1 + 1 + 1 + 1 + 1 + 1 + 1 + 1 + 1 + 1 + 1 + 1 + 1 + 1 + 1 + 1 + 1) rfl (mF_end h.2.1)]
  exact e
theorem MR_st0 : MR st0 mF0 (mAi 4) := by
  refine ⟨⟨rfl, rfl, rfl, rfl, rfl⟩, fun i hi => absurd hi (Nat.not_lt_zero i), fun q hq => absurd hq (Nat.not_lt_zero q), fun k hk => ⟨?_, fun l z => (by cases z), fun t ht => absurd ht (Nat.not_lt_zero t)⟩⟩
  unfold mAi
  rw [if_pos ⟨rfl, hk⟩]
  rfl
