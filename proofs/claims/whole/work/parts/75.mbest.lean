/-! The reference goes through all rows. -/
theorem cmpN_gt {a b : Nat} (ha : a < 4611686018427387904) (hb : b < 4611686018427387904) : (0 < lg_cmp (lN a) (lN b)) = (b < a) := by
  rw [lN_z, lN_z, cmp_gt (by omega) (by omega)]; exact propext ⟨fun _ => by omega, fun _ => by omega⟩
theorem lN_i32 (n : Nat) : (lN n).toInt32 = nI n := Int64.toInt32_ofNat'
theorem wrOn_9 {d : jRD} (hd : rdOk d) (c : Nat → Nat) (g mn : Nat) : (cmI (wrOn d c g mn (rP d) 0) = -nI 9) = (wrOn d c g mn (rP d) 0 = none) := by
  have h4 := hd.2.1
  have h6 := hd.1
  cases e : wrOn d c g mn (rP d) 0 with
  | none => exact propext ⟨fun _ => rfl, fun _ => rfl⟩
  | some w =>
    have := wrOn_lt h4 _ _ w e
    exact propext ⟨fun z => by rw [show cmI (some w) = nI w from rfl, neg9_ne (by omega)] at z; exact z.elim, fun z => by cases z⟩
theorem rgt_none {d : jRD} {n : Nat} : (rgt d n = true) = (wrOn d (dg d n) 0 0 (rP d) 0 = none) := by
  unfold rgt; rw [Option.isNone_iff_eq_none]
section MBest
variable {h : jHp} {m i : Nat} {d : jRD} {F : Nat → Value} {A : Nat → Nat → Int32}
theorem l_many (D0 : MRd d i A) (hd : rdOk d) (hi : i < 3) : ∀ n t o3, t + n = rP d * rE d → R 1 202 5 [some (.ref m), some (.int (nI i)), some (.long (lN (pwl (rB d + 1) t))), o3, some (.int (nI t))] [] (hX 8 h m F A) = some (some (.long (lN (pwl (rB d + 1) (rP d * rE d)))), hX 8 h m F A) := by
  have h24 := cells_le hd
  have h2 := hd.2.2.1
  intro n
  induction n with
  | zero =>
    intro t o3 ht
    obtain rfl : t = rP d * rE d := ht
    rw [B202_5, x8_2, obd_some, m_1 hi, obd_some, x8_3, obd_some, m_2 hi, obd_some, D0.1, D0.2.1, nI_mul, if_neg (show ¬ nI (rP d * rE d) < nI (rP d * rE d) from Int32.lt_irrefl)]
  | succ n ih =>
    intro t o3 htn
    have ht : t < rP d * rE d := by omega
    have hp := pwl_le (show rB d + 1 ≤ 3 by omega) t
    rw [B202_5, x8_2, obd_some, m_1 hi, obd_some, x8_3, obd_some, m_2 hi, obd_some, D0.1, D0.2.1, nI_mul, if_pos (show nI t < nI (rP d * rE d) by rw [nJ_lt (by omega) (by omega)]; exact ht)]
    by_cases c : 65536 < pwl (rB d + 1) t
    · have e := pwl_big c (n + 1)
      rw [htn] at e
      rw [if_pos (show 0 < lg_cmp (lN (pwl (rB d + 1) t)) (lN 65536) by rw [cmpN_gt (by omega) (by omega)]; exact c), e]
    · rw [if_neg (show ¬ 0 < lg_cmp (lN (pwl (rB d + 1) t)) (lN 65536) by rw [cmpN_gt (by omega) (by omega)]; exact c), x8_4, obd_some, m_3 hi, obd_some, D0.2.2.1, B202_38, nJ_add, nJ_add, nI_l (by omega), lN_mul]
      have e := ih (t + 1) none (by omega)
      rw [pwl, if_pos (by omega)] at e
      exact e
theorem c_mMany (D0 : MRd d i A) (hd : rdOk d) (hi : i < 3) : mc 202 [.ref m, .int (nI i)] (hX 8 h m F A) = some (some (.long (lN (pwl (rB d + 1) (rP d * rE d)))), hX 8 h m F A) := by
  rw [M202]
  exact l_many D0 hd hi (rP d * rE d) 0 none (Nat.zero_add _)
theorem many_cmp (hd : rdOk d) : (0 < lg_cmp (lN (pwl (rB d + 1) (rP d * rE d))) (lN 65536)) = many d := by
  have h2 := hd.2.2.1
  have hp := pwl_le (show rB d + 1 ≤ 3 by omega) (rP d * rE d)
  rw [cmpN_gt (by omega) (by omega), many_pwl]
/-- the digits of a row, from cell n on -/
def tkA (d : jRD) (row n : Nat) (A : Nat → Nat → Int32) : Nat → Nat → Int32 := fun j t => if j = 19 ∧ n ≤ t ∧ t < rP d * rE d then nI (dg d row t) else A j t
theorem tkA_s {row n : Nat} (hn : n < rP d * rE d) (A : Nat → Nat → Int32) : uA (tkA d row (n + 1) A) 19 n (nI (dg d row n)) = tkA d row n A := by
  funext j t
  unfold uA tkA
  by_cases e : j = 19 ∧ t = n
  · rw [if_pos e, if_pos (by omega), e.2]
  · rw [if_neg e]
    by_cases e2 : j = 19 ∧ n + 1 ≤ t ∧ t < rP d * rE d
    · rw [if_pos e2, if_pos (by omega)]
    · rw [if_neg e2, if_neg (by omega)]
theorem tkA_n {row n j : Nat} (hj : j ≠ 19) : tkA d row n A j = A j := by
  funext t; unfold tkA; rw [if_neg (fun z => hj z.1)]
theorem l_take (D0 : MRd d i A) (hd : rdOk d) (hi : i < 3) {row : Nat} (hr : row < 2147483648) : ∀ n o2, n ≤ rP d * rE d → R 1 204 19 [some (.ref m), some (.int (nI i)), o2, some (.int (nI (row / (rB d + 1) ^ (rP d * rE d - n)))), some (.int (nI n - nI 1))] [] (hX 8 h m F (tkA d row n A)) = some (none, hX 8 h m F (tkA d row 0 A)) := by
  have h24 := cells_le hd
  have h2 := hd.2.2.1
  intro n
  induction n with
  | zero =>
    intro o2 _
    rw [B204_19, if_pos (show nI 0 - nI 1 < 0 by decide)]
  | succ n ih =>
    intro o2 hn
    have hq := Nat.div_le_self row ((rB d + 1) ^ (rP d * rE d - (n + 1)))
    have e3 : ∀ j, j ≠ 19 → tkA d row (n + 1) A j = A j := fun j hj => tkA_n hj
    have e2 : ∀ j, j ≠ 19 → tkA d row n A j = A j := fun j hj => tkA_n hj
    rw [B204_19, nI_sub (by omega), Nat.add_sub_cancel, if_neg (nI_nneg (show n < 2147483648 by omega)), x8_27, obd_some, x8_4, obd_some, m_3 hi, obd_some, e3 3 (by omega), D0.2.2.1, nJ_add, if_neg (show ¬ nI (rB d + 1) = 0 by rw [nI_eq0 (by omega)]; omega), nI_mod (by omega) (by omega), mw_19 (show n < 24 by omega), obd_some, show row / (rB d + 1) ^ (rP d * rE d - (n + 1)) % (rB d + 1) = dg d row n by unfold dg; rw [show rP d * rE d - 1 - n = rP d * rE d - (n + 1) by omega], tkA_s (by omega), x8_4, obd_some, m_3 hi, obd_some, e2 3 (by omega), D0.2.2.1, B204_49, nJ_add, if_neg (show ¬ nI (rB d + 1) = 0 by rw [nI_eq0 (by omega)]; omega), nI_div (by omega) (by omega), ← Int32.sub_eq_add_neg, Nat.div_div_eq_div_mul, ← Nat.pow_succ, show (rP d * rE d - (n + 1)).succ = rP d * rE d - n by omega]
    exact ih none (by omega)
theorem c_take (D0 : MRd d i A) (hd : rdOk d) (hi : i < 3) {row : Nat} (hr : row < 2147483648) : mc 204 [.ref m, .int (nI i), .int (nI row)] (hX 8 h m F A) = some (none, hX 8 h m F (tkA d row 0 A)) ∧ ME d (dg d row) i (tkA d row 0 A) ∧ Bs F A F (tkA d row 0 A) := by
  refine ⟨?_, ⟨D0.of fun j hj => tkA_n (by omega), hd, hi, fun t ht => ?_, fun t => dg_le d row t⟩, ⟨rfl, rfl, rfl, rfl, rfl⟩, fun j hj => tkA_n (by omega)⟩
  · rw [M204, x8_2, obd_some, m_1 hi, obd_some, x8_3, obd_some, m_2 hi, obd_some, D0.1, D0.2.1, nI_mul]
    have e := l_take (h := h) (m := m) (F := F) D0 hd hi hr (rP d * rE d) (some (.int (nI row))) (Nat.le_refl _)
    rw [Nat.sub_self, Nat.pow_zero, Nat.div_one, show tkA d row (rP d * rE d) A = A by funext j t; unfold tkA; rw [if_neg (by omega)]] at e
    exact e
  · unfold tkA; rw [if_pos ⟨rfl, Nat.zero_le _, ht⟩]
/-- a row is tried -/
theorem c_try {A0 : Nat → Nat → Int32} {F0 : Nat → Value} (D0 : MRd d i A0) (hd : rdOk d) (hP : 0 < rP d) (hi : i < 3) {row : Nat} (hr : row < 2147483648) (B : Bs F0 A0 F A) :
    ∃ A1 F2 A2, mc 204 [.ref m, .int (nI i), .int (nI row)] (hX 8 h m F A) = some (none, hX 8 h m F A1) ∧ mc 181 [.ref m, .int (nI i), .int (nI 0), .int (nI 0)] (hX 8 h m F A1) = some (some (.int (cmI (wrOn d (dg d row) 0 0 (rP d) 0))), hX 8 h m F2 A2) ∧ Bs F0 A0 F2 A2 ∧ F2 37 = F 37 ∧ (rgt d row = true → TR d (dg d row) 0 0 F2 A2) ∧ (∃ a b, F2 35 = .int (nI a) ∧ F2 36 = .int (nI b)) ∧ ME d (dg d row) i A2 := by
  have D1 : MRd d i A := D0.of fun j hj => B.2 j (by omega)
  obtain ⟨e1, E1, B1⟩ := c_take (h := h) (m := m) (F := F) D1 hd hi hr
  obtain ⟨F2, A2, e2, f1, f2, f3, f4⟩ := c_goThrough (h := h) (m := m) (F := F) E1 hP (Nat.zero_le 60)
  refine ⟨_, F2, A2, e1, e2, B.tr (B1.tr ⟨⟨f1 0 (by decide) (by decide), f1 1 (by decide) (by decide), f1 20 (by decide) (by decide), f1 21 (by decide) (by decide), f1 44 (by decide) (by decide)⟩, fun j hj => f2 j (by omega)⟩), f1 37 (by decide) (by decide), fun z => f3 (rgt_none ▸ z), f4, E1.of fun j hj => f2 j (by omega)⟩
theorem rec4_out {row w : Nat} (hw : w < 4) : outN d (sq d (dg d row) 0 0 (rP d)) w = rec4 d row w := by
  rcases (by omega : w = 0 ∨ w = 1 ∨ w = 2 ∨ w = 3) with rfl | rfl | rfl | rfl <;> rfl
theorem rec4_lt (hd : rdOk d) (hE : 0 < rE d) (row : Nat) {w : Nat} (hw : w < 4) : rec4 d row w < 1000000 := by
  have h6 := hd.1
  have g := sq_ok hd (dg d row) 0 (Nat.zero_le 60) (rP d)
  rcases (by omega : w = 0 ∨ w = 1 ∨ w = 2 ∨ w = 3) with rfl | rfl | rfl | rfl
  · have := lastN_le (d := d) g; show lastN d (sq d (dg d row) 0 0 (rP d)) < 1000000; omega
  · have g0 := mnB_at (g := ga (sq d (dg d row) 0 0 (rP d))) (rE d) 0 hE; have g1 := g.1 0; show mnB (ga (sq d (dg d row) 0 0 (rP d))) (rE d) < 1000000; omega
  · have := mostN_le (d := d) g; show mostN d (sq d (dg d row) 0 0 (rP d)) < 1000000; omega
  · have := g.2.2.2.2.2.1; show gt (sq d (dg d row) 0 0 (rP d)) < 1000000; omega
end MBest
