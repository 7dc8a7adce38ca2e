/-! long numbers -/
def lz (z : Int) : Int64 := Int64.ofInt z
theorem lN_z (n : Nat) : lN n = lz (n : Int) := (Int64.ofInt_eq_ofNat (n := n)).symm
theorem lz_add (a b : Int) : lz a + lz b = lz (a + b) := (Int64.ofInt_add a b).symm
theorem lz_mul (a b : Int) : lz a * lz b = lz (a * b) := (Int64.ofInt_mul a b).symm
theorem lz_sub (a b : Int) : lz a - lz b = lz (a - b) := (Int64.ofInt_sub a b).symm
theorem lz_neg (a : Int) : -lz a = lz (-a) := (Int64.ofInt_neg a).symm
abbrev sm (z : Int) : Prop := -9223372036854775808 ≤ z ∧ z < 9223372036854775808
theorem lz_int {z : Int} (h : sm z) : (lz z).toInt = z := Int64.toInt_ofInt_of_le h.1 h.2
theorem lz_lt {a b : Int} (ha : sm a) (hb : sm b) : (lz a < lz b) = (a < b) := by
  rw [Int64.lt_iff_toInt_lt, lz_int ha, lz_int hb]
theorem lz_eq {a b : Int} (ha : sm a) (hb : sm b) : (lz a = lz b) = (a = b) := by
  rw [← Int64.toInt_inj, lz_int ha, lz_int hb]
theorem lz_div {a b : Nat} (ha : a < 9223372036854775808) (hb : b < 9223372036854775808) (h : 0 < b) : lz (a : Int) / lz (b : Int) = lz ((a / b : Nat) : Int) := by
  have h1 := Nat.div_le_self a b
  have e : (lz (a : Int) / lz (b : Int)).toInt = ((a / b : Nat) : Int) := by
    rw [lg_ldiv_nonneg (by rw [lz_int (by omega)]; omega) (by rw [lz_int (by omega)]; omega), lz_int (by omega), lz_int (by omega)]
    exact (Int.natCast_ediv a b).symm
  apply Int64.toInt_inj.mp
  generalize a / b = q at h1 e ⊢
  rw [e, lz_int (by omega)]
theorem lz_mod {a b : Nat} (ha : a < 9223372036854775808) (hb : b < 9223372036854775808) (h : 0 < b) : lz (a : Int) - lz (a : Int) / lz (b : Int) * lz (b : Int) = lz ((a % b : Nat) : Int) := by
  rw [lz_div ha hb h, lz_mul, lz_sub]
  congr 1
  have := Nat.div_add_mod a b
  rw [Nat.mul_comm] at this
  have e : ((a / b : Nat) : Int) * (b : Int) = ((a / b * b : Nat) : Int) := by rw [Int.natCast_mul]
  omega
theorem cmp_gt {a b : Int} (ha : sm a) (hb : sm b) : (0 < lg_cmp (lz a) (lz b)) = (b < a) := by
  rw [← lz_lt hb ha]; exact propext (lg_cmp_gt _ _)
theorem cmp_lt {a b : Int} (ha : sm a) (hb : sm b) : (lg_cmp (lz a) (lz b) < 0) = (a < b) := by
  rw [← lz_lt ha hb]; exact propext (lg_cmp_lt _ _)
theorem cmp_eq {a b : Int} (ha : sm a) (hb : sm b) : (lg_cmp (lz a) (lz b) = 0) = (a = b) := by
  rw [← lz_eq ha hb]; exact propext (lg_cmp_eq _ _)
/-- in least terms -/
def red (a b : Nat) : Nat × Nat := (a / Nat.gcd a b, b / Nat.gcd a b)
theorem red_le (a b : Nat) : (red a b).1 ≤ a ∧ (red a b).2 ≤ b := ⟨Nat.div_le_self _ _, Nat.div_le_self _ _⟩
theorem red_pos {a b : Nat} (h : 0 < b) : 0 < (red a b).2 := Nat.div_pos (Nat.le_of_dvd h (Nat.gcd_dvd_right a b)) (Nat.gcd_pos_of_pos_right a h)
theorem red_cross {a b : Nat} (h : 0 < b) : (red a b).1 * b = a * (red a b).2 := by
  unfold red
  have hg := Nat.gcd_pos_of_pos_right a h
  obtain ⟨x, hx⟩ := Nat.gcd_dvd_left a b
  obtain ⟨y, hy⟩ := Nat.gcd_dvd_right a b
  generalize Nat.gcd a b = g at hg hx hy ⊢
  subst hx hy
  rw [Nat.mul_div_cancel_left _ hg, Nat.mul_div_cancel_left _ hg]
  rw [Nat.mul_left_comm, Nat.mul_assoc]
theorem red_mul {a b c : Nat} (hc : 0 < c) : red (c * a) (c * b) = red a b := by
  unfold red
  rw [Nat.gcd_mul_left, Nat.mul_div_mul_left _ _ hc, Nat.mul_div_mul_left _ _ hc]
/-- the same share in least terms -/
theorem red_eq {a b c e : Nat} (hb : 0 < b) (he : 0 < e) (h : a * e = c * b) : red a b = red c e := by
  rw [← red_mul (a := a) (b := b) he, ← red_mul (a := c) (b := e) hb, Nat.mul_comm e a, h, Nat.mul_comm c b, Nat.mul_comm e b]
/-! SHARES of the class. -/
def shF (q : Nat × Nat) : Nat → Value := fun k => match k with | 0 => .long (lN q.1) | 1 => .long (lN q.2) | _ => .long 0
abbrev ShareAt (h : jHp) (s : Nat) (q : Nat × Nat) : Prop := At 5 h s (shF q) zA
theorem shF_up (q w : Nat × Nat) : updV (updV (shF q) 0 (.long (lN w.1))) 1 (.long (lN w.2)) = shF w := by
  funext k; unfold updV
  by_cases e : k = 1
  · subst e; rfl
  · rw [if_neg e]
    by_cases e0 : k = 0
    · subst e0; rfl
    · rw [if_neg e0]
      match k, e, e0 with
      | k + 2, _, _ => rfl
theorem l_common (h : jHp) : ∀ (n : Nat) (g l t : Nat) (o0 o1 o2 o3 o5 o7 o9 o10 : Option Value), l < 2 ^ n → n ≤ 62 → g < 4611686018427387904 → t + 2 * n < 200 → R 1 81 9 [o0, o1, o2, o3, some (.long (lN g)), o5, some (.long (lN l)), o7, some (.int (nI t)), o9, o10] [] h = some (some (.long (lN (Nat.gcd g l))), h) := by
  have fin : ∀ (g t : Nat) (o0 o1 o2 o3 o5 o7 o9 o10 : Option Value), t < 200 → R 1 81 9 [o0, o1, o2, o3, some (.long (lN g)), o5, some (.long (lN 0)), o7, some (.int (nI t)), o9, o10] [] h = some (some (.long (lN (Nat.gcd g 0))), h) := by
    intro g t o0 o1 o2 o3 o5 o7 o9 o10 ht
    rw [B81_9, B81_11, if_pos (show nI t < nI 200 by rw [nJ_lt (by omega) (by omega)]; omega), if_pos (show lg_cmp (lN 0) (lN 0) = 0 by decide), B81_45, B81_47, Nat.gcd_zero_right]
  have step : ∀ (g l t : Nat) (o0 o1 o2 o3 o5 o7 o9 o10 : Option Value), t < 200 → 0 < l → l < 4611686018427387904 → g < 4611686018427387904 → ∃ p9, R 1 81 9 [o0, o1, o2, o3, some (.long (lN g)), o5, some (.long (lN l)), o7, some (.int (nI t)), o9, o10] [] h = R 1 81 9 [none, none, none, none, some (.long (lN l)), none, some (.long (lN (g % l))), none, some (.int (nI (t + 1))), p9, none] [] h := by
    intro g l t o0 o1 o2 o3 o5 o7 o9 o10 ht hl0 hl hg
    have e : lN g - lN g / lN l * lN l = lN (g % l) := by rw [lN_z, lN_z, lz_mod (by omega) (by omega) hl0, ← lN_z]
    have ne : ¬ lN l = 0 := by
      rw [show (0 : Int64) = lz 0 from rfl, lN_z, lz_eq (by omega) (by omega)]; omega
    have nc : ¬ lg_cmp (lN l) (lN 0) = 0 := by rw [lN_z, lN_z, cmp_eq (by omega) (by omega)]; omega
    refine ⟨some (.long (lN (g % l))), ?_⟩
    rw [B81_9, B81_11, if_pos (show nI t < nI 200 by rw [nJ_lt (by omega) (by omega)]; omega), if_neg nc, if_neg ne, e, B81_39, nJ_add]
  intro n
  induction n with
  | zero =>
    intro g l t o0 o1 o2 o3 o5 o7 o9 o10 hl _ hg ht
    obtain rfl : l = 0 := by rw [Nat.pow_zero] at hl; omega
    exact fin _ _ _ _ _ _ _ _ _ _ (by omega)
  | succ n ih =>
    intro g l t o0 o1 o2 o3 o5 o7 o9 o10 hl hn hg ht
    have hp : 2 ^ (n + 1) ≤ 2 ^ 62 := Nat.pow_le_pow_right (by decide) hn
    have hp2 : (2 : Nat) ^ 62 = 4611686018427387904 := rfl
    rw [Nat.pow_succ] at hl hp
    by_cases h0 : l = 0
    · subst h0; exact fin _ _ _ _ _ _ _ _ _ _ (by omega)
    · obtain ⟨p9, e1⟩ := step g l t o0 o1 o2 o3 o5 o7 o9 o10 (by omega) (by omega) (by omega) hg
      have hr := Nat.mod_lt g (show 0 < l by omega)
      have eg : Nat.gcd g l = Nat.gcd l (g % l) := by rw [Nat.gcd_comm g l, Nat.gcd_rec l g, Nat.gcd_comm]
      rw [e1, eg]
      generalize g % l = r at hr ⊢
      by_cases hr0 : r = 0
      · subst hr0; exact fin _ _ _ _ _ _ _ _ _ _ (by omega)
      · obtain ⟨p10, e2⟩ := step l r (t + 1) none none none none none none p9 none (by omega) (by omega) (by omega) (by omega)
        have hq := Nat.mod_lt l (show 0 < r by omega)
        have hq2 : l % r + r ≤ l := by
          have h1 := Nat.div_add_mod l r
          have h2 : r * 1 ≤ r * (l / r) := Nat.mul_le_mul (Nat.le_refl r) (Nat.div_pos (by omega) (by omega))
          omega
        have eg2 : Nat.gcd l r = Nat.gcd r (l % r) := by rw [Nat.gcd_comm l r, Nat.gcd_rec r l, Nat.gcd_comm]
        rw [e2, eg2]
        exact ih r (l % r) (t + 1 + 1) none none none none none none p10 none (by omega) (by omega) (by omega) (by omega)
theorem c_common (h : jHp) {a b : Nat} (ha : a < 4611686018427387904) (hb : b < 4611686018427387904) : mc 81 [.long (lN a), .long (lN b)] h = some (some (.long (lN (Nat.gcd a b))), h) := by
  rw [M81]
  exact l_common h 62 a b 0 _ _ _ _ _ _ _ _ (by rw [show (2 : Nat) ^ 62 = 4611686018427387904 from rfl]; exact hb) (Nat.le_refl _) ha (by omega)
theorem c_absL (h : jHp) {a : Nat} (ha : a < 4611686018427387904) : mc 80 [.long (lN a)] h = some (some (.long (lN a)), h) := by
  rw [M80, if_neg (show ¬ lg_cmp (lN a) (lN 0) < 0 by rw [lN_z, lN_z, cmp_lt (by omega) (by omega)]; omega)]
section ShareRows
variable {h : jHp} {s : Nat} {q : Nat × Nat}
theorem se_0 (H : ShareAt h s q) : gJ h s 5 0 = some (lN q.1) := by rw [H.eq]; exact x5_0
theorem se_1 (H : ShareAt h s q) : gJ h s 5 1 = some (lN q.2) := by rw [H.eq]; exact x5_1
theorem se_o (H : ShareAt h s q) : gO h s 5 = some (oF 5 s (shF q)) := by rw [H.eq]; exact gO_hX _ _ _ _ _
theorem c_become (H : ShareAt h s q) {a b : Nat} (hb0 : 0 < b) (ha : a < 4611686018427387904) (hb : b < 4611686018427387904) : mc 79 [.ref s, .long (lN a), .long (lN b)] h = some (none, hX 5 h s (shF (red a b)) zA) := by
  have hg := Nat.gcd_pos_of_pos_right a hb0
  have hgl : Nat.gcd a b ≤ b := Nat.le_of_dvd hb0 (Nat.gcd_dvd_right a b)
  rw [M79, c_absL h ha]
  simp only [obd_some, obd_none, Option.toList_some, Option.toList_none, List.cons_append, List.nil_append, cond_true, cond_false, B79_4]
  rw [c_common h ha hb]
  simp only [obd_some, obd_none, Option.toList_some, Option.toList_none, List.cons_append, List.nil_append, cond_true, cond_false, B79_8]
  have e0 : ¬ lN (Nat.gcd a b) = 0 := by
    rw [show (0 : Int64) = lz 0 from rfl, lN_z, lz_eq (by omega) (by omega)]; omega
  have ec : 0 < lg_cmp (lN (Nat.gcd a b)) (lN 0) := by
    rw [lN_z, lN_z, cmp_gt (by omega) (by omega)]; omega
  have d1 : lN a / lN (Nat.gcd a b) = lN (red a b).1 := by rw [lN_z, lN_z, lz_div (by omega) (by omega) hg, ← lN_z]; rfl
  have d2 : lN b / lN (Nat.gcd a b) = lN (red a b).2 := by rw [lN_z, lN_z, lz_div (by omega) (by omega) hg, ← lN_z]; rfl
  have p0 : ∀ x, pF h s 5 0 (.long x) = some (hX 5 h s (updV (shF q) 0 (.long x)) zA) := by
    intro x
    have e := p5_0 (h := h) (b := s) (F := shF q) (A := zA) (.long x)
    rw [show hX 5 h s (shF q) zA = h from H] at e
    exact e
  rw [if_pos ec, if_neg e0, d1, p0, obd_some, if_neg e0, d2, p5_1, obd_some, B79_33, shF_up]
theorem c_half0 (H : ShareAt h s q) : mc 86 [.ref s, .int (nI 0)] h = some (some (.long (lN q.1)), h) := by
  rw [M86, if_pos (show nI 0 = 0 from rfl), se_0 H, obd_some]
theorem c_half1 (H : ShareAt h s q) : mc 86 [.ref s, .int (nI 1)] h = some (some (.long (lN q.2)), h) := by
  rw [M86, if_neg (show ¬ nI 1 = 0 by decide), se_1 H, obd_some]
end ShareRows
