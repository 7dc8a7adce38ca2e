/-! EVEN. -/
def gn (d : jRD) (p : Nat) : Nat := sP d p 0 - sB d 0 0
def prG (d : jRD) (g : Nat) : Nat → Nat
  | 0 => 1
  | p + 1 => if g.testBit p = true then prG d g p * gn d p else prG d g p
def upS (d : jRD) (g pr : Nat) : Nat → Nat
  | 0 => 0
  | p + 1 => if g.testBit p = true ∧ 0 < gn d p then upS d g pr p + sP d p 0 * (pr / gn d p) else upS d g pr p
def dnS (d : jRD) (g pr : Nat) : Nat → Nat
  | 0 => 0
  | p + 1 => if g.testBit p = true ∧ 0 < gn d p then dnS d g pr p + pr / gn d p else dnS d g pr p
def rise (q : Nat × Nat) (up : Int) (dn : Nat) : Nat × Nat := if (q.1 : Int) * dn < up * q.2 then red up.toNat dn else q
def evP (d : jRD) : Nat → Nat × Nat
  | 0 => (0, 1)
  | p + 1 => rise (evP d p) ((if sB d 0 0 < sP d p 0 then sB d 0 0 else sP d p 0 : Nat) : Int) 1
def grp (d : jRD) (g : Nat) (q : Nat × Nat) : Nat × Nat :=
  if prG d g (rE d) = 0 then q else rise q ((upS d g (prG d g (rE d)) (rE d) : Int) - (rB d * sB d 0 3 * prG d g (rE d) : Nat)) (dnS d g (prG d g (rE d)) (rE d))
def evG (d : jRD) : Nat → Nat × Nat
  | 0 => evP d (rE d)
  | n + 1 => grp d (n + 1) (evG d n)
def evn (d : jRD) : Nat × Nat := evG d (2 ^ rE d - 1)
/-- a share of numbers that are small -/
def qOk (q : Nat × Nat) : Prop := 0 < q.2 ∧ q.1 ≤ 400000000 ∧ q.2 ≤ 4000000
theorem gn_le {d : jRD} (hd : rdOk d) (p : Nat) : gn d p ≤ 99 := by
  have := sP_le hd p 0
  unfold gn; omega
theorem prG_le {d : jRD} (hd : rdOk d) (g : Nat) : ∀ p, prG d g p ≤ 99 ^ p
  | 0 => Nat.le_refl _
  | p + 1 => by
    have ih := prG_le hd g p
    rw [prG, Nat.pow_succ]
    split
    · exact Nat.mul_le_mul ih (gn_le hd p)
    · omega
theorem prG_at {d : jRD} (hd : rdOk d) (g : Nat) {p : Nat} (hb : g.testBit p = true) : ∀ n, p < n + 1 → ∃ o, prG d g (n + 1) = gn d p * o ∧ o ≤ 99 ^ n
  | 0, h => by
    obtain rfl : p = 0 := by omega
    exact ⟨1, by rw [prG, prG, if_pos hb, Nat.mul_comm], Nat.le_refl _⟩
  | n + 1, h => by
    rw [prG]
    by_cases e : p = n + 1
    · subst e
      refine ⟨prG d g (n + 1), ?_, prG_le hd g (n + 1)⟩
      rw [if_pos hb, Nat.mul_comm]
    · obtain ⟨o, h1, h2⟩ := prG_at hd g hb n (by omega)
      split
      · exact ⟨o * gn d (n + 1), by rw [h1, Nat.mul_assoc], by rw [Nat.pow_succ]; exact Nat.mul_le_mul h2 (gn_le hd _)⟩
      · exact ⟨o, h1, by rw [Nat.pow_succ]; omega⟩
theorem oth_le {d : jRD} (hd : rdOk d) {g p : Nat} (hp : p < rE d) (hb : g.testBit p = true) (hg : 0 < gn d p) : prG d g (rE d) / gn d p ≤ 970299 := by
  have h4 := hd.2.1
  obtain ⟨o, h1, h2⟩ := prG_at hd g hb (rE d - 1) (by omega)
  rw [show rE d - 1 + 1 = rE d by omega] at h1
  rw [h1, Nat.mul_div_cancel_left _ hg]
  have : (99 : Nat) ^ (rE d - 1) ≤ 99 ^ 3 := Nat.pow_le_pow_right (by decide) (by omega)
  have e : (99 : Nat) ^ 3 = 970299 := rfl
  omega
theorem dnS_le {d : jRD} (hd : rdOk d) (g : Nat) : ∀ p, p ≤ rE d → dnS d g (prG d g (rE d)) p ≤ p * 970299
  | 0, _ => Nat.zero_le _
  | p + 1, h => by
    have ih := dnS_le hd g p (by omega)
    rw [dnS]
    split
    · next c => have := oth_le hd (show p < rE d by omega) c.1 c.2; rw [Nat.succ_mul]; omega
    · exact Nat.le_trans ih (Nat.mul_le_mul_right _ (Nat.le_succ p))
theorem upS_le {d : jRD} (hd : rdOk d) (g : Nat) : ∀ p, p ≤ rE d → upS d g (prG d g (rE d)) p ≤ p * 96059601
  | 0, _ => Nat.zero_le _
  | p + 1, h => by
    have ih := upS_le hd g p (by omega)
    rw [upS]
    split
    · next c =>
      have h1 := oth_le hd (show p < rE d by omega) c.1 c.2
      have h2 : sP d p 0 * (prG d g (rE d) / gn d p) ≤ 99 * 970299 := Nat.mul_le_mul (sP_le hd p 0) h1
      rw [Nat.succ_mul]; omega
    · exact Nat.le_trans ih (Nat.mul_le_mul_right _ (Nat.le_succ p))
/-- a group with nobody in it has the product 1 -/
theorem dnS_pos {d : jRD} {g pr : Nat} (hpr : ∀ p, g.testBit p = true → p < rE d → 0 < gn d p ∧ gn d p ≤ pr) : ∀ n, n ≤ rE d → (∃ p, p < n ∧ g.testBit p = true) → 0 < dnS d g pr n
  | 0, _, h => by obtain ⟨p, h1, _⟩ := h; omega
  | n + 1, hn, h => by
    rw [dnS]
    by_cases e : g.testBit n = true
    · have := hpr n e (by omega)
      rw [if_pos ⟨e, this.1⟩]
      have := Nat.div_pos this.2 this.1
      omega
    · rw [if_neg (fun c => e c.1)]
      refine dnS_pos hpr n (by omega) ?_
      obtain ⟨p, h1, h2⟩ := h
      refine ⟨p, ?_, h2⟩
      by_cases c : p = n
      · subst c; exact absurd h2 e
      · omega
theorem prG_pos {d : jRD} {g : Nat} : ∀ n, 0 < prG d g n → ∀ p, p < n → g.testBit p = true → 0 < gn d p ∧ gn d p ≤ prG d g n
  | 0, _, p, h, _ => absurd h (Nat.not_lt_zero p)
  | n + 1, h, p, hp, hb => by
    rw [prG] at h ⊢
    by_cases e : g.testBit n = true
    · rw [if_pos e] at h ⊢
      have h1 : 0 < prG d g n := Nat.pos_of_mul_pos_right h
      have h2 : 0 < gn d n := Nat.pos_of_mul_pos_left h
      by_cases c : p = n
      · subst c; exact ⟨h2, Nat.le_mul_of_pos_left _ h1⟩
      · have := prG_pos n h1 p (by omega) hb
        exact ⟨this.1, Nat.le_trans this.2 (Nat.le_mul_of_pos_right _ h2)⟩
    · rw [if_neg e] at h ⊢
      refine prG_pos n h p ?_ hb
      by_cases c : p = n
      · subst c; exact absurd hb e
      · omega
theorem bit_in {g n : Nat} (h0 : 0 < g) (h : g < 2 ^ n) : ∃ p, p < n ∧ g.testBit p = true := by
  refine Classical.byContradiction fun hc => ?_
  have : g = 0 := by
    apply Nat.eq_of_testBit_eq
    intro i
    rw [Nat.zero_testBit]
    by_cases hi : i < n
    · cases e : g.testBit i with
      | false => rfl
      | true => exact absurd ⟨i, hi, e⟩ hc
    · exact Nat.testBit_lt_two_pow (Nat.lt_of_lt_of_le h (Nat.pow_le_pow_right (by decide) (by omega)))
  omega
theorem rise_ok {q : Nat × Nat} {up : Int} {dn : Nat} (hq : qOk q) (h1 : up ≤ 400000000) (h2 : 0 < dn) (h3 : dn ≤ 4000000) : qOk (rise q up dn) := by
  unfold rise
  split
  · have e := red_le up.toNat dn
    unfold qOk
    exact ⟨red_pos h2, Nat.le_trans e.1 (by omega), Nat.le_trans e.2 h3⟩
  · exact hq
theorem evP_ok {d : jRD} (hd : rdOk d) : ∀ p, qOk (evP d p)
  | 0 => by unfold qOk; exact ⟨Nat.one_pos, Nat.zero_le _, Nat.le_of_ble_eq_true rfl⟩
  | p + 1 => by
    have h1 := sP_le hd p 0
    exact rise_ok (evP_ok hd p) (by split <;> omega) (by omega) (by omega)
theorem grp_in {d : jRD} (hd : rdOk d) {g : Nat} (h0 : 0 < g) (h : g < 2 ^ rE d) (hp : ¬ prG d g (rE d) = 0) : 0 < dnS d g (prG d g (rE d)) (rE d) ∧ dnS d g (prG d g (rE d)) (rE d) ≤ 4000000 ∧ upS d g (prG d g (rE d)) (rE d) ≤ 400000000 := by
  have h4 := hd.2.1
  have a1 := dnS_le hd g (rE d) (Nat.le_refl _)
  have a2 := upS_le hd g (rE d) (Nat.le_refl _)
  have a3 : 0 < dnS d g (prG d g (rE d)) (rE d) := dnS_pos (fun p hb hq => prG_pos (rE d) (by omega) p hq hb) (rE d) (Nat.le_refl _) (bit_in h0 h)
  exact ⟨a3, by omega, by omega⟩
theorem grp_ok {d : jRD} (hd : rdOk d) {g : Nat} (h0 : 0 < g) (h : g < 2 ^ rE d) {q : Nat × Nat} (hq : qOk q) : qOk (grp d g q) := by
  unfold grp
  split
  · exact hq
  · next hp =>
    have := grp_in hd h0 h hp
    exact rise_ok hq (by omega) this.1 this.2.1
theorem evG_ok {d : jRD} (hd : rdOk d) : ∀ n, n < 2 ^ rE d → qOk (evG d n)
  | 0, _ => evP_ok hd _
  | n + 1, h => grp_ok hd (Nat.succ_pos n) h (evG_ok hd n (by omega))
theorem max0 {a b : Nat} (ha : a < 1000000) (hb : b < 1000000) : (if nI 0 < nI a - nI b then nI a - nI b else nI 0) = nI (a - b) ∧ (0 < nI a - nI b) = (0 < a - b) := by
  have e : (nI a - nI b).toInt = (a : Int) - b := by
    rw [Int32.toInt_sub, toInt_nI (by omega), toInt_nI (by omega)]
    exact Int.bmod_eq_of_le (by omega) (by omega)
  have h1 : (0 < nI a - nI b) = (0 < a - b) := by
    rw [Int32.lt_iff_toInt_lt, e]
    exact propext ⟨fun h => by have : (0 : Int32).toInt = 0 := by decide
                               omega, fun h => by have : (0 : Int32).toInt = 0 := by decide
                                                  omega⟩
  refine ⟨?_, h1⟩
  by_cases c : 0 < a - b
  · rw [if_pos (show nI 0 < nI a - nI b from h1 ▸ c), nI_sub (by omega)]
  · rw [if_neg (show ¬ nI 0 < nI a - nI b from fun z => c (h1 ▸ z)), show a - b = 0 by omega]
theorem c_maxI (a b : Int32) (h : jHp) : mc 53 [.int a, .int b] h = some (some (.int (if a < b then b else a)), h) := by
  rw [M53]
  split <;> rfl
section EvenRows
variable {h : jHp} {s r : Nat} {q : Nat × Nat} {d : jRD}
theorem c_gain (R0 : RoadAt h r d) (hd : rdOk d) (hB : 0 < rB d) {p : Nat} (hp : p < rE d) : mc 84 [.ref r, .int (nI p)] h = some (some (.int (nI (sP d p 0) - nI (sB d 0 0))), h) := by
  rw [M84]
  simp only [rd_o R0, obd_some, obd_none, Option.toList_some, Option.toList_none, List.cons_append, List.nil_append, cond_true, cond_false, c_ofPersons R0 hd hp (show 0 < 4 by omega), B84_0, B84_6, B84_12, c_ofMounts R0 hd hB (show 0 < 6 by omega)]
theorem c_riseTo (H : ShareAt h s q) (hq : qOk q) {up : Int} {dn : Nat} (h1 : -100000000000 ≤ up) (h2 : up ≤ 400000000) (h3 : 0 < dn) (h4 : dn ≤ 4000000) : mc 82 [.ref s, .long (lz up), .long (lN dn)] h = some (none, hX 5 h s (shF (rise q up dn)) zA) := by
  obtain ⟨q0, q1, q2⟩ := hq
  have b1 : up * q.2 ≤ 400000000 * 4000000 := by
    by_cases c : 0 ≤ up
    · exact Int.mul_le_mul h2 (by omega) (by omega) (by omega)
    · have : up * q.2 ≤ 0 := Int.mul_nonpos_of_nonpos_of_nonneg (by omega) (by omega)
      omega
  have b2 : -100000000000 * 4000000 ≤ up * q.2 := by
    by_cases c : 0 ≤ up
    · have : 0 ≤ up * q.2 := Int.mul_nonneg c (by omega)
      omega
    · have e1 : (-up) * q.2 ≤ 100000000000 * 4000000 := Int.mul_le_mul (by omega) (by omega) (by omega) (by omega)
      rw [Int.neg_mul] at e1
      omega
  have b3 : (q.1 : Int) * dn ≤ 400000000 * 4000000 := Int.mul_le_mul (by omega) (by omega) (by omega) (by omega)
  have b4 : 0 ≤ (q.1 : Int) * dn := Int.mul_nonneg (by omega) (by omega)
  rw [M82, se_1 H, obd_some, se_0 H, obd_some, lN_z, lN_z, lN_z, lz_mul, lz_mul]
  simp only [cmp_gt (show sm (up * q.2) from ⟨by omega, by omega⟩) (show sm ((q.1 : Int) * dn) from ⟨by omega, by omega⟩)]
  unfold rise
  by_cases c : (q.1 : Int) * dn < up * q.2
  · have hup : 0 ≤ up := by
      refine Classical.byContradiction fun z => ?_
      have : up * q.2 ≤ 0 := Int.mul_nonpos_of_nonpos_of_nonneg (by omega) (by omega)
      omega
    rw [if_pos c, if_pos c, se_o H, obd_some]
    have e := c_become (a := up.toNat) (b := dn) H h3 (by omega) (by omega)
    rw [lN_z, lN_z, Int.toNat_of_nonneg hup] at e
    rw [e]
    simp only [obd_some, obd_none, Option.toList_some, Option.toList_none, List.cons_append, List.nil_append, cond_true, cond_false, B82_22]
  · rw [if_neg c, if_neg c, B82_22, show hX 5 h s (shF q) zA = h from H]
end EvenRows
