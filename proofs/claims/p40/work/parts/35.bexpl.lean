/-! going through the rows -/
theorem cal_ok {r m : Nat} {a : List Value} {h : jHp} {k : Option Value → jHp → jRs} (h1 : rk m a < r) (h2 : (entS a).length ≤ mL m) : cal r m a h k = obd none (mc m a h) fun x => k x.1 x.2 := by
  unfold cal
  rw [blt_t h1, show Nat.ble (entS a).length (mL m) = true from Nat.ble_eq.mpr h2]
  rfl
theorem dg_pre {d : jRD} {m i i0 : Nat} (hi : i < i0) (h0 : i0 ≤ rP d * rE d) : dg d m i = m / (rB d + 1) ^ (rP d * rE d - i0) / (rB d + 1) ^ (i0 - 1 - i) % (rB d + 1) := by
  unfold dg
  rw [Nat.div_div_eq_div_mul, ← Nat.pow_add, show rP d * rE d - i0 + (i0 - 1 - i) = rP d * rE d - 1 - i by omega]
theorem dig_ch {B E e code ch : Nat} (hB : 0 < B) (he : e < E) : (code * B ^ E + ch) / B ^ e % B = ch / B ^ e % B := by
  have e1 : code * B ^ E = code * B ^ (E - e - 1) * B * B ^ e := by
    rw [Nat.mul_assoc, Nat.mul_assoc, ← Nat.pow_succ', ← Nat.pow_add, show E - e - 1 + (e + 1) = E by omega]
  rw [e1, Nat.add_comm, Nat.add_mul_div_right _ _ (Nat.pow_pos hB), Nat.add_mul_mod_self_right]
/-- rows with the same beginning have the same first cells -/
theorem dg_same {d : jRD} {m m' i0 : Nat} (h0 : i0 ≤ rP d * rE d) (h : m / (rB d + 1) ^ (rP d * rE d - i0) = m' / (rB d + 1) ^ (rP d * rE d - i0)) : ∀ i, i < i0 → dg d m i = dg d m' i := by
  intro i hi
  rw [dg_pre hi h0, dg_pre hi h0, h]
theorem rkE (b : Value) (k : Nat) (c : Value) (hk : k ≤ 8) : rk 39 [b, .int (nI k), c] = 5 + 2 * (8 - k) + 1 := by
  show 5 + 2 * (8 - (nI k).toNatClampNeg) + 1 = _
  rw [toNat_nI (by omega)]
theorem acc_ok {d : jRD} (hd : rdOk d) (hE : 0 < rE d) : ∀ n, n ≤ 1000000 → TabOk (acc d n).1
  | 0, _ => fun aim t x h => by cases h
  | n + 1, hn => by
    have ih := acc_ok hd hE n (by omega)
    rw [acc]
    split
    · exact wgT_ok 3 ih (rcOf_ok hd hE (sq_ok hd _ 0 (by omega) _) (by omega))
    · exact ih
/-- a wrong piece makes all rows with that beginning wrong -/
theorem rgt_wrong {d : jRD} {m m' k : Nat} (hk : k < rP d) (h : m / (rB d + 1) ^ (rP d * rE d - (k + 1) * rE d) = m' / (rB d + 1) ^ (rP d * rE d - (k + 1) * rE d)) (hw : ¬ wrK d (dg d m) k = none) : rgt d m' = false := by
  have h0 : (k + 1) * rE d ≤ rP d * rE d := Nat.mul_le_mul hk (Nat.le_refl _)
  cases e : wrOn d (dg d m') 0 0 (rP d) 0 with
  | some w => unfold rgt; rw [e]; rfl
  | none =>
    rw [wrOn_none] at e
    exact absurd ((wrK_ext (dg_same h0 h)).trans (e k (Nat.zero_le _) (by omega))) hw
theorem rgt_right {d : jRD} {m : Nat} (h : ∀ i, i < rP d → wrK d (dg d m) i = none) : rgt d m = true := by
  have e : wrOn d (dg d m) 0 0 (rP d) 0 = none := by
    rw [wrOn_none]; exact fun i _ hi => h i (by omega)
  unfold rgt; rw [e]; rfl
