/-! EVEN, the mathematics: the greatest of the bounds, and what all ride by then. -/
theorem rise_spec {q : Nat × Nat} {up : Int} {dn : Nat} (hq : 0 < q.2) (hd : 0 < dn) :
    0 < (rise q up dn).2 ∧ up * ((rise q up dn).2 : Int) ≤ ((rise q up dn).1 : Int) * dn ∧ (q.1 : Int) * ((rise q up dn).2 : Int) ≤ ((rise q up dn).1 : Int) * q.2 ∧ (rise q up dn = q ∨ up * ((rise q up dn).2 : Int) = ((rise q up dn).1 : Int) * dn) := by
  unfold rise
  by_cases h : (q.1 : Int) * dn < up * q.2
  · rw [if_pos h]
    have h0 : (0 : Int) ≤ (q.1 : Int) * dn := Int.mul_nonneg (Int.natCast_nonneg _) (Int.natCast_nonneg _)
    have hup : 0 < up := by
      refine Int.not_le.mp (fun z => ?_)
      have : up * (q.2 : Int) ≤ 0 := Int.mul_nonpos_of_nonpos_of_nonneg z (Int.natCast_nonneg _)
      omega
    have ea : ((up.toNat : Nat) : Int) = up := Int.toNat_of_nonneg (by omega)
    have ec := red_cross (a := up.toNat) hd
    have hp := red_pos (a := up.toNat) hd
    generalize red up.toNat dn = w at ec hp ⊢
    have ec : (w.1 : Int) * dn = up * w.2 := by
      rw [← ea]; exact_mod_cast ec
    refine ⟨hp, by omega, ?_, Or.inr (by omega)⟩
    have hdn : (0 : Int) < dn := by omega
    refine Int.le_of_mul_le_mul_right ?_ hdn
    have h1 : (q.1 : Int) * dn * w.2 ≤ up * q.2 * w.2 := Int.mul_le_mul_of_nonneg_right (by omega) (Int.natCast_nonneg _)
    have e1 : (q.1 : Int) * w.2 * dn = (q.1 : Int) * dn * w.2 := by grind
    have e2 : (w.1 : Int) * q.2 * dn = up * q.2 * w.2 := by grind
    omega
  · rw [if_neg h]
    exact ⟨hq, by omega, Int.le_refl _, Or.inl rfl⟩
theorem fr_tr {up : Int} {dn : Nat} {q q' : Nat × Nat} (hq : 0 < q.2) (h1 : up * (q.2 : Int) ≤ (q.1 : Int) * dn) (h2 : (q.1 : Int) * q'.2 ≤ (q'.1 : Int) * q.2) : up * (q'.2 : Int) ≤ (q'.1 : Int) * dn := by
  have hq : (0 : Int) < q.2 := by omega
  refine Int.le_of_mul_le_mul_right ?_ hq
  have a1 : up * (q.2 : Int) * q'.2 ≤ (q.1 : Int) * dn * q'.2 := Int.mul_le_mul_of_nonneg_right h1 (Int.natCast_nonneg _)
  have a2 : (q.1 : Int) * q'.2 * dn ≤ (q'.1 : Int) * q.2 * dn := Int.mul_le_mul_of_nonneg_right h2 (Int.natCast_nonneg _)
  have e1 : up * (q'.2 : Int) * q.2 = up * (q.2 : Int) * q'.2 := by grind
  have e2 : (q.1 : Int) * dn * q'.2 = (q.1 : Int) * q'.2 * dn := by grind
  have e3 : (q'.1 : Int) * dn * q.2 = (q'.1 : Int) * q.2 * dn := by grind
  omega
/-- minutes a mile at best -/
def mnP (d : jRD) (p : Nat) : Nat := if sB d 0 0 < sP d p 0 then sB d 0 0 else sP d p 0
def upg (d : jRD) (g : Nat) : Int := (upS d g (prG d g (rE d)) (rE d) : Int) - (rB d * sB d 0 3 * prG d g (rE d) : Nat)
def dng (d : jRD) (g : Nat) : Nat := dnS d g (prG d g (rE d)) (rE d)
theorem evP_spec (d : jRD) : ∀ n, 0 < (evP d n).2 ∧ (∀ p, p < n → (mnP d p : Int) * ((evP d n).2 : Int) ≤ ((evP d n).1 : Int) * (1 : Nat)) ∧ (n = 0 ∨ ∃ p, p < n ∧ (mnP d p : Int) * ((evP d n).2 : Int) = ((evP d n).1 : Int) * (1 : Nat))
  | 0 => ⟨Nat.one_pos, fun p h => absurd h (Nat.not_lt_zero p), Or.inl rfl⟩
  | n + 1 => by
    obtain ⟨h1, h2, h3⟩ := evP_spec d n
    obtain ⟨r1, r2, r3, r4⟩ := rise_spec (q := evP d n) (up := (mnP d n : Int)) (dn := 1) h1 Nat.one_pos
    have e : evP d (n + 1) = rise (evP d n) (mnP d n : Int) 1 := rfl
    rw [e]
    refine ⟨r1, fun p hp => ?_, Or.inr ?_⟩
    · by_cases y : p = n
      · subst y; exact r2
      · exact fr_tr h1 (h2 p (by omega)) r3
    · rcases r4 with q | q
      · rw [q] at r2 ⊢
        rcases h3 with z | ⟨p, z1, z2⟩
        · subst z
          refine ⟨0, Nat.one_pos, ?_⟩
          have e0 : evP d 0 = (0, 1) := rfl
          rw [e0] at r2 ⊢
          have r2 : (mnP d 0 : Int) * (1 : Nat) ≤ ((0 : Nat) : Int) * (1 : Nat) := r2
          show (mnP d 0 : Int) * (1 : Nat) = ((0 : Nat) : Int) * (1 : Nat)
          omega
        · exact ⟨p, by omega, z2⟩
      · exact ⟨n, by omega, q⟩
theorem evG_spec {d : jRD} (hd : rdOk d) (hE : 0 < rE d) : ∀ n, n < 2 ^ rE d → 0 < (evG d n).2 ∧ (∀ p, p < rE d → (mnP d p : Int) * ((evG d n).2 : Int) ≤ ((evG d n).1 : Int) * (1 : Nat)) ∧ (∀ g, 0 < g → g ≤ n → ¬ prG d g (rE d) = 0 → upg d g * ((evG d n).2 : Int) ≤ ((evG d n).1 : Int) * (dng d g : Nat)) ∧ ((∃ p, p < rE d ∧ (mnP d p : Int) * ((evG d n).2 : Int) = ((evG d n).1 : Int) * (1 : Nat)) ∨ ∃ g, 0 < g ∧ g ≤ n ∧ ¬ prG d g (rE d) = 0 ∧ upg d g * ((evG d n).2 : Int) = ((evG d n).1 : Int) * (dng d g : Nat))
  | 0, _ => by
    obtain ⟨h1, h2, h3⟩ := evP_spec d (rE d)
    exact ⟨h1, h2, fun g h4 h5 => absurd h4 (by omega), Or.inl (h3.resolve_left (by omega))⟩
  | n + 1, hn => by
    obtain ⟨h1, h2, h3, h4⟩ := evG_spec hd hE n (by omega)
    have e : evG d (n + 1) = if prG d (n + 1) (rE d) = 0 then evG d n else rise (evG d n) (upg d (n + 1)) (dng d (n + 1)) := rfl
    rw [e]
    by_cases z : prG d (n + 1) (rE d) = 0
    · rw [if_pos z]
      refine ⟨h1, h2, fun g g1 g2 g3 => ?_, ?_⟩
      · by_cases y : g = n + 1
        · subst y; exact absurd z g3
        · exact h3 g g1 (by omega) g3
      · rcases h4 with q | ⟨g, q1, q2, q3, q4⟩
        · exact Or.inl q
        · exact Or.inr ⟨g, q1, by omega, q3, q4⟩
    · rw [if_neg z]
      have hdn := (grp_in hd (Nat.succ_pos n) hn z).1
      obtain ⟨r1, r2, r3, r4⟩ := rise_spec (q := evG d n) (up := upg d (n + 1)) (dn := dng d (n + 1)) h1 hdn
      refine ⟨r1, fun p hp => fr_tr h1 (h2 p hp) r3, fun g g1 g2 g3 => ?_, ?_⟩
      · by_cases y : g = n + 1
        · subst y; exact r2
        · exact fr_tr h1 (h3 g g1 (by omega) g3) r3
      · rcases r4 with q | q
        · rw [q]
          rcases h4 with w | ⟨g, q1, q2, q3, q4⟩
          · exact Or.inl w
          · exact Or.inr ⟨g, q1, by omega, q3, q4⟩
        · exact Or.inr ⟨n + 1, Nat.succ_pos n, Nat.le_refl _, z, q⟩
/-- all gains -/
def prA (d : jRD) : Nat → Nat
  | 0 => 1
  | p + 1 => if 0 < gn d p then prA d p * gn d p else prA d p
theorem prA_pos (d : jRD) : ∀ n, 0 < prA d n
  | 0 => Nat.one_pos
  | n + 1 => by
    rw [prA]; split
    · next h => exact Nat.mul_pos (prA_pos d n) h
    · exact prA_pos d n
theorem prA_at (d : jRD) {p : Nat} (hg : 0 < gn d p) : ∀ n, p < n → ∃ o, prA d n = gn d p * o
  | 0, h => absurd h (Nat.not_lt_zero p)
  | n + 1, h => by
    rw [prA]
    by_cases e : p = n
    · subst e
      exact ⟨prA d p, by rw [if_pos hg, Nat.mul_comm]⟩
    · obtain ⟨o, h1⟩ := prA_at d hg n (by omega)
      split
      · exact ⟨o * gn d n, by rw [h1, Nat.mul_assoc]⟩
      · exact ⟨o, h1⟩
def otA (d : jRD) (p : Nat) : Nat := prA d (rE d) / gn d p
theorem otA_e {d : jRD} {p : Nat} (hp : p < rE d) (hg : 0 < gn d p) : gn d p * otA d p = prA d (rE d) := by
  obtain ⟨o, h⟩ := prA_at d hg (rE d) hp
  unfold otA
  rw [h, Nat.mul_div_cancel_left _ hg]
theorem prG_e {d : jRD} (hd : rdOk d) {g p : Nat} (hp : p < rE d) (hb : g.testBit p = true) (hg : 0 < gn d p) : gn d p * (prG d g (rE d) / gn d p) = prG d g (rE d) := by
  obtain ⟨o, h1, -⟩ := prG_at hd g hb (rE d - 1) (by omega)
  rw [show rE d - 1 + 1 = rE d by omega] at h1
  rw [h1, Nat.mul_div_cancel_left _ hg]
/-- what those of a group would ride by u a l, by all gains -/
def zzS (d : jRD) (u l : Nat) (g : Nat) : Nat → Int
  | 0 => 0
  | p + 1 => if g.testBit p = true ∧ 0 < gn d p then zzS d u l g p + ((sP d p 0 : Int) * l - u) * otA d p else zzS d u l g p
/-- of those who gain and would be later on foot -/
def zzP (d : jRD) (u l : Nat) : Nat → Int
  | 0 => 0
  | p + 1 => if 0 < gn d p ∧ u < sP d p 0 * l then zzP d u l p + ((sP d p 0 : Int) * l - u) * otA d p else zzP d u l p
theorem zzS_le (d : jRD) (u l g : Nat) : ∀ n, zzS d u l g n ≤ zzP d u l n
  | 0 => Int.le_refl _
  | p + 1 => by
    have ih := zzS_le d u l g p
    rw [zzS, zzP]
    have ho : (0 : Int) ≤ otA d p := Int.natCast_nonneg _
    by_cases h1 : 0 < gn d p ∧ u < sP d p 0 * l
    · have h2 : (0 : Int) ≤ (sP d p 0 : Int) * l - u := by
        have h3 : (u : Int) < (sP d p 0 : Int) * l := by exact_mod_cast h1.2
        omega
      have h3 := Int.mul_nonneg h2 ho
      rw [if_pos h1]
      split <;> omega
    · rw [if_neg h1]
      by_cases h2 : g.testBit p = true ∧ 0 < gn d p
      · rw [if_pos h2]
        have h3 : (sP d p 0 : Int) * l - u ≤ 0 := by
          have h4 : ¬ u < sP d p 0 * l := fun z => h1 ⟨h2.2, z⟩
          have h5 : (sP d p 0 : Int) * l ≤ u := by exact_mod_cast (Nat.not_lt.mp h4)
          omega
        have h4 := Int.mul_nonpos_of_nonpos_of_nonneg h3 ho
        omega
      · rw [if_neg h2]; exact ih
theorem zzS_scale {d : jRD} (hd : rdOk d) (u l g : Nat) : ∀ n, n ≤ rE d → (prA d (rE d) : Int) * ((upS d g (prG d g (rE d)) n : Int) * l - u * (dnS d g (prG d g (rE d)) n : Nat)) = (prG d g (rE d) : Int) * zzS d u l g n
  | 0, _ => by
    show (prA d (rE d) : Int) * (((0 : Nat) : Int) * l - u * ((0 : Nat) : Int)) = (prG d g (rE d) : Int) * 0
    simp
  | p + 1, h => by
    have ih := zzS_scale hd u l g p (by omega)
    rw [upS, dnS, zzS]
    by_cases h1 : g.testBit p = true ∧ 0 < gn d p
    · rw [if_pos h1, if_pos h1, if_pos h1]
      have e1 := otA_e (show p < rE d by omega) h1.2
      have e2 := prG_e hd (show p < rE d by omega) h1.1 h1.2
      generalize prG d g (rE d) / gn d p = o at e2 ⊢
      generalize otA d p = oa at e1 ⊢
      generalize upS d g (prG d g (rE d)) p = U at ih ⊢
      generalize dnS d g (prG d g (rE d)) p = V at ih ⊢
      generalize zzS d u l g p = Z at ih ⊢
      have e1 : (gn d p : Int) * oa = prA d (rE d) := by exact_mod_cast e1
      have e2 : (gn d p : Int) * o = prG d g (rE d) := by exact_mod_cast e2
      generalize (prA d (rE d) : Int) = A at e1 ih ⊢
      generalize (prG d g (rE d) : Int) = B at e2 ih ⊢
      rw [Int.natCast_add, Int.natCast_add, Int.natCast_mul]
      grind
    · rw [if_neg h1, if_neg h1, if_neg h1]; exact ih
