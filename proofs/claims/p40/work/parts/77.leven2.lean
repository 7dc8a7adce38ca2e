/-! EVEN, the mathematics: what the law asks of it. -/
theorem zzP_mask {d : jRD} (u l : Nat) : ∀ n, n ≤ rE d → zzS d u l (msk (fun p => decide (0 < gn d p ∧ u < sP d p 0 * l)) (rE d)) n = zzP d u l n
  | 0, _ => rfl
  | p + 1, h => by
    have ih := zzP_mask (d := d) u l p (by omega)
    rw [zzS, zzP, ih, msk_bit, decide_eq_true (show p < rE d by omega), Bool.true_and]
    by_cases h1 : 0 < gn d p ∧ u < sP d p 0 * l
    · rw [if_pos h1, if_pos ⟨decide_eq_true h1, h1.1⟩]
    · rw [if_neg h1, if_neg (fun z => h1 (of_decide_eq_true z.1))]
theorem prG_mask {d : jRD} {f : Nat → Bool} (hf : ∀ p, f p = true → 0 < gn d p) : ∀ n, n ≤ rE d → 0 < prG d (msk f (rE d)) n
  | 0, _ => Nat.one_pos
  | p + 1, h => by
    have ih := prG_mask hf p (by omega)
    rw [prG, msk_bit, decide_eq_true (show p < rE d by omega), Bool.true_and]
    split
    · next e => exact Nat.mul_pos ih (hf p e)
    · exact ih
theorem zzP_nil {d : jRD} {u l : Nat} (h : ∀ p, p < rE d → ¬ (0 < gn d p ∧ u < sP d p 0 * l)) : ∀ n, n ≤ rE d → zzP d u l n = 0
  | 0, _ => rfl
  | p + 1, hn => by
    rw [zzP, if_neg (h p (by omega))]
    exact zzP_nil h p (by omega)
/-- what all hold, a mile -/
def hld (d : jRD) : Nat := rB d * sB d 0 3
/-- a group's bound, by all gains -/
theorem grp_le {d : jRD} (hd : rdOk d) {u l g : Nat} (hp : ¬ prG d g (rE d) = 0) : (upg d g * (l : Int) ≤ (u : Int) * (dng d g : Nat)) = (zzS d u l g (rE d) ≤ (hld d : Int) * prA d (rE d) * l) ∧ (upg d g * (l : Int) = (u : Int) * (dng d g : Nat)) = (zzS d u l g (rE d) = (hld d : Int) * prA d (rE d) * l) := by
  have e := zzS_scale hd u l g (rE d) (Nat.le_refl _)
  have hA : (0 : Int) < prA d (rE d) := by have := prA_pos d (rE d); omega
  have hB : (0 : Int) < prG d g (rE d) := by omega
  unfold upg dng hld
  generalize (dnS d g (prG d g (rE d)) (rE d)) = V at e ⊢
  generalize (upS d g (prG d g (rE d)) (rE d)) = U at e ⊢
  generalize zzS d u l g (rE d) = Z at e ⊢
  rw [Int.natCast_mul]
  generalize ((rB d * sB d 0 3 : Nat) : Int) = H at e ⊢
  generalize (prA d (rE d) : Int) = A at e hA ⊢
  generalize (prG d g (rE d) : Int) = B at e hB ⊢
  generalize (u : Int) = u at e ⊢
  generalize (l : Int) = l at e ⊢
  generalize (V : Int) = V at e ⊢
  generalize (U : Int) = U at e ⊢
  have key : A * ((U - H * B) * l - u * V) = B * (Z - H * A * l) := by grind
  refine ⟨propext ⟨fun h => ?_, fun h => ?_⟩, propext ⟨fun h => ?_, fun h => ?_⟩⟩
  · have h1 : A * ((U - H * B) * l - u * V) ≤ 0 := Int.mul_nonpos_of_nonneg_of_nonpos (by omega) (by omega)
    refine Int.not_lt.mp (fun z => ?_)
    have h2 : 0 < B * (Z - H * A * l) := Int.mul_pos hB (by omega)
    omega
  · have h1 : B * (Z - H * A * l) ≤ 0 := Int.mul_nonpos_of_nonneg_of_nonpos (by omega) (by omega)
    refine Int.not_lt.mp (fun z => ?_)
    have h2 : 0 < A * ((U - H * B) * l - u * V) := Int.mul_pos hA (by omega)
    omega
  · have h1 : (U - H * B) * l - u * V = 0 := by omega
    rw [h1, Int.mul_zero] at key
    rcases Int.mul_eq_zero.mp key.symm with z | z <;> omega
  · have h1 : Z - H * A * l = 0 := by omega
    rw [h1, Int.mul_zero] at key
    rcases Int.mul_eq_zero.mp key with z | z <;> omega
/-- what is so of even: u of l minutes a mile -/
def EvS (d : jRD) (u l : Nat) : Prop := 0 < l ∧ (∀ p, p < rE d → mnP d p * l ≤ u) ∧ zzP d u l (rE d) ≤ (hld d : Int) * prA d (rE d) * l ∧ ((∃ p, p < rE d ∧ mnP d p * l = u) ∨ (zzP d u l (rE d) = (hld d : Int) * prA d (rE d) * l ∧ ∃ g, 0 < g ∧ g < 2 ^ rE d ∧ ¬ prG d g (rE d) = 0 ∧ zzS d u l g (rE d) = (hld d : Int) * prA d (rE d) * l))
theorem evn_spec {d : jRD} (hd : rdOk d) (hE : 0 < rE d) : EvS d (evn d).1 (evn d).2 := by
  have h1p := Nat.one_le_two_pow (n := rE d)
  obtain ⟨h1, h2, h3, h4⟩ := evG_spec hd hE (2 ^ rE d - 1) (by omega)
  have e : evn d = evG d (2 ^ rE d - 1) := rfl
  rw [← e] at h1 h2 h3 h4
  generalize (evn d).1 = u at h1 h2 h3 h4 ⊢
  generalize (evn d).2 = l at h1 h2 h3 h4 ⊢
  have hz : zzP d u l (rE d) ≤ (hld d : Int) * prA d (rE d) * l := by
    have em := zzP_mask (d := d) u l (rE d) (Nat.le_refl _)
    have hpg := prG_mask (d := d) (f := fun p => decide (0 < gn d p ∧ u < sP d p 0 * l)) (fun p hp => (of_decide_eq_true hp).1) (rE d) (Nat.le_refl _)
    have hml := msk_lt (fun p => decide (0 < gn d p ∧ u < sP d p 0 * l)) (rE d)
    have hm0 := fun (z : msk (fun p => decide (0 < gn d p ∧ u < sP d p 0 * l)) (rE d) = 0) (p : Nat) (hp : p < rE d) => msk_0 (fun p => decide (0 < gn d p ∧ u < sP d p 0 * l)) z hp
    generalize msk (fun p => decide (0 < gn d p ∧ u < sP d p 0 * l)) (rE d) = g at em hpg hml hm0
    by_cases z : g = 0
    · rw [zzP_nil (fun p hp q => by
        have := hm0 z p hp
        rw [decide_eq_true q] at this
        cases this) (rE d) (Nat.le_refl _)]
      exact Int.mul_nonneg (Int.mul_nonneg (Int.natCast_nonneg _) (Int.natCast_nonneg _)) (Int.natCast_nonneg _)
    · rw [← em]
      exact (grp_le hd (u := u) (l := l) (g := g) (by omega)).1 ▸ h3 g (by omega) (by omega) (by omega)
  refine ⟨h1, fun p hp => ?_, hz, ?_⟩
  · have := h2 p hp
    rw [show ((1 : Nat) : Int) = 1 from rfl, Int.mul_one] at this
    exact_mod_cast this
  · rcases h4 with ⟨p, q1, q2⟩ | ⟨g, q1, q2, q3, q4⟩
    · rw [show ((1 : Nat) : Int) = 1 from rfl, Int.mul_one] at q2
      exact Or.inl ⟨p, q1, by exact_mod_cast q2⟩
    · have e1 : zzS d u l g (rE d) = (hld d : Int) * prA d (rE d) * l := (grp_le hd (u := u) (l := l) q3).2 ▸ q4
      have e2 := zzS_le d u l g (rE d)
      exact Or.inr ⟨by omega, g, q1, by omega, q3, e1⟩
def allM (d : jRD) : Nat := sumN (rM d) (rP d)
/-- what the law adds up: upper and lower -/
def ndU (d : jRD) (u l : Nat) : Nat → Nat × Nat
  | 0 => (0, 1)
  | p + 1 => ((ndU d u l p).1 * (ridn d p (u, l)).2 + (ridn d p (u, l)).1 * (ndU d u l p).2, (ndU d u l p).2 * (ridn d p (u, l)).2)
theorem ridn_no {d : jRD} {p u l : Nat} (h : ¬ (0 < gn d p ∧ u < sP d p 0 * l)) : ridn d p (u, l) = (0, 1) := by
  unfold ridn
  rw [if_neg h]
  unfold red
  rw [Nat.gcd_one_right]
theorem ridn_yes {d : jRD} {p u l : Nat} (hl : 0 < l) (h : 0 < gn d p ∧ u < sP d p 0 * l) : 0 < (ridn d p (u, l)).2 ∧ ((ridn d p (u, l)).1 : Int) * ((l : Int) * gn d p) = (allM d : Int) * ((sP d p 0 : Int) * l - u) * (ridn d p (u, l)).2 := by
  unfold ridn
  rw [if_pos h]
  have hb : 0 < l * gn d p := Nat.mul_pos hl h.1
  have e := red_cross (a := sumN (rM d) (rP d) * (sP d p 0 * l - u)) hb
  have hp := red_pos (a := sumN (rM d) (rP d) * (sP d p 0 * l - u)) hb
  show 0 < (red (sumN (rM d) (rP d) * (sP d p 0 * l - u)) (l * gn d p)).2 ∧ ((red (sumN (rM d) (rP d) * (sP d p 0 * l - u)) (l * gn d p)).1 : Int) * ((l : Int) * gn d p) = _ * (red (sumN (rM d) (rP d) * (sP d p 0 * l - u)) (l * gn d p)).2
  generalize red (sumN (rM d) (rP d) * (sP d p 0 * l - u)) (l * gn d p) = w at e hp ⊢
  refine ⟨hp, ?_⟩
  have e1 : ((sP d p 0 * l - u : Nat) : Int) = (sP d p 0 : Int) * l - u := by
    rw [Int.ofNat_sub (Nat.le_of_lt h.2), Int.natCast_mul]
  rw [← e1]
  unfold allM
  exact_mod_cast e
theorem ridn_2 {d : jRD} {p u l : Nat} (hl : 0 < l) : 0 < (ridn d p (u, l)).2 := by
  by_cases h : 0 < gn d p ∧ u < sP d p 0 * l
  · exact (ridn_yes hl h).1
  · rw [ridn_no h]; exact Nat.one_pos
theorem ndU_2 {d : jRD} {u l : Nat} (hl : 0 < l) : ∀ n, 0 < (ndU d u l n).2
  | 0 => Nat.one_pos
  | n + 1 => Nat.mul_pos (ndU_2 hl n) (ridn_2 hl)
theorem ndU_sum {d : jRD} {u l : Nat} (hl : 0 < l) : ∀ n, n ≤ rE d → ((ndU d u l n).1 : Int) * ((l : Int) * prA d (rE d)) = (allM d : Int) * zzP d u l n * (ndU d u l n).2
  | 0, _ => by
    show ((0 : Nat) : Int) * _ = _ * 0 * _
    simp
  | p + 1, h => by
    have ih := ndU_sum (d := d) (u := u) hl p (by omega)
    have e1 : (((ndU d u l (p + 1)).1 : Nat) : Int) = ((ndU d u l p).1 : Int) * (ridn d p (u, l)).2 + ((ridn d p (u, l)).1 : Int) * (ndU d u l p).2 := by
      show (((ndU d u l p).1 * (ridn d p (u, l)).2 + (ridn d p (u, l)).1 * (ndU d u l p).2 : Nat) : Int) = _
      rw [Int.natCast_add, Int.natCast_mul, Int.natCast_mul]
    have e2 : (((ndU d u l (p + 1)).2 : Nat) : Int) = ((ndU d u l p).2 : Int) * (ridn d p (u, l)).2 := by
      show (((ndU d u l p).2 * (ridn d p (u, l)).2 : Nat) : Int) = _
      rw [Int.natCast_mul]
    rw [e1, e2, zzP]
    by_cases h1 : 0 < gn d p ∧ u < sP d p 0 * l
    · rw [if_pos h1]
      obtain ⟨-, r⟩ := ridn_yes hl h1
      have o := otA_e (show p < rE d by omega) h1.1
      have o : (gn d p : Int) * otA d p = prA d (rE d) := by exact_mod_cast o
      generalize (ridn d p (u, l)).1 = x at r ⊢
      generalize (ridn d p (u, l)).2 = y at r ⊢
      generalize (ndU d u l p).1 = N at ih ⊢
      generalize (ndU d u l p).2 = M at ih ⊢
      generalize zzP d u l p = Z at ih ⊢
      generalize (prA d (rE d) : Int) = A at o ih ⊢
      grind
    · rw [if_neg h1, ridn_no h1]
      show (((ndU d u l p).1 : Int) * ((1 : Nat) : Int) + ((0 : Nat) : Int) * _) * _ = _ * _ * (_ * ((1 : Nat) : Int))
      rw [show ((1 : Nat) : Int) = 1 from rfl, show ((0 : Nat) : Int) = 0 from rfl, Int.mul_one, Int.zero_mul, Int.add_zero, Int.mul_one]
      exact ih
theorem nd_le {d : jRD} {u l : Nat} (H : EvS d u l) : (ndU d u l (rE d)).1 ≤ allM d * hld d * (ndU d u l (rE d)).2 ∧ ((∃ p, p < rE d ∧ mnP d p * l = u) ∨ (ndU d u l (rE d)).1 = allM d * hld d * (ndU d u l (rE d)).2) := by
  obtain ⟨hl, h1, h2, h3⟩ := H
  have e := ndU_sum (d := d) (u := u) hl (rE d) (Nat.le_refl _)
  have hM := ndU_2 (d := d) (u := u) hl (rE d)
  have hA := prA_pos d (rE d)
  generalize (ndU d u l (rE d)).1 = N at e ⊢
  generalize (ndU d u l (rE d)).2 = M at e hM ⊢
  have hlA : (0 : Int) < (l : Int) * prA d (rE d) := Int.mul_pos (by omega) (by omega)
  have hDM : (0 : Int) ≤ (allM d : Int) * M := Int.mul_nonneg (Int.natCast_nonneg _) (Int.natCast_nonneg _)
  constructor
  · have a1 : (allM d : Int) * M * zzP d u l (rE d) ≤ (allM d : Int) * M * ((hld d : Int) * prA d (rE d) * l) := Int.mul_le_mul_of_nonneg_left h2 hDM
    have a2 : (N : Int) * ((l : Int) * prA d (rE d)) ≤ ((allM d : Int) * hld d * M) * ((l : Int) * prA d (rE d)) := by
      have b1 : (allM d : Int) * zzP d u l (rE d) * M = (allM d : Int) * M * zzP d u l (rE d) := by grind
      have b2 : ((allM d : Int) * hld d * M) * ((l : Int) * prA d (rE d)) = (allM d : Int) * M * ((hld d : Int) * prA d (rE d) * l) := by grind
      omega
    have a3 := Int.le_of_mul_le_mul_right a2 hlA
    exact_mod_cast a3
  · rcases h3 with q | ⟨q, -⟩
    · exact Or.inl q
    · right
      have a2 : (N : Int) * ((l : Int) * prA d (rE d)) = ((allM d : Int) * hld d * M) * ((l : Int) * prA d (rE d)) := by
        rw [e, q]; grind
      have a3 := Int.eq_of_mul_eq_mul_right (by omega) a2
      exact_mod_cast a3
/-- the even time -/
theorem evnA_e {d : jRD} {u l : Nat} (hl : 0 < l) (e : evn d = (u, l)) : 0 < (evnA d).2 ∧ (evnA d).1 * l = u * allM d * (evnA d).2 := by
  unfold evnA allM
  rw [e]
  exact ⟨red_pos hl, red_cross hl⟩
/-- what the law asks of a share -/
theorem ridn_law {d : jRD} {u l p up dn : Nat} (H : EvS d u l) (hp : p < rE d) (hdn : 0 < dn) (he : up * l = u * allM d * dn) :
    (ridn d p (u, l)).1 ≤ allM d * (ridn d p (u, l)).2 ∧
    ((allM d : Int) * (ridn d p (u, l)).2 * sP d p 0 - (ridn d p (u, l)).1 * ((sP d p 0 : Int) - sB d 0 0)) * dn ≤ (up : Int) * (ridn d p (u, l)).2 ∧
    (0 < (ridn d p (u, l)).1 → ((allM d : Int) * (ridn d p (u, l)).2 * sP d p 0 - (ridn d p (u, l)).1 * ((sP d p 0 : Int) - sB d 0 0)) * dn = (up : Int) * (ridn d p (u, l)).2) ∧
    (0 < (ridn d p (u, l)).1 → sB d 0 0 < sP d p 0) ∧ allM d * mnP d p * dn ≤ up := by
  obtain ⟨hl, h1, h2, h3⟩ := H
  have hm := h1 p hp
  have hl' : (0 : Int) < l := by omega
  have he' : (up : Int) * l = u * allM d * dn := by exact_mod_cast he
  have q5 : allM d * mnP d p * dn ≤ up := by
    have a1 : (mnP d p * l) * (allM d * dn) ≤ u * (allM d * dn) := Nat.mul_le_mul_right _ hm
    have a2 : (allM d * mnP d p * dn) * l ≤ up * l := by
      rw [he]
      have b1 : (allM d * mnP d p * dn) * l = (mnP d p * l) * (allM d * dn) := by grind
      have b2 : u * allM d * dn = u * (allM d * dn) := by grind
      omega
    exact Nat.le_of_mul_le_mul_right a2 hl
  by_cases h : 0 < gn d p ∧ u < sP d p 0 * l
  · obtain ⟨r1, r2⟩ := ridn_yes hl h
    have hg : sB d 0 0 < sP d p 0 := by
      have := h.1
      unfold gn at this; omega
    have hgi : (gn d p : Int) = (sP d p 0 : Int) - sB d 0 0 := by
      unfold gn
      exact Int.ofNat_sub (Nat.le_of_lt hg)
    have hmq : mnP d p = sB d 0 0 := if_pos hg
    rw [hmq] at hm
    have hm' : (sB d 0 0 : Int) * l ≤ u := by exact_mod_cast hm
    have hg0 : (0 : Int) < (sP d p 0 : Int) - sB d 0 0 := by omega
    rw [hgi] at r2
    generalize (ridn d p (u, l)).1 = x at r2 ⊢
    generalize (ridn d p (u, l)).2 = y at r1 r2 ⊢
    have hD : (0 : Int) ≤ (allM d : Int) * y := Int.mul_nonneg (Int.natCast_nonneg _) (Int.natCast_nonneg _)
    have eq1 : ((allM d : Int) * y * sP d p 0 - x * ((sP d p 0 : Int) - sB d 0 0)) * dn = (up : Int) * y := by
      refine Int.eq_of_mul_eq_mul_right (show (l : Int) ≠ 0 by omega) ?_
      grind
    refine ⟨?_, by omega, fun _ => eq1, fun _ => hg, q5⟩
    have a1 : (allM d : Int) * y * ((sP d p 0 : Int) * l - u) ≤ (allM d : Int) * y * (((sP d p 0 : Int) - sB d 0 0) * l) := by
      refine Int.mul_le_mul_of_nonneg_left ?_ hD
      have : ((sP d p 0 : Int) - sB d 0 0) * l = (sP d p 0 : Int) * l - (sB d 0 0 : Int) * l := by grind
      omega
    have a2 : (x : Int) * ((l : Int) * ((sP d p 0 : Int) - sB d 0 0)) ≤ ((allM d : Int) * y) * ((l : Int) * ((sP d p 0 : Int) - sB d 0 0)) := by
      have b1 : (allM d : Int) * ((sP d p 0 : Int) * l - u) * y = (allM d : Int) * y * ((sP d p 0 : Int) * l - u) := by grind
      have b2 : ((allM d : Int) * y) * ((l : Int) * ((sP d p 0 : Int) - sB d 0 0)) = (allM d : Int) * y * (((sP d p 0 : Int) - sB d 0 0) * l) := by grind
      omega
    have a3 := Int.le_of_mul_le_mul_right a2 (Int.mul_pos hl' hg0)
    exact_mod_cast a3
  · rw [ridn_no h]
    have hle : sP d p 0 * l ≤ u := by
      by_cases g : 0 < gn d p
      · exact Nat.not_lt.mp (fun z => h ⟨g, z⟩)
      · have e : mnP d p = sP d p 0 := by
          unfold mnP
          rw [if_neg]
          unfold gn at g
          omega
        rw [e] at hm; exact hm
    have a1 : (sP d p 0 * l) * (allM d * dn) ≤ u * (allM d * dn) := Nat.mul_le_mul_right _ hle
    have a2 : (allM d * sP d p 0 * dn) * l ≤ up * l := by
      rw [he]
      have b1 : (allM d * sP d p 0 * dn) * l = (sP d p 0 * l) * (allM d * dn) := by grind
      have b2 : u * allM d * dn = u * (allM d * dn) := by grind
      omega
    have a3 := Nat.le_of_mul_le_mul_right a2 hl
    refine ⟨Nat.zero_le _, ?_, fun z => absurd z (Nat.lt_irrefl 0), fun z => absurd z (Nat.lt_irrefl 0), q5⟩
    show ((allM d : Int) * ((1 : Nat) : Int) * sP d p 0 - ((0 : Nat) : Int) * _) * dn ≤ (up : Int) * ((1 : Nat) : Int)
    rw [show ((1 : Nat) : Int) = 1 from rfl, show ((0 : Nat) : Int) = 0 from rfl, Int.mul_one, Int.zero_mul, Int.sub_zero, Int.mul_one]
    exact_mod_cast a3
/-- nobody is sooner -/
theorem tight_mn {d : jRD} {u l p up dn : Nat} (hl : 0 < l) (he : up * l = u * allM d * dn) (h : mnP d p * l = u) : allM d * mnP d p * dn = up := by
  refine Nat.eq_of_mul_eq_mul_right hl ?_
  rw [he, ← h]
  grind
