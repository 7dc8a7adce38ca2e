/-! No row is sooner on even ground. -/
def rdn (d : jRD) (c : Nat → Nat) (p : Nat) : Nat → Nat
  | 0 => 0
  | n + 1 => rdn d c p n + (if c (rE d * n + p) = 0 then 0 else rM d n)
theorem wkd_rdn (d : jRD) (c : Nat → Nat) (p : Nat) : ∀ n, wkd d c p n + rdn d c p n = sumN (rM d) n
  | 0 => rfl
  | n + 1 => by
    have := wkd_rdn d c p n
    rw [wkd, rdn, sumN]
    split <;> omega
def flatD (d : jRD) : Prop := (∀ k, k < rP d → rG d k = 0) ∧ rL d = none ∧ ∀ b, b < rB d → sB d 0 0 ≤ sB d b 0 ∧ sB d b 3 ≤ sB d 0 3
theorem maxB_at {f : Nat → Bool} {g : Nat → Nat} {x p : Nat} (hf : f p = true) : ∀ n, p < n → g p ≤ maxB f g x n
  | 0, h => absurd h (Nat.not_lt_zero p)
  | n + 1, h => by
    rw [maxB]
    by_cases e : p = n
    · subst e
      rw [if_pos hf]; split <;> omega
    · have := maxB_at (g := g) (x := x) hf n (by omega)
      split
      · split <;> omega
      · exact this
theorem arr_ge {d : jRD} {c : Nat → Nat} (hF : flatD d) (hc : ∀ i, c i ≤ rB d) {p : Nat} (hp : p < rE d) : ∀ k, k ≤ rP d → sP d p 0 * wkd d c p k + sB d 0 0 * rdn d c p k ≤ ga (sq d c 0 0 k) p
  | 0, _ => by
    show sP d p 0 * 0 + sB d 0 0 * 0 ≤ _
    rw [Nat.mul_zero, Nat.mul_zero]; exact Nat.zero_le _
  | k + 1, h => by
    have ih := arr_ge hF hc hp k (by omega)
    obtain ⟨f1, f2, f3⟩ := hF
    rw [sq_s, wkd, rdn]
    show _ ≤ (if rowC d c k p = 0 then ga (sq d c 0 0 k) p + wlk d p k else strt d (rowC d c k) k (sq d c 0 0 k) (rowC d c k p - 1) + rid d (rowC d c k p - 1) k)
    have er := row_at c hp (k := k)
    by_cases e : c (rE d * k + p) = 0
    · rw [er, if_pos e, if_pos e, if_pos e]
      unfold wlk
      rw [f2, if_neg (show ¬ isLm none p k = true by show ¬ false = true; decide), f1 k (by omega), Nat.add_zero, Nat.mul_add, Nat.mul_comm (sP d p 0) (rM d k)]
      omega
    · rw [er, if_neg e, if_neg e, if_neg e, ← er]
      have hci := hc (rE d * k + p)
      have hb : rowC d c k p - 1 < rB d := by rw [er]; omega
      have h1 : ga (sq d c 0 0 k) p ≤ strt d (rowC d c k) k (sq d c 0 0 k) (rowC d c k p - 1) := by
        refine maxB_at ?_ _ hp
        show (rowC d c k p == rowC d c k p - 1 + 1) = true
        rw [beq_iff_eq]
        have : ¬ rowC d c k p = 0 := by rw [er]; exact e
        omega
      have h2 : sB d 0 0 * rM d k ≤ rid d (rowC d c k p - 1) k := by
        unfold rid
        rw [f1 k (by omega), Nat.mul_comm]
        exact Nat.mul_le_mul_left _ (f3 _ hb).1
      rw [Nat.add_zero, Nat.mul_add]
      omega
theorem cnt_hold {d : jRD} {c : Nat → Nat} {k b : Nat} (hw : wrK d c k = none) : ∀ n, n ≤ rE d → cntB (rdb (rowC d c k) b) n ≤ sB d b 3
  | 0, _ => Nat.zero_le _
  | n + 1, h => by
    have ih := cnt_hold (b := b) hw n (by omega)
    rw [cntB]
    by_cases e : rdb (rowC d c k) b n = true
    · rw [if_pos e]
      have e2 : rowC d c k n = b + 1 := eq_of_beq e
      have h0 := fstW_no _ _ hw n (Nat.zero_le _) (by omega)
      unfold whyN at h0
      rw [e2, if_neg (by omega), Nat.add_sub_cancel] at h0
      split at h0
      · cases h0
      · split at h0
        · cases h0
        · omega
    · rw [if_neg e]; omega
theorem cnt_all {d : jRD} {a : Nat → Nat} (ha : ∀ p, a p ≤ rB d) : ∀ n, cntB (fun p => decide (¬ a p = 0)) n ≤ sumN (fun b => cntB (rdb a b) n) (rB d)
  | 0 => Nat.zero_le _
  | n + 1 => by
    have ih := cnt_all ha n
    have hs : ∀ m, sumN (fun b => cntB (rdb a b) (n + 1)) m = sumN (fun b => cntB (rdb a b) n) m + (if ¬ a n = 0 ∧ a n ≤ m then 1 else 0) := by
      intro m
      induction m with
      | zero =>
        show 0 = 0 + (if ¬ a n = 0 ∧ a n ≤ 0 then 1 else 0)
        rw [if_neg (by omega)]
      | succ m im =>
        rw [sumN, sumN, im, cntB]
        have e : (rdb a m n = true) = (a n = m + 1) := by
          show ((a n == m + 1) = true) = _
          rw [beq_iff_eq]
        by_cases y : a n = m + 1
        · rw [if_pos (e.mpr y), if_neg (by omega), if_pos (by omega)]; omega
        · rw [if_neg (fun z => y (e.mp z))]
          by_cases y2 : ¬ a n = 0 ∧ a n ≤ m
          · rw [if_pos y2, if_pos (by omega)]; omega
          · rw [if_neg y2, if_neg (by omega)]; omega
    have hn := ha n
    rw [hs, cntB]
    by_cases y : a n = 0
    · rw [if_neg (show ¬ decide (¬ a n = 0) = true by rw [decide_eq_true_eq]; omega), if_neg (by omega)]; omega
    · rw [if_pos (show decide (¬ a n = 0) = true from decide_eq_true y), if_pos (by omega)]; omega
theorem sum_hold {d : jRD} {a : Nat → Nat} (h : ∀ b, b < rB d → cntB (rdb a b) (rE d) ≤ sB d 0 3) : ∀ m, m ≤ rB d → sumN (fun b => cntB (rdb a b) (rE d)) m ≤ m * sB d 0 3
  | 0, _ => Nat.zero_le _
  | m + 1, hm => by
    have ih := sum_hold h m (by omega)
    have := h m (by omega)
    rw [sumN, Nat.succ_mul]
    omega
theorem sum_rdn {d : jRD} {c : Nat → Nat} (k : Nat) : ∀ n, n ≤ rE d → sumN (fun p => rdn d c p (k + 1)) n = sumN (fun p => rdn d c p k) n + rM d k * cntB (fun p => decide (¬ rowC d c k p = 0)) n
  | 0, _ => rfl
  | n + 1, h => by
    rw [sumN, sumN, sum_rdn k n (by omega), cntB, rdn, row_at c (show n < rE d by omega)]
    by_cases e : c (rE d * k + n) = 0
    · rw [if_pos e, if_neg (show ¬ decide (¬ c (rE d * k + n) = 0) = true by rw [decide_eq_true_eq]; omega)]; simp only [Nat.add_zero]; omega
    · rw [if_neg e, if_pos (show decide (¬ c (rE d * k + n) = 0) = true from decide_eq_true e), Nat.mul_add, Nat.mul_one]; omega
theorem rdn_hold {d : jRD} {c : Nat → Nat} (hF : flatD d) (hc : ∀ i, c i ≤ rB d) (hp : pre d c (rP d)) : ∀ k, k ≤ rP d → sumN (fun p => rdn d c p k) (rE d) ≤ hld d * sumN (rM d) k
  | 0, _ => by
    have : ∀ n, sumN (fun p => rdn d c p 0) n = 0 := by
      intro n
      induction n with
      | zero => rfl
      | succ n ih => rw [sumN, ih]; rfl
    rw [this]; exact Nat.zero_le _
  | k + 1, h => by
    have ih := rdn_hold hF hc hp k (by omega)
    have hr : ∀ p, rowC d c k p ≤ rB d := by
      intro p
      show (if p < rE d then c (k * rE d + p) else 0) ≤ _
      split
      · exact hc _
      · exact Nat.zero_le _
    have h1 := cnt_all hr (rE d)
    have h2 := sum_hold (a := rowC d c k) (fun b hb => Nat.le_trans (cnt_hold (hp k (by omega)) (rE d) (Nat.le_refl _)) (hF.2.2 b hb).2) (rB d) (Nat.le_refl _)
    have h3 : rM d k * cntB (fun p => decide (¬ rowC d c k p = 0)) (rE d) ≤ rM d k * hld d := Nat.mul_le_mul_left _ (Nat.le_trans h1 h2)
    rw [sum_rdn k (rE d) (Nat.le_refl _), sumN, Nat.mul_add, Nat.mul_comm (hld d) (rM d k)]
    omega
/-- the weights of a group -/
def otS (d : jRD) (g : Nat) : Nat → Nat
  | 0 => 0
  | p + 1 => if g.testBit p = true ∧ 0 < gn d p then otS d g p + otA d p else otS d g p
theorem otS_pos {d : jRD} {g p : Nat} (hb : g.testBit p = true) (hg : 0 < gn d p) (hpE : p < rE d) : ∀ n, p < n → 0 < otS d g n
  | 0, h => absurd h (Nat.not_lt_zero p)
  | n + 1, h => by
    rw [otS]
    by_cases e : p = n
    · subst e
      rw [if_pos ⟨hb, hg⟩]
      have h1 := otA_e hpE hg
      have h2 := prA_pos d (rE d)
      have : 0 < otA d p := by
        refine Nat.pos_of_ne_zero (fun z => ?_)
        rw [z, Nat.mul_zero] at h1
        omega
      omega
    · have := otS_pos hb hg hpE n (by omega)
      split <;> omega
theorem flat_grp {d : jRD} {c : Nat → Nat} (hF : flatD d) (hc : ∀ i, c i ≤ rB d) {u l g last : Nat} (hlast : ∀ p, p < rE d → ga (sq d c 0 0 (rP d)) p ≤ last) : ∀ n, n ≤ rE d →
    (allM d : Int) * zzS d u l g n + ((u : Int) * allM d - (last : Int) * l) * otS d g n ≤ (l : Int) * prA d (rE d) * sumN (fun p => rdn d c p (rP d)) n
  | 0, _ => by
    show (allM d : Int) * 0 + _ * ((0 : Nat) : Int) ≤ _ * ((0 : Nat) : Int)
    simp
  | p + 1, h => by
    have ih := flat_grp hF hc (u := u) (l := l) (g := g) hlast p (by omega)
    have hp : p < rE d := by omega
    rw [zzS, otS, sumN, Int.natCast_add, Int.mul_add]
    have hr : (0 : Int) ≤ (l : Int) * prA d (rE d) * (rdn d c p (rP d) : Nat) := Int.mul_nonneg (Int.mul_nonneg (Int.natCast_nonneg _) (Int.natCast_nonneg _)) (Int.natCast_nonneg _)
    by_cases h1 : g.testBit p = true ∧ 0 < gn d p
    · rw [if_pos h1, if_pos h1]
      have o := otA_e hp h1.2
      have hg : sB d 0 0 < sP d p 0 := by
        have := h1.2
        unfold gn at this; omega
      have hgi : (gn d p : Int) = (sP d p 0 : Int) - sB d 0 0 := by
        unfold gn
        exact Int.ofNat_sub (Nat.le_of_lt hg)
      have a1 := Nat.le_trans (arr_ge hF hc hp (rP d) (Nat.le_refl _)) (hlast p hp)
      have a2 := wkd_rdn d c p (rP d)
      have ea : sumN (rM d) (rP d) = allM d := rfl
      rw [ea] at a2
      have a1 : (sP d p 0 : Int) * wkd d c p (rP d) + (sB d 0 0 : Int) * rdn d c p (rP d) ≤ last := by exact_mod_cast a1
      have a2 : (wkd d c p (rP d) : Int) + rdn d c p (rP d) = allM d := by exact_mod_cast a2
      have o : (gn d p : Int) * otA d p = prA d (rE d) := by exact_mod_cast o
      rw [hgi] at o
      rw [Int.natCast_add]
      have ho : (0 : Int) ≤ (l : Int) * otA d p := Int.mul_nonneg (Int.natCast_nonneg _) (Int.natCast_nonneg _)
      generalize (rdn d c p (rP d) : Int) = x at a1 a2 ih hr ⊢
      generalize (wkd d c p (rP d) : Int) = w at a1 a2
      generalize (otA d p : Int) = t at o ho ⊢
      generalize zzS d u l g p = Z at ih ⊢
      generalize (otS d g p : Int) = T at ih ⊢
      generalize (sumN (fun p => rdn d c p (rP d)) p : Int) = Y at ih ⊢
      generalize (prA d (rE d) : Int) = A at o ih ⊢
      generalize (sP d p 0 : Int) = P at a1 o ⊢
      generalize (sB d 0 0 : Int) = Q at a1 o ⊢
      generalize (allM d : Int) = D at a2 ih ⊢
      have k1 : (D * P - last) ≤ (P - Q) * x := by
        have : P * w + Q * x = D * P - (P - Q) * x := by grind
        omega
      have k2 : (l : Int) * t * (D * P - last) ≤ (l : Int) * t * ((P - Q) * x) := Int.mul_le_mul_of_nonneg_left k1 ho
      have k3 : (l : Int) * t * ((P - Q) * x) = (l : Int) * A * x := by grind
      have k4 : D * (Z + (P * l - u) * t) + ((u : Int) * D - last * l) * (T + t) = D * Z + ((u : Int) * D - last * l) * T + (l : Int) * t * (D * P - last) := by grind
      omega
    · rw [if_neg h1, if_neg h1]; omega
theorem flat_le {d : jRD} {c : Nat → Nat} {u l : Nat} (hd : rdOk d) (H : EvS d u l) (hF : flatD d) (hc : ∀ i, c i ≤ rB d) (hp : pre d c (rP d)) : u * allM d ≤ lastN d (sq d c 0 0 (rP d)) * l := by
  have hlast : ∀ p, p < rE d → ga (sq d c 0 0 (rP d)) p ≤ lastN d (sq d c 0 0 (rP d)) := fun p hp => maxB_at rfl _ hp
  generalize lastN d (sq d c 0 0 (rP d)) = last at hlast ⊢
  obtain ⟨hl, h1, h2, h3⟩ := H
  rcases h3 with ⟨p, q1, q2⟩ | ⟨-, g, g1, g2, g3, g4⟩
  · have a1 := Nat.le_trans (arr_ge hF hc q1 (rP d) (Nat.le_refl _)) (hlast p q1)
    have a2 := wkd_rdn d c p (rP d)
    have ea : sumN (rM d) (rP d) = allM d := rfl
    rw [ea] at a2
    have m1 : mnP d p ≤ sP d p 0 := by unfold mnP; split <;> omega
    have m2 : mnP d p ≤ sB d 0 0 := by unfold mnP; split <;> omega
    have b1 : mnP d p * wkd d c p (rP d) ≤ sP d p 0 * wkd d c p (rP d) := Nat.mul_le_mul_right _ m1
    have b2 : mnP d p * rdn d c p (rP d) ≤ sB d 0 0 * rdn d c p (rP d) := Nat.mul_le_mul_right _ m2
    have b3 : mnP d p * allM d ≤ last := by
      rw [← a2, Nat.mul_add]; omega
    have b4 := Nat.mul_le_mul_right l b3
    rw [← q2]
    have b5 : mnP d p * l * allM d = mnP d p * allM d * l := by grind
    omega
  · refine Nat.not_lt.mp (fun z => ?_)
    have e := flat_grp hF hc (u := u) (l := l) (g := g) hlast (rE d) (Nat.le_refl _)
    have hs := rdn_hold hF hc hp (rP d) (Nat.le_refl _)
    have ea : sumN (rM d) (rP d) = allM d := rfl
    rw [ea] at hs
    obtain ⟨p, w1, w2⟩ := bit_in g1 g2
    have hgp := prG_pos (d := d) (g := g) (rE d) (by omega) p w1 w2
    have hT := otS_pos w2 hgp.1 w1 (rE d) w1
    rw [g4] at e
    have hs : (sumN (fun p => rdn d c p (rP d)) (rE d) : Int) ≤ (hld d : Int) * allM d := by exact_mod_cast hs
    have hA : (0 : Int) ≤ (l : Int) * prA d (rE d) := Int.mul_nonneg (Int.natCast_nonneg _) (Int.natCast_nonneg _)
    have k1 : (l : Int) * prA d (rE d) * (sumN (fun p => rdn d c p (rP d)) (rE d) : Nat) ≤ (l : Int) * prA d (rE d) * ((hld d : Int) * allM d) := Int.mul_le_mul_of_nonneg_left hs hA
    have k2 : (l : Int) * prA d (rE d) * ((hld d : Int) * allM d) = (allM d : Int) * ((hld d : Int) * prA d (rE d) * l) := by grind
    have z' : (last : Int) * l < (u : Int) * allM d := by exact_mod_cast z
    have k3 : 0 < ((u : Int) * allM d - (last : Int) * l) * otS d g (rE d) := Int.mul_pos (by omega) (by omega)
    omega
