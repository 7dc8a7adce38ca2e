/-! the class's Best: an object at b, its table, a row's numbers and cells behind it, then its Journey. -/
def bJ (h : jHp) (b r : Nat) (rr ws lp lf : Int32) (A AJ : Nat → Nat → Int32) : jHp := hX 0 (jJ h (b + 4) r AJ) b (bF r b rr ws lp lf) A
def bEnv (h : jHp) (b r : Nat) (d : jRD) : Prop := RoadAt h r d ∧ rdOk d ∧ (r + 4 < b ∨ b + 12 < r)
theorem nI_div {a b : Nat} (ha : a < 2147483648) (hb : b < 2147483648) : nI a / nI b = nI (a / b) := by
  have hq : a / b ≤ a := Nat.div_le_self a b
  apply Int32.toInt_inj.mp
  rw [Int32.toInt_div, toInt_nI ha, toInt_nI hb, toInt_nI (by omega)]
  rw [show Int.tdiv (a : Int) (b : Int) = ((a / b : Nat) : Int) from rfl]
  generalize a / b = q at hq ⊢
  apply Int.bmod_eq_of_le <;> omega
theorem nI_mod {a b : Nat} (ha : a < 2147483648) (hb : b < 2147483648) : nI a - nI a / nI b * nI b = nI (a % b) := by
  rw [nI_div ha hb, nI_mul, nI_sub (Nat.div_mul_le_self a b)]
  congr 1
  have := Nat.div_add_mod a b
  rw [Nat.mul_comm] at this
  omega
section BRows
variable {h : jHp} {b r : Nat} {d : jRD} {rr ws lp lf : Int32} {A AJ : Nat → Nat → Int32}
theorem bJ_j : bJ h b r rr ws lp lf A AJ = jJ (hX 0 h b (bF r b rr ws lp lf) A) (b + 4) r AJ := hX_comm (by simp only [oN]; omega)
theorem be_j (H : bEnv h b r d) : jEnv (hX 0 h b (bF r b rr ws lp lf) A) (b + 4) r d (b + 3) (A 3) := by
  obtain ⟨h1, h2, h3⟩ := H
  exact ⟨h1.out (c := 4) (d := 0) (b := b) (by simp only [oN]; omega), h2, by omega, hX_i (by decide) (by decide), by omega⟩
theorem be_road (H : bEnv h b r d) : RoadAt (bJ h b r rr ws lp lf A AJ) r d := by
  rw [bJ_j]; exact je_road (be_j H)
theorem bb_0 : gA (bJ h b r rr ws lp lf A AJ) b 0 0 = some r := x0_0
theorem bb_1 : gI (bJ h b r rr ws lp lf A AJ) b 0 1 = some rr := x0_1
theorem bb_2 : gA (bJ h b r rr ws lp lf A AJ) b 0 2 = some (b + 4) := x0_2
theorem bb_3 : gI (bJ h b r rr ws lp lf A AJ) b 0 3 = some ws := x0_3
theorem bb_4 : gI (bJ h b r rr ws lp lf A AJ) b 0 4 = some lp := x0_4
theorem bb_5 : gI (bJ h b r rr ws lp lf A AJ) b 0 5 = some lf := x0_5
theorem bb_6 : gA (bJ h b r rr ws lp lf A AJ) b 0 6 = some (b + 1) := x0_6
theorem bb_7 : gA (bJ h b r rr ws lp lf A AJ) b 0 7 = some (b + 2) := x0_7
theorem bb_8 : gA (bJ h b r rr ws lp lf A AJ) b 0 8 = some (b + 3) := x0_8
theorem bb_o : gO (bJ h b r rr ws lp lf A AJ) b 0 = some (oF 0 b (bF r b rr ws lp lf)) := gO_hX _ _ _ _ _
theorem bbr_1 {t : Nat} (ht : t < 165) : alI (bJ h b r rr ws lp lf A AJ) (b + 1) (nI t) = some (A 1 t) := (r0_1 _).trans (rdA_nI _ ht (by decide))
theorem bbr_2 {t : Nat} (ht : t < 5) : alI (bJ h b r rr ws lp lf A AJ) (b + 2) (nI t) = some (A 2 t) := (r0_2 _).trans (rdA_nI _ ht (by decide))
theorem bbr_3 {t : Nat} (ht : t < 24) : alI (bJ h b r rr ws lp lf A AJ) (b + 3) (nI t) = some (A 3 t) := (r0_3 _).trans (rdA_nI _ ht (by decide))
theorem bbw_1 {t : Nat} {x : Int32} (ht : t < 165) : asI (bJ h b r rr ws lp lf A AJ) (b + 1) (nI t) x = some (bJ h b r rr ws lp lf (uA A 1 t x) AJ) := (w0_1 x ht).trans (by rw [uA_eq]; rfl)
theorem bbw_2 {t : Nat} {x : Int32} (ht : t < 5) : asI (bJ h b r rr ws lp lf A AJ) (b + 2) (nI t) x = some (bJ h b r rr ws lp lf (uA A 2 t x) AJ) := (w0_2 x ht).trans (by rw [uA_eq]; rfl)
theorem bbw_3 {t : Nat} {x : Int32} (ht : t < 24) : asI (bJ h b r rr ws lp lf A AJ) (b + 3) (nI t) x = some (bJ h b r rr ws lp lf (uA A 3 t x) AJ) := (w0_3 x ht).trans (by rw [uA_eq]; rfl)
theorem bbl_1 : alen (bJ h b r rr ws lp lf A AJ) (b + 1) = some (nI 165) := n0_1
theorem bbl_3 : alen (bJ h b r rr ws lp lf A AJ) (b + 3) = some (nI 24) := n0_3
/-- piece k's cells become a choice's digits, from person q on -/
def chA (d : jRD) (k ch q : Nat) (A : Nat → Nat → Int32) : Nat → Nat → Int32 := fun i t => if i = 3 ∧ k * rE d + q ≤ t ∧ t < k * rE d + rE d then nI (ch / (rB d + 1) ^ (k * rE d + rE d - 1 - t) % (rB d + 1)) else A i t
theorem l_choose (H : bEnv h b r d) {k ch : Nat} (hk : k < rP d) (hch : ch < 100000) :
    ∀ (q : Nat) (o2 o6 : Option Value), q ≤ rE d → R 1 40 24 [some (.ref b), some (.int (nI k)), o2, some (.int (nI (rB d + 1))), some (.int (nI (ch / (rB d + 1) ^ (rE d - q)))), some (.int (nI q - nI 1)), o6] [] (bJ h b r rr ws lp lf (chA d k ch q A) AJ)
      = some (none, bJ h b r rr ws lp lf (chA d k ch 0 A) AJ) := by
  have hd := H.2.1
  have h6 := hd.1
  have h4 := hd.2.1
  have h2 := hd.2.2.1
  intro q
  induction q with
  | zero =>
    intro o2 o6 _
    rw [B40_24, if_pos (show nI 0 - nI 1 < 0 by decide), B40_80]
  | succ q ih =>
    intro o2 o6 hq
    have hr0 : RoadAt (bJ h b r rr ws lp lf (chA d k ch (q + 1) A) AJ) r d := be_road H
    have hkE : k * rE d ≤ 5 * 4 := Nat.mul_le_mul (by omega) h4
    have hrest : ch / (rB d + 1) ^ (rE d - (q + 1)) ≤ ch := Nat.div_le_self _ _
    have hrest2 : ch / (rB d + 1) ^ (rE d - (q + 1)) / (rB d + 1) ≤ ch := Nat.le_trans (Nat.div_le_self _ _) hrest
    have eA : uA (chA d k ch (q + 1) A) 3 (k * rE d + q) (nI (ch / (rB d + 1) ^ (rE d - (q + 1)) % (rB d + 1))) = chA d k ch q A := by
      funext i t
      unfold uA chA
      by_cases e : i = 3 ∧ t = k * rE d + q
      · rw [if_pos e, if_pos (by omega), e.2, show k * rE d + rE d - 1 - (k * rE d + q) = rE d - (q + 1) by omega]
      · rw [if_neg e]
        by_cases e2 : i = 3 ∧ k * rE d + (q + 1) ≤ t ∧ t < k * rE d + rE d
        · rw [if_pos e2, if_pos (by omega)]
        · rw [if_neg e2, if_neg (by omega)]
    rw [show nI (q + 1) - nI 1 = nI q from nI_sub (by omega), B40_24]
    simp (disch := omega) only [nJ_add, nI_mul, nJ_lt, nJ_le, nI_inj, nI_lt0, nI_eq0, nI_gt0, toNat_nI, if_false, show 0 < rB d + 1 by omega, if_true, bb_0, rd_1 hr0, obd_some, obd_none, Option.toList_some, Option.toList_none, List.cons_append, List.nil_append, cond_true, cond_false, bb_8, bbl_3, show k * rE d + q < 24 by omega, B40_63, show ¬ rB d + 1 = 0 by omega, nI_mod, bbw_3, eA, B40_68]
    rw [nI_div (by omega) (by omega)]
    have g := ih none none (by omega)
    rw [show rE d - q = rE d - (q + 1) + 1 by omega, Nat.pow_succ, ← Nat.div_div_eq_div_mul] at g
    rw [← g, Int32.sub_eq_add_neg]
theorem c_choose (H : bEnv h b r d) {k ch : Nat} (hk : k < rP d) (hch : ch < 100000) (hE : 0 < rE d) :
    mc 40 [.ref b, .int (nI k), .int (nI ch)] (bJ h b r rr ws lp lf A AJ) = some (none, bJ h b r rr ws lp lf (chA d k ch 0 A) AJ) := by
  have hr0 : RoadAt (bJ h b r rr ws lp lf A AJ) r d := be_road H
  have g := l_choose (rr := rr) (ws := ws) (lp := lp) (lf := lf) (A := A) (AJ := AJ) H hk hch (rE d) none none (Nat.le_refl _)
  rw [Nat.sub_self, Nat.pow_zero, Nat.div_one, show chA d k ch (rE d) A = A by funext i t; unfold chA; rw [if_neg (by omega)]] at g
  rw [M40]
  simp only [bb_0, rd_1 hr0, rd_2 hr0, obd_some, obd_none, Option.toList_some, Option.toList_none, List.cons_append, List.nil_append, cond_true, cond_false, nJ_add]
  rw [show some (Value.int (nI ch)) = some (Value.int (nI ch)) from rfl]
  exact (by
    have g2 := l_choose (rr := rr) (ws := ws) (lp := lp) (lf := lf) (A := A) (AJ := AJ) H hk hch (rE d) (some (.int (nI ch))) none (Nat.le_refl _)
    rw [Nat.sub_self, Nat.pow_zero, Nat.div_one, show chA d k ch (rE d) A = A by funext i t; unfold chA; rw [if_neg (by omega)]] at g2
    exact g2)
end BRows
