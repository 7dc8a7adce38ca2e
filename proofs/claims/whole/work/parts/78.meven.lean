/-! EVEN, as the reference finds it. -/
theorem cmpN_lt {a b : Nat} (ha : a < 4611686018427387904) (hb : b < 4611686018427387904) : (lg_cmp (lN a) (lN b) < 0) = (a < b) := by
  rw [lN_z, lN_z, cmp_lt (by omega) (by omega)]; exact propext ⟨fun _ => by omega, fun _ => by omega⟩
theorem im_bd {z : Int} {b K B : Nat} (h1 : -(K : Int) ≤ z) (h2 : z ≤ K) (hb : b ≤ B) : -((K * B : Nat) : Int) ≤ z * b ∧ z * b ≤ (K * B : Nat) := by
  have e := Int.natAbs_mul z b
  rw [Int.natAbs_natCast] at e
  have hm : z.natAbs * b ≤ K * B := Nat.mul_le_mul (by omega) hb
  rw [← e] at hm
  generalize z * (b : Int) = w at hm ⊢
  generalize K * B = P at hm ⊢
  omega
theorem sr_all : ∀ g : Fin 16, ∀ p : Fin 4, (((nI g.1) >>> (nI p.1 &&& 31)) &&& (nI 1) = nI 1) = (g.1.testBit p.1 = true) := by
  have key : ∀ g : Fin 16, ∀ p : Fin 4, (decide (((nI g.1) >>> (nI p.1 &&& 31)) &&& (nI 1) = nI 1)) = g.1.testBit p.1 := by decide
  intro g p
  rw [← key g p, decide_eq_true_eq]
theorem sr_m {g p : Nat} (hg : g < 16) (hp : p < 4) : (((nI g) >>> (nI p &&& 31)) &&& (nI 1) = nI 1) = (g.testBit p = true) := sr_all ⟨g, hg⟩ ⟨p, hp⟩
/-- the product of those in a group who gain -/
def prM (d : jRD) (g : Nat) : Nat → Nat
  | 0 => 1
  | p + 1 => if g.testBit p = true ∧ 0 < gn d p then prM d g p * gn d p else prM d g p
theorem prM_le {d : jRD} (hd : rdOk d) (g : Nat) : ∀ p, prM d g p ≤ 99 ^ p
  | 0 => Nat.le_refl _
  | p + 1 => by
    have ih := prM_le hd g p
    rw [prM, Nat.pow_succ]
    split
    · exact Nat.mul_le_mul ih (gn_le hd p)
    · omega
theorem prM_eq {d : jRD} {g : Nat} : ∀ p, ¬ prG d g p = 0 → prM d g p = prG d g p
  | 0, _ => rfl
  | p + 1, h => by
    rw [prG] at h ⊢
    rw [prM]
    by_cases e : g.testBit p = true
    · rw [if_pos e] at h ⊢
      have h1 : ¬ prG d g p = 0 := fun z => h (by rw [z, Nat.zero_mul])
      have h2 : ¬ gn d p = 0 := fun z => h (by rw [z, Nat.mul_zero])
      rw [if_pos ⟨e, by omega⟩, prM_eq p h1]
    · rw [if_neg e] at h ⊢
      rw [if_neg (fun z => e z.1), prM_eq p h]
def EvR (al : Nat) (F : Nat → Value) (q : Nat × Nat) : Prop := ∃ a b, F 38 = .long (lN a) ∧ F 39 = .long (lN b) ∧ 0 < b ∧ b ≤ 4000000 ∧ a ≤ 21600000000 ∧ a * q.2 = al * q.1 * b ∧ qOk q
section MEven
variable {h : jHp} {m i al : Nat} {d : jRD} {F : Nat → Value} {A : Nat → Nat → Int32}
theorem c_atLeast (ha : 0 < al) (ha2 : al ≤ 54) {q : Nat × Nat} (H : EvR al F q) {up : Int} {dn : Nat} (h1 : -20000000000 ≤ up) (h2 : up ≤ 400000000) (h3 : 0 < dn) (h4 : dn ≤ 4000000) :
    ∃ F', mc 211 [.ref m, .long (lz ((al : Int) * up)), .long (lN dn)] (hX 8 h m F A) = some (none, hX 8 h m F' A) ∧ EvR al F' (rise q up dn) ∧ ∀ j, j ≠ 38 → j ≠ 39 → F' j = F j := by
  obtain ⟨a, b, e38, e39, hb, hb2, ha3, hx, hq⟩ := H
  have hb1 : -((54 * 20000000000 : Nat) : Int) ≤ up * al ∧ up * al ≤ (54 * 20000000000 : Nat) := by
    have := im_bd (z := up) (b := al) (K := 20000000000) (B := 54) (by omega) (by omega) ha2
    omega
  have hb3 := im_bd (z := up * al) (b := b) (K := 54 * 20000000000) (B := 4000000) hb1.1 hb1.2 hb2
  have hb4 : a * dn ≤ 21600000000 * 4000000 := Nat.mul_le_mul ha3 h4
  have hc : (al : Int) * up * b = up * al * b := by rw [Int.mul_comm (al : Int) up]
  have ec : (0 < lg_cmp (lz ((al : Int) * up) * lN b) (lN a * lN dn)) = ((a : Int) * dn < up * al * b) := by
    rw [lN_z b, lz_mul, lN_mul, lN_z (a * dn), hc, cmp_gt ⟨by omega, by omega⟩ ⟨by omega, by omega⟩, Int.natCast_mul]
  have hxI : (a : Int) * q.2 = al * q.1 * b := by
    have := congrArg (fun n : Nat => (n : Int)) hx
    simpa only [Int.natCast_mul] using this
  have hal : (0 : Int) < al * b := Int.mul_pos (by omega) (by omega)
  have hq2 : (0 : Int) < q.2 := by have := hq.1; omega
  have l1 : (q.2 : Int) * (a * dn) = (al * b) * (q.1 * dn) := by
    calc (q.2 : Int) * (a * dn) = (a * q.2) * dn := by ac_rfl
      _ = al * q.1 * b * dn := by rw [hxI]
      _ = (al * b) * (q.1 * dn) := by ac_rfl
  have l2 : (q.2 : Int) * (up * al * b) = (al * b) * (up * q.2) := by ac_rfl
  have eq : ((a : Int) * dn < up * al * b) = ((q.1 : Int) * dn < up * q.2) := by
    refine propext ⟨fun z => ?_, fun z => ?_⟩
    · have := Int.mul_lt_mul_of_pos_left z hq2
      rw [l1, l2] at this
      exact Int.lt_of_mul_lt_mul_left this (Int.le_of_lt hal)
    · have := Int.mul_lt_mul_of_pos_left z hal
      rw [← l1, ← l2] at this
      exact Int.lt_of_mul_lt_mul_left this (Int.le_of_lt hq2)
  rw [M211, x8_39, e39, vJ_j, obd_some, x8_38, e38, vJ_j, obd_some]
  simp only [ec, eq]
  have hr := rise_ok hq h2 h3 h4
  by_cases c : (q.1 : Int) * dn < up * q.2
  · have hup : 0 < up := by
      have z0 : (0 : Int) ≤ q.1 * dn := Int.mul_nonneg (by omega) (by omega)
      have z1 : (0 : Int) * q.2 < up * q.2 := by rw [Int.zero_mul]; omega
      exact Int.lt_of_mul_lt_mul_right z1 (by omega)
    have eu : lz ((al : Int) * up) = lN (al * up.toNat) := by
      rw [lN_z, Int.natCast_mul, Int.toNat_of_nonneg (by omega)]
    rw [if_pos c, p8_38, obd_some, p8_39, obd_some, B211_26]
    refine ⟨_, rfl, ⟨al * up.toNat, dn, ?_, updV_s _ _ _, h3, h4, ?_, ?_, hr⟩, fun j a1 a2 => by rw [updV_n a2, updV_n a1]⟩
    · rw [updV_n (by decide), updV_s, eu]
    · exact Nat.le_trans (Nat.mul_le_mul ha2 (show up.toNat ≤ 400000000 by omega)) (by decide)
    · unfold rise
      rw [if_pos c, Nat.mul_assoc, ← red_cross h3, Nat.mul_assoc]
  · rw [if_neg c, B211_26]
    refine ⟨F, rfl, ⟨a, b, e38, e39, hb, hb2, ha3, ?_, hr⟩, fun j _ _ => rfl⟩
    unfold rise
    rw [if_neg c]
    exact hx
/-- what stays of the fields -/
def EvK (F F' : Nat → Value) : Prop := ∀ j, j ≠ 38 → j ≠ 39 → F' j = F j
theorem EvK.tr {F F1 F2 : Nat → Value} (a : EvK F F1) (b : EvK F1 F2) : EvK F F2 := fun j h1 h2 => (b j h1 h2).trans (a j h1 h2)
theorem l_mevP (D0 : MRd d i A) (hd : rdOk d) (hi : i < 3) (ha : 0 < al) (ha2 : al ≤ 54) : ∀ n p F (o3 : Option Value) (o5 o7 o8 o9 o10 o11 o12 o13 o14 o15 o16 o17 o18 : Option Value) , p + n = rE d → EvR al F (evP d p) →
    ∃ F', R 2 210 30 [some (.ref m), some (.int (nI i)), some (.long (lN al)), o3, some (.long (lN (sB d 0 0))), o5, some (.int (nI p)), o7, o8, o9, o10, o11, o12, o13, o14, o15, o16, o17, o18] [] (hX 8 h m F A) = R 2 210 86 [some (.ref m), some (.int (nI i)), some (.long (lN al)), none, some (.long (lN (sB d 0 0))), none, some (.int (nI (rE d))), none, none, none, none, none, none, none, none, none, none, none, none] [.int (nI i), .ref (m + 3), .long (lN al)] (hX 8 h m F' A) ∧ EvR al F' (evP d (rE d)) ∧ EvK F F' := by
  have h4 := hd.2.1
  intro n
  induction n with
  | zero =>
    intro p F o3 o5 o7 o8 o9 o10 o11 o12 o13 o14 o15 o16 o17 o18 hp H
    obtain rfl : p = rE d := hp
    refine ⟨F, ?_, H, fun j _ _ => rfl⟩
    rw [B210_30, B210_32, x8_3, obd_some, m_2 hi, obd_some, D0.2.1, if_neg (show ¬ nI (rE d) < nI (rE d) from Int32.lt_irrefl), x8_4, obd_some]
  | succ n ih =>
    intro p F o3 o5 o7 o8 o9 o10 o11 o12 o13 o14 o15 o16 o17 o18 hpn H
    have hp : p < rE d := by omega
    have hsp := sP_le hd p 0
    have hsb := sB_le hd 0 0
    rw [B210_30, B210_32, x8_3, obd_some, m_2 hi, obd_some, D0.2.1, if_pos (show nI p < nI (rE d) by rw [nJ_lt (by omega) (by omega)]; exact hp), B210_46, m_o, obd_some, c_ofP D0 hd hi hp (by omega)]
    simp only [obd_some, obd_none, Option.toList_some, Option.toList_none, List.cons_append, List.nil_append, cond_true, cond_false, B210_49]
    have hmn : (if sB d 0 0 < sP d p 0 then sB d 0 0 else sP d p 0) ≤ 99 := by split <;> omega
    obtain ⟨F1, e1, H1, K1⟩ := c_atLeast (h := h) (m := m) (A := A) ha ha2 H (up := ((if sB d 0 0 < sP d p 0 then sB d 0 0 else sP d p 0 : Nat) : Int)) (dn := 1) (by omega) (by omega) (by omega) (by omega)
    obtain ⟨F2, e2, H2, K2⟩ := ih (p + 1) F1 none none none none none none none none none none none none none none (by omega) H1
    have fin : ∀ o7 v, v = (if sB d 0 0 < sP d p 0 then sB d 0 0 else sP d p 0) → R 2 210 69 [some (.ref m), some (.int (nI i)), some (.long (lN al)), none, some (.long (lN (sB d 0 0))), none, some (.int (nI p)), o7, none, none, none, none, none, none, none, none, none, none, none] [.long (lN v), .long (lN al), .ref m] (hX 8 h m F A) = R 2 210 86 [some (.ref m), some (.int (nI i)), some (.long (lN al)), none, some (.long (lN (sB d 0 0))), none, some (.int (nI (rE d))), none, none, none, none, none, none, none, none, none, none, none, none] [.int (nI i), .ref (m + 3), .long (lN al)] (hX 8 h m F2 A) := by
      rintro o7 v rfl
      rw [B210_69, B210_70, m_o, obd_some, lN_mul, lN_z (al * _), Int.natCast_mul, e1]
      simp only [obd_some, obd_none, Option.toList_some, Option.toList_none, List.cons_append, List.nil_append, cond_true, cond_false, B210_74, nJ_add]
      exact e2
    refine ⟨F2, ?_, H2, EvK.tr K1 K2⟩
    rw [nI_l (by omega)]
    by_cases c : sP d p 0 < sB d 0 0
    · rw [if_pos (show lg_cmp (lN (sP d p 0)) (lN (sB d 0 0)) < 0 by rw [cmpN_lt (by omega) (by omega)]; exact c)]
      exact fin _ _ (by rw [if_neg (by omega)])
    · rw [if_neg (show ¬ lg_cmp (lN (sP d p 0)) (lN (sB d 0 0)) < 0 by rw [cmpN_lt (by omega) (by omega)]; exact c)]
      exact fin _ _ (by split <;> omega)
theorem l_gr1 (D0 : MRd d i A) (hd : rdOk d) (hi : i < 3) {g : Nat} (hg : g < 16) : ∀ n p (o3 : Option Value) (o5 : Option Value) (o7 : Option Value) (o10 : Option Value) (o13 o14 o15 o16 o17 o18 : Option Value), p + n = rE d →
    R 2 210 125 [some (.ref m), some (.int (nI i)), some (.long (lN al)), o3, some (.long (lN (sB d 0 0))), o5, some (.long (lN (al * rB d * sB d 0 3))), o7, some (.int (nI g)), some (.long (lN (prM d g p))), o10, some (.int (nI (if prG d g p = 0 then 0 else 1))), some (.int (nI p)), o13, o14, o15, o16, o17, o18] [] (hX 8 h m F A) = R 2 210 227 [some (.ref m), some (.int (nI i)), some (.long (lN al)), none, some (.long (lN (sB d 0 0))), none, some (.long (lN (al * rB d * sB d 0 3))), none, some (.int (nI g)), some (.long (lN (prM d g (rE d)))), none, some (.int (nI (if prG d g (rE d) = 0 then 0 else 1))), some (.long (lN 0)), none, some (.long (lN 0)), none, none, none, none] [] (hX 8 h m F A) := by
  have h4 := hd.2.1
  intro n
  induction n with
  | zero =>
    intro p o3 o5 o7 o10 o13 o14 o15 o16 o17 o18 hp
    obtain rfl : p = rE d := hp
    rw [B210_125, B210_127, x8_3, obd_some, m_2 hi, obd_some, D0.2.1, if_neg (show ¬ nI (rE d) < nI (rE d) from Int32.lt_irrefl)]
  | succ n ih =>
    intro p o3 o5 o7 o10 o13 o14 o15 o16 o17 o18 hpn
    have hp : p < rE d := by omega
    have hsp := sP_le hd p 0
    have hsb := sB_le hd 0 0
    have hpr := prM_le hd g p
    have e := fun (o13 o14 o15 o16 o17 o18 : Option Value) => ih (p + 1) none none none none o13 o14 o15 o16 o17 o18 (by omega)
    rw [B210_125, B210_127, x8_3, obd_some, m_2 hi, obd_some, D0.2.1, if_pos (show nI p < nI (rE d) by rw [nJ_lt (by omega) (by omega)]; exact hp), B210_141, m_o, obd_some, c_ofP D0 hd hi hp (by omega)]
    simp only [obd_some, obd_none, Option.toList_some, Option.toList_none, List.cons_append, List.nil_append, cond_true, cond_false, B210_144]
    rw [B210_157, nI_l (by omega), lN_z (sP d p 0), lN_z (sB d 0 0), lz_sub, ← lN_z (sB d 0 0)]
    have hz : (0 < lg_cmp (lz ((sP d p 0 : Int) - sB d 0 0)) (lN 0)) = (0 < gn d p) := by
      rw [lN_z, cmp_gt ⟨by omega, by omega⟩ ⟨by omega, by omega⟩]
      unfold gn
      exact propext ⟨fun _ => by omega, fun _ => by omega⟩
    simp only [sr_m hg (show p < 4 by omega)]
    -- what is behind a bit
    have e190 : ∀ (b : Bool) (f : Nat), g.testBit p = b → f = (if prG d g (p + 1) = 0 then 0 else 1) → R 2 210 190 [some (.ref m), some (.int (nI i)), some (.long (lN al)), none, some (.long (lN (sB d 0 0))), none, some (.long (lN (al * rB d * sB d 0 3))), none, some (.int (nI g)), some (.long (lN (prM d g p))), none, none, some (.int (nI p)), some (.long (lz ((sP d p 0 : Int) - sB d 0 0))), none, some (.int (nI (if b = true then 1 else 0))), none, none, none] [.int (nI f)] (hX 8 h m F A) = R 2 210 227 [some (.ref m), some (.int (nI i)), some (.long (lN al)), none, some (.long (lN (sB d 0 0))), none, some (.long (lN (al * rB d * sB d 0 3))), none, some (.int (nI g)), some (.long (lN (prM d g (rE d)))), none, some (.int (nI (if prG d g (rE d) = 0 then 0 else 1))), some (.long (lN 0)), none, some (.long (lN 0)), none, none, none, none] [] (hX 8 h m F A) := by
      rintro b f hb rfl
      rw [B210_190, B210_192]
      simp only [hz]
      have e := e none none none none none none
      rw [prM] at e
      by_cases c : b = true
      · subst c
        rw [if_neg (show ¬ nI (if true = true then 1 else 0) = 0 by decide)]
        by_cases q : 0 < gn d p
        · have eg : lz ((sP d p 0 : Int) - sB d 0 0) = lN (gn d p) := by
            rw [lN_z]; unfold gn at q ⊢; congr 1; omega
          rw [if_pos q, B210_212, B210_213, eg, lN_mul, nJ_add]
          rw [if_pos ⟨hb, q⟩] at e
          exact e
        · rw [if_neg q, B210_211, B210_212, B210_213, lN_mul, Nat.mul_one, nJ_add]
          rw [if_neg (fun z => q z.2)] at e
          exact e
      · rw [if_pos (show nI (if b = true then 1 else 0) = 0 by rw [if_neg c]; rfl), B210_211, B210_212, B210_213, lN_mul, Nat.mul_one, nJ_add]
        rw [if_neg (fun z => c (hb ▸ z.1))] at e
        exact e
    have e166 : ∀ b : Bool, g.testBit p = b → R 2 210 166 [some (.ref m), some (.int (nI i)), some (.long (lN al)), none, some (.long (lN (sB d 0 0))), none, some (.long (lN (al * rB d * sB d 0 3))), none, some (.int (nI g)), some (.long (lN (prM d g p))), none, some (.int (nI (if prG d g p = 0 then 0 else 1))), some (.int (nI p)), some (.long (lz ((sP d p 0 : Int) - sB d 0 0))), none, none, none, none, none] [.int (nI (if b = true then 1 else 0))] (hX 8 h m F A) = R 2 210 227 [some (.ref m), some (.int (nI i)), some (.long (lN al)), none, some (.long (lN (sB d 0 0))), none, some (.long (lN (al * rB d * sB d 0 3))), none, some (.int (nI g)), some (.long (lN (prM d g (rE d)))), none, some (.int (nI (if prG d g (rE d) = 0 then 0 else 1))), some (.long (lN 0)), none, some (.long (lN 0)), none, none, none, none] [] (hX 8 h m F A) := by
      intro b hb
      rw [B210_166, B210_168]
      simp only [hz]
      have ep : prG d g (p + 1) = if b = true then prG d g p * gn d p else prG d g p := by rw [prG, hb]
      by_cases c : prG d g p = 0
      · rw [if_pos c, if_pos (show nI 0 = 0 from rfl), B210_189]
        exact e190 b 0 hb (by rw [ep, c, Nat.zero_mul]; simp)
      · rw [if_neg c, if_neg (show ¬ nI 1 = 0 by decide)]
        by_cases cb : b = true
        · subst cb
          rw [if_pos rfl] at ep
          rw [if_neg (show ¬ nI (if true = true then 1 else 0) = 0 by decide)]
          by_cases q : 0 < gn d p
          · rw [if_pos q, B210_185, B210_186]
            exact e190 true 1 hb (by rw [ep, if_neg (Nat.mul_ne_zero c (by omega))])
          · rw [if_neg q, B210_189]
            exact e190 true 0 hb (by rw [ep, show gn d p = 0 by omega, Nat.mul_zero, if_pos rfl])
        · rw [if_neg cb] at ep
          rw [if_pos (show nI (if b = true then 1 else 0) = 0 by rw [if_neg cb]; rfl), B210_185, B210_186]
          exact e190 b 1 hb (by rw [ep, if_neg c])
    by_cases c : g.testBit p = true
    · rw [if_pos c]
      exact e166 true c
    · rw [if_neg c]
      exact e166 false (Bool.eq_false_iff.mpr c)
theorem l_gr2 (D0 : MRd d i A) (hd : rdOk d) (hi : i < 3) {g : Nat} (hg : g < 16) (hpr : ¬ prG d g (rE d) = 0) : ∀ n p (o3 : Option Value) (o5 : Option Value) (o7 : Option Value) (o10 : Option Value) (o13 : Option Value) (o15 : Option Value) (o17 : Option Value) (o18 : Option Value), p + n = rE d →
    ∃ o15' o16' o17', R 2 210 230 [some (.ref m), some (.int (nI i)), some (.long (lN al)), o3, some (.long (lN (sB d 0 0))), o5, some (.long (lN (al * rB d * sB d 0 3))), o7, some (.int (nI g)), some (.long (lN (prG d g (rE d)))), o10, some (.int (nI 1)), some (.long (lN (al * upS d g (prG d g (rE d)) p))), o13, some (.long (lN (dnS d g (prG d g (rE d)) p))), o15, some (.int (nI p)), o17, o18] [] (hX 8 h m F A) = R 2 210 306 [some (.ref m), some (.int (nI i)), some (.long (lN al)), none, some (.long (lN (sB d 0 0))), none, some (.long (lN (al * rB d * sB d 0 3))), none, some (.int (nI g)), some (.long (lN (prG d g (rE d)))), none, some (.int (nI 1)), some (.long (lN (al * upS d g (prG d g (rE d)) (rE d)))), none, some (.long (lN (dnS d g (prG d g (rE d)) (rE d)))), o15', o16', o17', none] [] (hX 8 h m F A) := by
  have h4 := hd.2.1
  intro n
  induction n with
  | zero =>
    intro p o3 o5 o7 o10 o13 o15 o17 o18 hp
    obtain rfl : p = rE d := hp
    refine ⟨none, some (.int (nI (rE d))), none, ?_⟩
    rw [B210_230, B210_232, x8_3, obd_some, m_2 hi, obd_some, D0.2.1, if_neg (show ¬ nI (rE d) < nI (rE d) from Int32.lt_irrefl)]
  | succ n ih =>
    intro p o3 o5 o7 o10 o13 o15 o17 o18 hpn
    have hp : p < rE d := by omega
    have hsp := sP_le hd p 0
    have hsb := sB_le hd 0 0
    have hpl := prG_99 hd g (Nat.le_refl (rE d))
    have e := fun o17 => ih (p + 1) none none none none none none o17 none (by omega)
    rw [B210_230, B210_232, x8_3, obd_some, m_2 hi, obd_some, D0.2.1, if_pos (show nI p < nI (rE d) by rw [nJ_lt (by omega) (by omega)]; exact hp), if_neg (show ¬ nI 1 = 0 by decide), B210_250]
    simp only [sr_m hg (show p < 4 by omega)]
    by_cases c : g.testBit p = true
    · have hgn : 0 < gn d p := (prG_pos (rE d) (by omega) p hp c).1
      have eg : lN (sP d p 0) - lN (sB d 0 0) = lN (gn d p) := by
        rw [lN_z, lN_z, lN_z, lz_sub]; unfold gn at hgn ⊢; congr 1; omega
      have hgl := gn_le hd p
      rw [if_pos c, B210_263, m_o, obd_some, c_ofP D0 hd hi hp (by omega)]
      simp only [obd_some, obd_none, Option.toList_some, Option.toList_none, List.cons_append, List.nil_append, cond_true, cond_false, B210_267]
      rw [nI_l (by omega), eg, if_neg (show ¬ lN (gn d p) = 0 by rw [lN_eq0 (by omega)]; omega), lN_div (by omega) (by omega) hgn, B210_279, m_o, obd_some, c_ofP D0 hd hi hp (by omega)]
      simp only [obd_some, obd_none, Option.toList_some, Option.toList_none, List.cons_append, List.nil_append, cond_true, cond_false, B210_285, B210_298, B210_300, B210_303, nJ_add]
      rw [nI_l (by omega), lN_mul, lN_mul, lN_add, lN_add]
      have e := e none
      rw [upS, dnS, if_pos ⟨c, hgn⟩, if_pos ⟨c, hgn⟩, Nat.mul_add, ← Nat.mul_assoc al] at e
      exact e
    · rw [if_neg c, B210_300, B210_303, nJ_add]
      have e := e none
      rw [upS, dnS, if_neg (fun z => c z.1), if_neg (fun z => c z.1)] at e
      exact e
end MEven
