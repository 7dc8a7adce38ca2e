/-! the table of a Best: by aim and by ties, a row's five numbers, or nothing. -/
abbrev jTab : Type := Nat → Nat → Option (Nat → Nat)
def slt (aim t : Nat) : Nat := (aim * 11 + t) * 5
def TabIs (A : Nat → Nat → Int32) (T : jTab) : Prop := ∀ aim t, aim < 3 → t < 11 → match T aim t with
  | none => A 1 (slt aim t) = -nI 9
  | some x => ∀ w, w < 5 → A 1 (slt aim t + w) = nI (x w)
/-- the numbers are small -/
def rcOk (x : Nat → Nat) : Prop := ∀ w, w < 5 → x w < 1000000
def TabOk (T : jTab) : Prop := ∀ aim t x, T aim t = some x → rcOk x
def bef (aim : Nat) (x y : Nat → Nat) : Prop := if x aim = y aim then (if x 0 = y 0 then x 4 < y 4 else x 0 < y 0) else x aim < y aim
def befB (aim : Nat) (x y : Nat → Nat) : Bool := if x aim = y aim then (if x 0 = y 0 then decide (x 4 < y 4) else decide (x 0 < y 0)) else decide (x aim < y aim)
def b2j (x : Bool) : Int32 := if x = true then nI 1 else nI 0
theorem b2j_0 (x : Bool) : (b2j x = 0) = (x = false) := by cases x <;> (unfold b2j; decide)
theorem bl_j (x : Bool) : bl (b2j x) = true := by cases x <;> (unfold b2j; decide)
section BTab
variable {h : jHp} {b r : Nat} {d : jRD} {rr ws lp lf : Int32} {A AJ : Nat → Nat → Int32} {T : jTab}
theorem c_slotOf (aim t : Nat) (h : jHp) : mc 64 [.int (nI aim), .int (nI t)] h = some (some (.int (nI (slt aim t))), h) := by
  rw [M64]
  simp only [nI_mul, nJ_add]
  rfl
theorem slt_le {aim t : Nat} (ha : aim < 3) (ht : t < 11) : slt aim t ≤ 160 := by unfold slt; omega
theorem c_isSlot {s : Nat} (hs : s ≤ 160) : mc 65 [.ref b, .int (nI s)] (bJ h b r rr ws lp lf A AJ) = some (some (.int (nI 1)), bJ h b r rr ws lp lf A AJ) := by
  rw [M65]
  simp (disch := omega) only [bb_6, bbl_1, obd_some, obd_none, Option.toList_some, Option.toList_none, List.cons_append, List.nil_append, cond_true, cond_false, nJ_add, nI_mul, nJ_lt, nJ_le, nI_inj, nI_lt0, nI_eq0, nI_gt0, toNat_nI, if_false, nI_sub, show ¬ 165 - 5 < s by omega]
theorem c_isEmpty (hT : TabIs A T) (hO : TabOk T) {aim t : Nat} (ha : aim < 3) (ht : t < 11) : mc 66 [.ref b, .int (nI (slt aim t))] (bJ h b r rr ws lp lf A AJ) = some (some (.int (b2j (T aim t).isNone)), bJ h b r rr ws lp lf A AJ) := by
  have hs := slt_le ha ht
  have g := hT aim t ha ht
  rw [M66, bb_o, obd_some, c_isSlot hs]
  simp (disch := omega) only [obd_some, obd_none, Option.toList_some, Option.toList_none, List.cons_append, List.nil_append, cond_true, cond_false, B66_5, bb_6, bbr_1]
  rw [if_neg (show ¬ nI 1 = 0 by decide)]
  cases e : T aim t with
  | none =>
    rw [e] at g
    rw [if_pos g]
    rfl
  | some x =>
    rw [e] at g
    have g0 := g 0 (by omega)
    have h0 := hO aim t x e 0 (by omega)
    rw [Nat.add_zero] at g0
    rw [if_neg (show ¬ A 1 (slt aim t) = -nI 9 by rw [g0, neg9_ne (by omega)]; exact id)]
    rfl
theorem c_isBefore {ra ri s aim : Nat} {x y : Nat → Nat} (ha : aim < 3) (hs : s ≤ 160) (hx : rcOk x) (hy : rcOk y) (hX : ∀ w, w < 5 → alI (bJ h b r rr ws lp lf A AJ) ra (nI (ri + w)) = some (nI (x w))) (hY : ∀ w, w < 5 → A 1 (s + w) = nI (y w)) :
    mc 67 [.ref b, .ref ra, .int (nI ri), .int (nI s), .int (nI aim)] (bJ h b r rr ws lp lf A AJ) = some (some (.int (b2j (befB aim x y))), bJ h b r rr ws lp lf A AJ) := by
  have x0 := hx 0 (by omega)
  have xa := hx aim (by omega)
  have x4 := hx 4 (by omega)
  have y0 := hy 0 (by omega)
  have ya := hy aim (by omega)
  have y4 := hy 4 (by omega)
  have X0 := hX 0 (by omega)
  have Y0 := hY 0 (by omega)
  rw [Nat.add_zero] at X0 Y0
  rw [M67]
  simp (disch := omega) only [nJ_add, hX aim (by omega), obd_some, obd_none, Option.toList_some, Option.toList_none, List.cons_append, List.nil_append, cond_true, cond_false, bb_6, bbr_1, hY aim (by omega), X0, Y0, B67_29, B67_54, B67_72, hX 4 (by omega), hY 4 (by omega), nI_inj, nJ_lt, B67_41, B67_71, B67_93]
  have b1 : bl (nI 1) = true := by decide
  have b0 : bl (nI 0) = true := by decide
  simp only [b1, b0, cond_true]
  unfold befB b2j
  by_cases a1 : x aim = y aim
  · rw [if_pos a1, if_pos a1]
    by_cases a2 : x 0 = y 0
    · rw [if_pos a2, if_pos a2]
      by_cases a3 : x 4 < y 4
      · rw [if_pos a3, if_pos (decide_eq_true a3)]
      · rw [if_neg a3, if_neg (by rw [decide_eq_true_eq]; exact a3)]
    · rw [if_neg a2, if_neg a2]
      by_cases a3 : x 0 < y 0
      · rw [if_pos a3, if_pos (decide_eq_true a3)]
      · rw [if_neg a3, if_neg (by rw [decide_eq_true_eq]; exact a3)]
  · rw [if_neg a1, if_neg a1]
    by_cases a3 : x aim < y aim
    · rw [if_pos a3, if_pos (decide_eq_true a3)]
    · rw [if_neg a3, if_neg (by rw [decide_eq_true_eq]; exact a3)]
/-- the best by an aim among those with fewer ties than n -/
def pk (T : jTab) (aim : Nat) : Nat → Option (Nat × (Nat → Nat))
  | 0 => none
  | n + 1 => match T aim n with
    | none => pk T aim n
    | some x => match pk T aim n with
      | none => some (n, x)
      | some c => if befB aim x c.2 = true then some (n, x) else some c
def pkI (aim : Nat) (q : Option (Nat × (Nat → Nat))) : Int32 := match q with | none => -nI 9 | some c => nI (slt aim c.1)
theorem pkIn {aim : Nat} : ∀ n c, pk T aim n = some c → c.1 < n ∧ T aim c.1 = some c.2
  | 0, c, h => by cases h
  | n + 1, c, h => by
    rw [pk] at h
    cases e : T aim n with
    | none =>
      rw [e] at h
      have := pkIn n c h
      exact ⟨by omega, this.2⟩
    | some x =>
      rw [e] at h
      cases e2 : pk T aim n with
      | none =>
        rw [e2] at h
        cases h
        exact ⟨by omega, e⟩
      | some c2 =>
        rw [e2] at h
        have g := pkIn n c2 e2
        dsimp only at h
        split at h
        · cases h; exact ⟨by omega, e⟩
        · cases h; exact ⟨by omega, g.2⟩
theorem l_pick (hT : TabIs A T) (hO : TabOk T) {aim n : Nat} (ha : aim < 3) (hn : n ≤ 10) :
    ∀ (m t : Nat) (o2 o6 : Option Value), t + m = n + 1 → R 3 68 25 [some (.ref b), some (.int (nI aim)), o2, some (.int (nI n)), some (.int (pkI aim (pk T aim t))), some (.int (nI t)), o6] [] (bJ h b r rr ws lp lf A AJ)
      = some (some (.int (pkI aim (pk T aim (n + 1)))), bJ h b r rr ws lp lf A AJ) := by
  intro m
  induction m with
  | zero =>
    intro t o2 o6 ht
    obtain rfl : t = n + 1 := ht
    rw [B68_25, if_pos (show nI n < nI (n + 1) by rw [nJ_lt (by omega) (by omega)]; omega)]
  | succ m ih =>
    intro t o2 o6 htm
    have ht : t < 11 := by omega
    rw [B68_25, if_neg (show ¬ nI n < nI t by rw [nJ_lt (by omega) (by omega)]; omega), c_slotOf]
    simp only [obd_some, obd_none, Option.toList_some, Option.toList_none, List.cons_append, List.nil_append, cond_true, cond_false, B68_37, bb_o, c_isEmpty hT hO ha ht, B68_45, b2j_0, nJ_add]
    cases e : T aim t with
    | none =>
      rw [if_neg (show ¬ (none : Option (Nat → Nat)).isNone = false by decide), ← ih (t + 1) none none (by omega), pk, e]
    | some x =>
      rw [if_pos (show (some x).isNone = false from rfl)]
      cases e2 : pk T aim t with
      | none =>
        rw [if_pos (show pkI aim none = -nI 9 from rfl), ← ih (t + 1) none none (by omega), pk, e, e2]
        rfl
      | some c =>
        obtain ⟨g1, g2⟩ := pkIn t c e2
        have hs1 := slt_le ha ht
        have hs2 := slt_le ha (show c.1 < 11 by omega)
        have t1 := hT aim t ha ht
        have t2 := hT aim c.1 ha (by omega)
        rw [e] at t1
        rw [g2] at t2
        rw [if_neg (show ¬ pkI aim (some c) = -nI 9 by rw [show pkI aim (some c) = nI (slt aim c.1) from rfl, neg9_ne (by omega)]; exact id), bb_6, obd_some]
        rw [show pkI aim (some c) = nI (slt aim c.1) from rfl, c_isBefore (ra := b + 1) (ri := slt aim t) (s := slt aim c.1) ha hs2 (hO aim t x e) (hO aim c.1 c.2 g2) (fun w hw => by rw [bbr_1 (by omega), t1 w hw]) t2]
        simp only [obd_some, obd_none, Option.toList_some, Option.toList_none, List.cons_append, List.nil_append, cond_true, cond_false, B68_68, b2j_0, nJ_add]
        by_cases q : befB aim x c.2 = true
        · rw [if_neg (by rw [q]; decide), ← ih (t + 1) none none (by omega), pk, e, e2]
          dsimp only
          rw [if_pos q]
          rfl
        · rw [if_pos (Bool.eq_false_iff.mpr q), ← ih (t + 1) none none (by omega), pk, e, e2]
          dsimp only
          rw [if_neg q]
          rfl
/-- so many ties at most, none: any -/
def mostT (t : Option Nat) : Nat := match t with | none => 10 | some t => if 10 < t then 10 else t
theorem c_pick (hT : TabIs A T) (hO : TabOk T) {aim : Nat} {t : Option Nat} (ha : aim < 3) (ht : ∀ m, t = some m → m ≤ 12) : mc 68 [.ref b, .int (nI aim), .int (cmI t)] (bJ h b r rr ws lp lf A AJ) = some (some (.int (pkI aim (pk T aim (mostT t + 1)))), bJ h b r rr ws lp lf A AJ) := by
  rw [M68]
  have e17 : ∀ n, n ≤ 10 → ∀ o2, R 3 68 17 [some (.ref b), some (.int (nI aim)), o2, none, none, none, none] [.int (nI n)] (bJ h b r rr ws lp lf A AJ) = some (some (.int (pkI aim (pk T aim (n + 1)))), bJ h b r rr ws lp lf A AJ) := by
    intro n hn o2
    rw [B68_17, B68_18]
    exact l_pick hT hO ha hn (n + 1) 0 none none (Nat.zero_add _)
  cases t with
  | none =>
    rw [if_pos (show cmI none = -nI 9 from rfl)]
    exact e17 10 (by omega) _
  | some m =>
    have hm := ht m rfl
    rw [if_neg (show ¬ cmI (some m) = -nI 9 by rw [show cmI (some m) = nI m from rfl, neg9_ne (by omega)]; exact id), show cmI (some m) = nI m from rfl, c_min (by omega) (by omega)]
    simp only [obd_some, obd_none, Option.toList_some, Option.toList_none, List.cons_append, List.nil_append, cond_true, cond_false]
    exact e17 _ (by split <;> omega) _
theorem c_numberOf (hT : TabIs A T) (hO : TabOk T) {aim t w : Nat} {x : Nat → Nat} (ha : aim < 3) (ht : t < 11) (hw : w < 5) (e : T aim t = some x) : mc 69 [.ref b, .int (nI (slt aim t)), .int (nI w)] (bJ h b r rr ws lp lf A AJ) = some (some (.int (nI (x w))), bJ h b r rr ws lp lf A AJ) := by
  have hs := slt_le ha ht
  have g := hT aim t ha ht
  rw [e] at g
  rw [M69, bb_o, obd_some, c_isEmpty hT hO ha ht, e]
  simp (disch := omega) only [obd_some, obd_none, Option.toList_some, Option.toList_none, List.cons_append, List.nil_append, cond_true, cond_false, B69_5, b2j_0, Option.isNone_some, if_true, nJ_add, nI_mul, nJ_lt, nJ_le, nI_inj, nI_lt0, nI_eq0, nI_gt0, toNat_nI, if_false, hw, bb_6, bbr_1, g w hw]
theorem c_numberNone (w : Nat) : mc 69 [.ref b, .int (-nI 9), .int (nI w)] (bJ h b r rr ws lp lf A AJ) = some (some (.int (-nI 9)), bJ h b r rr ws lp lf A AJ) := by
  rw [M69, bb_o, obd_some, M66, bb_o, obd_some, M65, if_pos (show -nI 9 < 0 by decide)]
  simp only [obd_some, obd_none, Option.toList_some, Option.toList_none, List.cons_append, List.nil_append, cond_true, cond_false, B66_5]
  rw [if_pos (show nI 0 = 0 from rfl)]
  simp only [obd_some, obd_none, Option.toList_some, Option.toList_none, List.cons_append, List.nil_append, cond_true, cond_false, B69_5]
  rw [if_neg (show ¬ nI 1 = 0 by decide)]
theorem c_numberEmpty (hT : TabIs A T) (hO : TabOk T) {aim t w : Nat} (ha : aim < 3) (ht : t < 11) (e : T aim t = none) : mc 69 [.ref b, .int (nI (slt aim t)), .int (nI w)] (bJ h b r rr ws lp lf A AJ) = some (some (.int (-nI 9)), bJ h b r rr ws lp lf A AJ) := by
  rw [M69, bb_o, obd_some, c_isEmpty hT hO ha ht, e]
  simp only [obd_some, obd_none, Option.toList_some, Option.toList_none, List.cons_append, List.nil_append, cond_true, cond_false, B69_5, b2j_0]
  rw [if_neg (show ¬ (none : Option (Nat → Nat)).isNone = false by decide)]
/-- the fewest ties among rows as soon as the soonest -/
def fwT (T : jTab) (s : Nat) : Nat → Nat → Option Nat
  | 0, _ => none
  | m + 1, t => match T 0 t with
    | none => fwT T s m (t + 1)
    | some x => if x 0 = s then some t else fwT T s m (t + 1)
theorem l_few (hT : TabIs A T) (hO : TabOk T) {s : Nat} (hs : s < 1000000) : ∀ m t, t + m = 11 → R 4 74 15 [some (.ref b), some (.int (nI s)), some (.int (nI t))] [] (bJ h b r rr ws lp lf A AJ) = some (some (.int (cmI (fwT T s m t))), bJ h b r rr ws lp lf A AJ) := by
  intro m
  induction m with
  | zero =>
    intro t ht
    obtain rfl : t = 11 := ht
    rw [B74_15, if_pos (show nI 10 < nI 11 by decide)]
    rfl
  | succ m ih =>
    intro t htm
    have ht : t < 11 := by omega
    rw [B74_15, if_neg (show ¬ nI 10 < nI t by rw [nJ_lt (by omega) (by omega)]; omega), if_neg (show ¬ nI s = -nI 9 by rw [neg9_ne (by omega)]; exact id), c_slotOf]
    simp only [obd_some, obd_none, Option.toList_some, Option.toList_none, List.cons_append, List.nil_append, cond_true, cond_false, B74_33, bb_o]
    unfold fwT
    cases e : T 0 t with
    | none =>
      rw [c_numberEmpty hT hO (by omega) ht e]
      simp only [obd_some, obd_none, Option.toList_some, Option.toList_none, List.cons_append, List.nil_append, cond_true, cond_false, B74_37, nJ_add]
      rw [if_neg (show ¬ -nI 9 = nI s by rw [neg9_ne' (by omega)]; exact id)]
      exact ih (t + 1) (by omega)
    | some x =>
      have hx := hO 0 t x e 0 (by omega)
      rw [c_numberOf hT hO (by omega) ht (by omega) e]
      simp (disch := omega) only [obd_some, obd_none, Option.toList_some, Option.toList_none, List.cons_append, List.nil_append, cond_true, cond_false, B74_37, nJ_add, nI_inj]
      by_cases q : x 0 = s
      · rw [if_pos q, if_pos q]; rfl
      · rw [if_neg q, if_neg q]
        exact ih (t + 1) (by omega)
theorem l_fewNone : ∀ m t, t + m = 11 → R 4 74 15 [some (.ref b), some (.int (-nI 9)), some (.int (nI t))] [] (bJ h b r rr ws lp lf A AJ) = some (some (.int (-nI 9)), bJ h b r rr ws lp lf A AJ) := by
  intro m
  induction m with
  | zero =>
    intro t ht
    obtain rfl : t = 11 := ht
    rw [B74_15, if_pos (show nI 10 < nI 11 by decide)]
  | succ m ih =>
    intro t htm
    rw [B74_15, if_neg (show ¬ nI 10 < nI t by rw [nJ_lt (by omega) (by omega)]; omega), if_pos (show -nI 9 = -nI 9 from rfl), nJ_add]
    exact ih (t + 1) (by omega)
theorem c_fewestTies (hT : TabIs A T) (hO : TabOk T) : mc 74 [.ref b] (bJ h b r rr ws lp lf A AJ) = some (some (.int (cmI (match pk T 0 11 with | none => none | some c => fwT T (c.2 0) 11 0))), bJ h b r rr ws lp lf A AJ) := by
  have hp := c_pick (h := h) (b := b) (r := r) (rr := rr) (ws := ws) (lp := lp) (lf := lf) (AJ := AJ) hT hO (aim := 0) (t := none) (by omega) (fun m q => by cases q)
  rw [show cmI none = -nI 9 from rfl, show mostT none + 1 = 11 from rfl] at hp
  rw [M74, bb_o, obd_some, hp]
  simp only [obd_some, obd_none, Option.toList_some, Option.toList_none, List.cons_append, List.nil_append, cond_true, cond_false, B74_8, bb_o]
  cases e : pk T 0 11 with
  | none =>
    rw [show pkI 0 none = -nI 9 from rfl, c_numberNone 0]
    simp only [obd_some, obd_none, Option.toList_some, Option.toList_none, List.cons_append, List.nil_append, cond_true, cond_false, B74_12]
    exact l_fewNone 11 0 rfl
  | some c =>
    obtain ⟨g1, g2⟩ := pkIn 11 c e
    rw [show pkI 0 (some c) = nI (slt 0 c.1) from rfl, c_numberOf hT hO (by omega) g1 (by omega) g2]
    simp only [obd_some, obd_none, Option.toList_some, Option.toList_none, List.cons_append, List.nil_append, cond_true, cond_false, B74_12]
    exact l_few hT hO (hO 0 c.1 c.2 g2 0 (by omega)) 11 0 rfl
end BTab
