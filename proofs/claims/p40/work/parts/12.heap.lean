/-! Blocks of the heap: an object with its own int arrays behind it. -/
def tTree (_ : Unit) : Nat := 0
/-- class c's field k is its own array so many cells behind it (0: none) -/
def oOff (c k : Nat) : Nat := match c with
  | 8 => (cond (Nat.blt k 2) 0 (cond (Nat.blt k 11) (k - 1) (cond (Nat.blt k 16) 0 (cond (Nat.blt k 20) (k - 6) (cond (Nat.blt k 22) 0 (cond (Nat.blt k 35) (k - 8) (cond (Nat.blt k 40) 0 (cond (Nat.blt k 44) (k - 13) 0))))))))
  | 1 => cond (Nat.blt k 9) k 0
  | 4 => cond (Nat.blt k 5) 0 (cond (Nat.blt k 9) (k - 4) 0)
  | 0 => cond (Nat.blt k 6) 0 (cond (Nat.blt k 9) (k - 5) 0)
  | 2 => cond (Nat.beq k 5) 1 0
  | 6 => cond (Nat.beq k 0) 1 0
  | _ => 0
def oN (c : Nat) : Nat := match c with
  | 8 => 30 | 1 => 8 | 4 => 4 | 0 => 3 | 2 => 1 | 6 => 1 | _ => 0
def oSz (c i : Nat) : Nat := match c with
  | 8 => ([0, 3, 3, 3, 18, 18, 48, 36, 3, 3, 6, 6, 16, 12, 10, 10, 10, 10, 240, 24, 28, 24, 4, 2, 14, 2, 2, 4, 4, 480, 120] : List Nat).getD i 0
  | 1 => ([0, 28, 28, 28, 14, 14, 14, 7, 7] : List Nat).getD i 0
  | 4 => ([0, 6, 6, 16, 12] : List Nat).getD i 0
  | 0 => ([0, 165, 5, 24] : List Nat).getD i 0
  | 2 => ([0, 24] : List Nat).getD i 0
  | 6 => ([0, 120] : List Nat).getD i 0
  | _ => 0
def oF (c b : Nat) (F : Nat → Value) (k : Nat) : Value := if oOff c k = 0 then F k else .ref (b + oOff c k)
def hX (c : Nat) (h : jHp) (b : Nat) (F : Nat → Value) (A : Nat → Nat → Int32) : jHp :=
  (fun a => if b ≤ a ∧ a ≤ b + oN c then some (if a = b then cO c (oF c b F) else cI (oSz c (a - b)) (A (a - b))) else h.1 a, h.2)
def updA (A : Nat → Nat → Int32) (i : Nat) (f : Nat → Int32) : Nat → Nat → Int32 := fun j => if j = i then f else A j
def rdA (n : Nat) (f : Nat → Int32) (j : Int32) : Option Int32 := if j < 0 ∨ n ≤ j.toNatClampNeg then none else some (f j.toNatClampNeg)
theorem obd_some {ρ α : Type} (X : ρ) (x : α) (k : α → ρ) : obd X (some x) k = k x := rfl
theorem obd_none {ρ α : Type} (X : ρ) (k : α → ρ) : obd X (none : Option α) k = X := rfl
theorem gO_of {h : jHp} {a c : Nat} {F : Nat → Value} (e : h.1 a = some (cO c F)) : gO h a c = some F := by
  unfold gO; rw [e]; exact if_pos rfl
theorem hX_0 (c : Nat) (h : jHp) (b : Nat) (F : Nat → Value) (A : Nat → Nat → Int32) : (hX c h b F A).1 b = some (cO c (oF c b F)) := by
  show (if b ≤ b ∧ b ≤ b + oN c then _ else _) = _
  rw [if_pos ⟨Nat.le_refl _, Nat.le_add_right _ _⟩, if_pos rfl]
theorem hX_i {c : Nat} {h : jHp} {b i : Nat} {F : Nat → Value} {A : Nat → Nat → Int32} (h0 : 0 < i) (h1 : i ≤ oN c) : (hX c h b F A).1 (b + i) = some (cI (oSz c i) (A i)) := by
  show (if b ≤ b + i ∧ b + i ≤ b + oN c then _ else _) = _
  rw [if_pos ⟨by omega, by omega⟩, if_neg (by omega), Nat.add_sub_cancel_left]
theorem hX_out {c : Nat} {h : jHp} {b a : Nat} {F : Nat → Value} {A : Nat → Nat → Int32} (ho : a < b ∨ b + oN c < a) : (hX c h b F A).1 a = h.1 a := by
  show (if b ≤ a ∧ a ≤ b + oN c then _ else _) = _
  rw [if_neg (by omega)]
theorem hX_2 (c : Nat) (h : jHp) (b : Nat) (F : Nat → Value) (A : Nat → Nat → Int32) : (hX c h b F A).2 = h.2 := rfl
theorem hX_hX (c : Nat) (h : jHp) (b : Nat) (F F' : Nat → Value) (A A' : Nat → Nat → Int32) : hX c (hX c h b F A) b F' A' = hX c h b F' A' := by
  unfold hX
  refine Prod.ext ?_ rfl
  funext a
  dsimp only
  split <;> rfl
theorem hset_hX0 (c : Nat) (h : jHp) (b : Nat) (F F' : Nat → Value) (A : Nat → Nat → Int32) : hset (hX c h b F A) b (cO c (oF c b F')) = hX c h b F' A := by
  unfold hset hX
  refine Prod.ext ?_ rfl
  funext a
  dsimp only
  by_cases e : a = b
  · subst e
    rw [if_pos rfl, if_pos ⟨Nat.le_refl _, Nat.le_add_right _ _⟩, if_pos rfl]
  · rw [if_neg e]
    split
    · simp only [if_neg e]
    · rfl
theorem hset_hXi {c : Nat} {h : jHp} {b i : Nat} {F : Nat → Value} {A : Nat → Nat → Int32} (h0 : 0 < i) (h1 : i ≤ oN c) (f : Nat → Int32) : hset (hX c h b F A) (b + i) (cI (oSz c i) f) = hX c h b F (updA A i f) := by
  unfold hset hX
  refine Prod.ext ?_ rfl
  funext a
  dsimp only
  by_cases e : a = b + i
  · subst e
    rw [if_pos rfl, if_pos ⟨by omega, by omega⟩, if_neg (by omega), Nat.add_sub_cancel_left]
    unfold updA
    rw [if_pos rfl]
  · rw [if_neg e]
    split
    · split
      · rfl
      · unfold updA
        rw [if_neg (by omega)]
    · rfl
theorem hset_out {c : Nat} {h : jHp} {b a : Nat} {F : Nat → Value} {A : Nat → Nat → Int32} (x : jCl) (ho : a < b ∨ b + oN c < a) : hset (hX c h b F A) a x = hX c (hset h a x) b F A := by
  unfold hset hX
  refine Prod.ext ?_ rfl
  funext q
  dsimp only
  by_cases e : q = a
  · subst e
    rw [if_pos rfl, if_neg (by omega), if_pos rfl]
  · rw [if_neg e]
    split
    · rfl
    · simp only [if_neg e]
theorem oF_upd {c b k : Nat} {F : Nat → Value} {v : Value} (e : oOff c k = 0) : updV (oF c b F) k v = oF c b (updV F k v) := by
  funext j
  unfold updV oF
  by_cases q : j = k
  · subst q
    simp only [if_pos rfl, if_pos e]
  · simp only [if_neg q]
theorem gI_hX {c k : Nat} {h : jHp} {b : Nat} {F : Nat → Value} {A : Nat → Nat → Int32} (e : oOff c k = 0) : gI (hX c h b F A) b c k = vI (F k) := by
  unfold gI; rw [gO_of (hX_0 c h b F A), Option.bind_some]; unfold oF; rw [if_pos e]
theorem gJ_hX {c k : Nat} {h : jHp} {b : Nat} {F : Nat → Value} {A : Nat → Nat → Int32} (e : oOff c k = 0) : gJ (hX c h b F A) b c k = vJ (F k) := by
  unfold gJ; rw [gO_of (hX_0 c h b F A), Option.bind_some]; unfold oF; rw [if_pos e]
theorem gA_hX {c k : Nat} {h : jHp} {b : Nat} {F : Nat → Value} {A : Nat → Nat → Int32} (e : oOff c k = 0) : gA (hX c h b F A) b c k = vA (F k) := by
  unfold gA; rw [gO_of (hX_0 c h b F A), Option.bind_some]; unfold oF; rw [if_pos e]
theorem gR_hX {c k i : Nat} {h : jHp} {b : Nat} {F : Nat → Value} {A : Nat → Nat → Int32} (e : oOff c k = i) (hi : ¬ i = 0) : gA (hX c h b F A) b c k = some (b + i) := by
  unfold gA; rw [gO_of (hX_0 c h b F A), Option.bind_some]; unfold oF; rw [e, if_neg hi]; rfl
theorem gO_hX (c : Nat) (h : jHp) (b : Nat) (F : Nat → Value) (A : Nat → Nat → Int32) : gO (hX c h b F A) b c = some (oF c b F) := gO_of (hX_0 c h b F A)
theorem pF_hX {c k : Nat} {h : jHp} {b : Nat} {F : Nat → Value} {A : Nat → Nat → Int32} (v : Value) (e : oOff c k = 0) : pF (hX c h b F A) b c k v = some (hX c h b (updV F k v) A) := by
  unfold pF; rw [gO_hX, Option.bind_some, oF_upd e, hset_hX0]
theorem alI_hX {c i n : Nat} {h : jHp} {b : Nat} {F : Nat → Value} {A : Nat → Nat → Int32} (j : Int32) (h0 : 0 < i) (h1 : i ≤ oN c) (hn : oSz c i = n) : alI (hX c h b F A) (b + i) j = rdA n (A i) j := by
  unfold alI aI; rw [hX_i h0 h1, hn]; rfl
theorem alen_hX {c i n : Nat} {h : jHp} {b : Nat} {F : Nat → Value} {A : Nat → Nat → Int32} (h0 : 0 < i) (h1 : i ≤ oN c) (hn : oSz c i = n) : alen (hX c h b F A) (b + i) = some (nI n) := by
  unfold alen; rw [hX_i h0 h1, hn]; rfl
theorem toNat_nI {t : Nat} (h : t < 2147483648) : (nI t).toNatClampNeg = t := Int32.toNatClampNeg_ofNat_of_lt h
theorem toInt_nI {t : Nat} (h : t < 2147483648) : (nI t).toInt = (t : Int) := toInt_of rfl h
theorem nI_nneg {t : Nat} (h : t < 2147483648) : ¬ nI t < 0 := by
  rw [Int32.lt_iff_toInt_lt, toInt_nI h]; simp
theorem rdA_nI {n t : Nat} (f : Nat → Int32) (h : t < n) (hn : n < 2147483648) : rdA n f (nI t) = some (f t) := by
  unfold rdA; rw [toNat_nI (by omega), if_neg]
  rintro (q | q)
  · exact nI_nneg (by omega) q
  · omega
theorem asI_hX {c i n t : Nat} {h : jHp} {b : Nat} {F : Nat → Value} {A : Nat → Nat → Int32} (x : Int32) (h0 : 0 < i) (h1 : i ≤ oN c) (hn : oSz c i = n) (hn2 : n < 2147483648) (ht : t < n) : asI (hX c h b F A) (b + i) (nI t) x = some (hX c h b F (updA A i (upd (A i) t x))) := by
  unfold asI wI
  rw [hX_i h0 h1]
  show (if nI t < 0 ∨ oSz c i ≤ (nI t).toNatClampNeg then none else some _) = _
  rw [if_neg, toNat_nI (by omega)]
  · show some (hset _ _ (cI (oSz c i) _)) = _
    rw [hset_hXi h0 h1]
  · rw [toNat_nI (by omega), hn]
    rintro (q | q)
    · exact nI_nneg (by omega) q
    · omega
/-! what lies elsewhere -/
theorem gO_out {c : Nat} {h : jHp} {b a k : Nat} {F : Nat → Value} {A : Nat → Nat → Int32} (ho : a < b ∨ b + oN c < a) : gO (hX c h b F A) a k = gO h a k := by unfold gO; rw [hX_out ho]
theorem gI_out {c : Nat} {h : jHp} {b a d k : Nat} {F : Nat → Value} {A : Nat → Nat → Int32} (ho : a < b ∨ b + oN c < a) : gI (hX c h b F A) a d k = gI h a d k := by unfold gI; rw [gO_out ho]
theorem gJ_out {c : Nat} {h : jHp} {b a d k : Nat} {F : Nat → Value} {A : Nat → Nat → Int32} (ho : a < b ∨ b + oN c < a) : gJ (hX c h b F A) a d k = gJ h a d k := by unfold gJ; rw [gO_out ho]
theorem gA_out {c : Nat} {h : jHp} {b a d k : Nat} {F : Nat → Value} {A : Nat → Nat → Int32} (ho : a < b ∨ b + oN c < a) : gA (hX c h b F A) a d k = gA h a d k := by unfold gA; rw [gO_out ho]
theorem alI_out {c : Nat} {h : jHp} {b a : Nat} {j : Int32} {F : Nat → Value} {A : Nat → Nat → Int32} (ho : a < b ∨ b + oN c < a) : alI (hX c h b F A) a j = alI h a j := by unfold alI aI; rw [hX_out ho]
theorem alen_out {c : Nat} {h : jHp} {b a : Nat} {F : Nat → Value} {A : Nat → Nat → Int32} (ho : a < b ∨ b + oN c < a) : alen (hX c h b F A) a = alen h a := by unfold alen; rw [hX_out ho]
/-- the block is there -/
def At (c : Nat) (h : jHp) (b : Nat) (F : Nat → Value) (A : Nat → Nat → Int32) : Prop := hX c h b F A = h
theorem At.own (c : Nat) (h : jHp) (b : Nat) (F : Nat → Value) (A : Nat → Nat → Int32) : At c (hX c h b F A) b F A := hX_hX c h b F F A A
theorem hX_comm {c d : Nat} {h : jHp} {a b : Nat} {F G : Nat → Value} {A E : Nat → Nat → Int32} (ho : a + oN c < b ∨ b + oN d < a) : hX c (hX d h b G E) a F A = hX d (hX c h a F A) b G E := by
  unfold hX
  refine Prod.ext ?_ rfl
  funext q
  dsimp only
  by_cases e1 : a ≤ q ∧ q ≤ a + oN c
  · have e2 : ¬ (b ≤ q ∧ q ≤ b + oN d) := by omega
    simp only [if_pos e1, if_neg e2]
  · by_cases e2 : b ≤ q ∧ q ≤ b + oN d
    · simp only [if_pos e2, if_neg e1]
    · simp only [if_neg e2, if_neg e1]
theorem At.out {c d : Nat} {h : jHp} {a b : Nat} {F G : Nat → Value} {A E : Nat → Nat → Int32} (H : At c h a F A) (ho : a + oN c < b ∨ b + oN d < a) : At c (hX d h b G E) a F A := by
  unfold At
  rw [hX_comm ho]
  exact congrArg (fun x => hX d x b G E) H
theorem At.eq {c : Nat} {h : jHp} {b : Nat} {F : Nat → Value} {A : Nat → Nat → Int32} (H : At c h b F A) : h = hX c h b F A := H.symm
theorem updV_s (F : Nat → Value) (k : Nat) (v : Value) : updV F k v k = v := if_pos rfl
theorem updV_n {F : Nat → Value} {k j : Nat} {v : Value} (h : ¬ j = k) : updV F k v j = F j := if_neg h
theorem updA_s (A : Nat → Nat → Int32) (k : Nat) (v : Nat → Int32) : updA A k v k = v := if_pos rfl
theorem updA_n {A : Nat → Nat → Int32} {k j : Nat} {v : Nat → Int32} (h : ¬ j = k) : updA A k v j = A j := if_neg h
theorem upd_s (f : Nat → Int32) (k : Nat) (v : Int32) : upd f k v k = v := if_pos rfl
theorem upd_n {f : Nat → Int32} {k j : Nat} {v : Int32} (h : ¬ j = k) : upd f k v j = f j := if_neg h
theorem vI_i (x : Int32) : vI (.int x) = some x := rfl
theorem vJ_j (x : Int64) : vJ (.long x) = some x := rfl
theorem vA_a (x : Nat) : vA (.ref x) = some x := rfl
/-! small whole numbers -/
theorem nJ_add (a b : Nat) : nI a + nI b = nI (a + b) := (Int32.ofNat_add a b).symm
theorem nI_mul (a b : Nat) : nI a * nI b = nI (a * b) := (Int32.ofNat_mul a b).symm
theorem nI_sub {a b : Nat} (h : b ≤ a) : nI a - nI b = nI (a - b) := by
  have e : nI a = nI (a - b) + nI b := by rw [nJ_add, Nat.sub_add_cancel h]
  rw [e]; exact Int32.add_sub_cancel _ _
theorem nJ_lt {a b : Nat} (ha : a < 2147483648) (hb : b < 2147483648) : (nI a < nI b) = (a < b) := by
  rw [Int32.lt_iff_toInt_lt, toInt_nI ha, toInt_nI hb]; exact propext Int.ofNat_lt
theorem nJ_le {a b : Nat} (ha : a < 2147483648) (hb : b < 2147483648) : (nI a ≤ nI b) = (a ≤ b) := by
  rw [Int32.le_iff_toInt_le, toInt_nI ha, toInt_nI hb]; exact propext Int.ofNat_le
theorem nI_inj {a b : Nat} (ha : a < 2147483648) (hb : b < 2147483648) : (nI a = nI b) = (a = b) := by
  refine propext ⟨fun h => ?_, fun h => h ▸ rfl⟩
  have := congrArg Int32.toInt h
  rw [toInt_nI ha, toInt_nI hb] at this
  exact Int.ofNat_inj.mp this
theorem nI_zero : nI 0 = 0 := rfl
theorem nI_lt0 {a : Nat} (ha : a < 2147483648) : (nI a < 0) = False := eq_false (nI_nneg ha)
theorem nI_eq0 {a : Nat} (ha : a < 2147483648) : (nI a = 0) = (a = 0) := nI_inj ha (by decide)
theorem nI_gt0 {a : Nat} (ha : a < 2147483648) : (0 < nI a) = (0 < a) := nJ_lt (by decide) ha
/-- true as 1, false as 0 -/
def b2i (c : Prop) [Decidable c] : Int32 := if c then nI 1 else nI 0
/-- a place of n: 0 .. n less 1 -/
abbrev inN (k : Int32) (n : Nat) : Prop := 0 ≤ k.toInt ∧ k.toInt < (n : Int)
theorem inN_nI {k : Int32} {n : Nat} (h : inN k n) : ∃ t, t < n ∧ k = nI t := by
  refine ⟨k.toInt.toNat, by have := h.1; have := h.2; omega, ?_⟩
  apply Int32.toInt_inj.mp
  have h1 := Int32.toInt_lt k
  have h2 := h.1
  rw [toInt_nI (by omega)]
  omega
theorem inN_of {t n : Nat} (h : t < n) (hn : n < 2147483648) : inN (nI t) n := by
  unfold inN; rw [toInt_nI (by omega)]; omega
