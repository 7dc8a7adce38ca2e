/-! the class's Journey: an object at j with its eight rows behind it, its road at r. -/
def jF (r : Nat) : Nat → Value := fun k => match k with | 0 => .ref r | _ => .null
def uA (A : Nat → Nat → Int32) (i t : Nat) (x : Int32) : Nat → Nat → Int32 := fun i' t' => if i' = i ∧ t' = t then x else A i' t'
theorem uA_eq (A : Nat → Nat → Int32) (i t : Nat) (x : Int32) : updA A i (upd (A i) t x) = uA A i t x := by
  funext i' t'
  unfold updA upd uA
  by_cases e : i' = i
  · subst e
    by_cases e2 : t' = t
    · subst e2; rw [if_pos rfl, if_pos rfl, if_pos ⟨rfl, rfl⟩]
    · rw [if_pos rfl, if_neg e2, if_neg (fun q => e2 q.2)]
  · rw [if_neg e, if_neg (fun q => e q.1)]
theorem uA_s (A : Nat → Nat → Int32) (i t : Nat) (x : Int32) : uA A i t x i t = x := if_pos ⟨rfl, rfl⟩
theorem uA_n {A : Nat → Nat → Int32} {i t i' t' : Nat} {x : Int32} (h : ¬ (i' = i ∧ t' = t)) : uA A i t x i' t' = A i' t' := if_neg h
def jJ (h : jHp) (j r : Nat) (A : Nat → Nat → Int32) : jHp := hX 1 h j (jF r) A
/-- what a Journey stands on: its road, and a row of cells, apart from it -/
def jEnv (h : jHp) (j r : Nat) (d : jRD) (ca : Nat) (C : Nat → Int32) : Prop := RoadAt h r d ∧ rdOk d ∧ (r + 4 < j ∨ j + 8 < r) ∧ h.1 ca = some (cI 24 C) ∧ (ca < j ∨ j + 8 < ca)
section JRows
variable {h : jHp} {j r ca : Nat} {d : jRD} {C : Nat → Int32} {A : Nat → Nat → Int32}
theorem jj_0 : gA (jJ h j r A) j 1 0 = some r := x1_0
theorem jj_o : gO (jJ h j r A) j 1 = some (oF 1 j (jF r)) := gO_hX _ _ _ _ _
theorem jj_1 : gA (jJ h j r A) j 1 1 = some (j + 1) := x1_1
theorem jj_2 : gA (jJ h j r A) j 1 2 = some (j + 2) := x1_2
theorem jj_3 : gA (jJ h j r A) j 1 3 = some (j + 3) := x1_3
theorem jj_4 : gA (jJ h j r A) j 1 4 = some (j + 4) := x1_4
theorem jj_5 : gA (jJ h j r A) j 1 5 = some (j + 5) := x1_5
theorem jj_6 : gA (jJ h j r A) j 1 6 = some (j + 6) := x1_6
theorem jj_7 : gA (jJ h j r A) j 1 7 = some (j + 7) := x1_7
theorem jj_8 : gA (jJ h j r A) j 1 8 = some (j + 8) := x1_8
theorem jr_1 {t : Nat} (ht : t < 28) : alI (jJ h j r A) (j + 1) (nI t) = some (A 1 t) := (r1_1 _).trans (rdA_nI _ ht (by decide))
theorem jr_2 {t : Nat} (ht : t < 28) : alI (jJ h j r A) (j + 2) (nI t) = some (A 2 t) := (r1_2 _).trans (rdA_nI _ ht (by decide))
theorem jr_3 {t : Nat} (ht : t < 28) : alI (jJ h j r A) (j + 3) (nI t) = some (A 3 t) := (r1_3 _).trans (rdA_nI _ ht (by decide))
theorem jr_4 {t : Nat} (ht : t < 14) : alI (jJ h j r A) (j + 4) (nI t) = some (A 4 t) := (r1_4 _).trans (rdA_nI _ ht (by decide))
theorem jr_5 {t : Nat} (ht : t < 14) : alI (jJ h j r A) (j + 5) (nI t) = some (A 5 t) := (r1_5 _).trans (rdA_nI _ ht (by decide))
theorem jr_6 {t : Nat} (ht : t < 14) : alI (jJ h j r A) (j + 6) (nI t) = some (A 6 t) := (r1_6 _).trans (rdA_nI _ ht (by decide))
theorem jr_7 {t : Nat} (ht : t < 7) : alI (jJ h j r A) (j + 7) (nI t) = some (A 7 t) := (r1_7 _).trans (rdA_nI _ ht (by decide))
theorem jr_8 {t : Nat} (ht : t < 7) : alI (jJ h j r A) (j + 8) (nI t) = some (A 8 t) := (r1_8 _).trans (rdA_nI _ ht (by decide))
theorem jw_1 {t : Nat} {x : Int32} (ht : t < 28) : asI (jJ h j r A) (j + 1) (nI t) x = some (jJ h j r (uA A 1 t x)) := (w1_1 x ht).trans (by rw [uA_eq]; rfl)
theorem jw_2 {t : Nat} {x : Int32} (ht : t < 28) : asI (jJ h j r A) (j + 2) (nI t) x = some (jJ h j r (uA A 2 t x)) := (w1_2 x ht).trans (by rw [uA_eq]; rfl)
theorem jw_3 {t : Nat} {x : Int32} (ht : t < 28) : asI (jJ h j r A) (j + 3) (nI t) x = some (jJ h j r (uA A 3 t x)) := (w1_3 x ht).trans (by rw [uA_eq]; rfl)
theorem jw_4 {t : Nat} {x : Int32} (ht : t < 14) : asI (jJ h j r A) (j + 4) (nI t) x = some (jJ h j r (uA A 4 t x)) := (w1_4 x ht).trans (by rw [uA_eq]; rfl)
theorem jw_5 {t : Nat} {x : Int32} (ht : t < 14) : asI (jJ h j r A) (j + 5) (nI t) x = some (jJ h j r (uA A 5 t x)) := (w1_5 x ht).trans (by rw [uA_eq]; rfl)
theorem jw_6 {t : Nat} {x : Int32} (ht : t < 14) : asI (jJ h j r A) (j + 6) (nI t) x = some (jJ h j r (uA A 6 t x)) := (w1_6 x ht).trans (by rw [uA_eq]; rfl)
theorem jw_7 {t : Nat} {x : Int32} (ht : t < 7) : asI (jJ h j r A) (j + 7) (nI t) x = some (jJ h j r (uA A 7 t x)) := (w1_7 x ht).trans (by rw [uA_eq]; rfl)
theorem jw_8 {t : Nat} {x : Int32} (ht : t < 7) : asI (jJ h j r A) (j + 8) (nI t) x = some (jJ h j r (uA A 8 t x)) := (w1_8 x ht).trans (by rw [uA_eq]; rfl)
theorem je_road (H : jEnv h j r d ca C) : RoadAt (jJ h j r A) r d := by
  obtain ⟨h1, -, h3, -⟩ := H
  exact h1.out (c := 4) (d := 1) (b := j) (by simp only [oN]; omega)
theorem je_cells (H : jEnv h j r d ca C) : (jJ h j r A).1 ca = some (cI 24 C) := by
  obtain ⟨-, -, -, h4, h5⟩ := H
  rw [← h4]
  exact hX_out (by simp only [oN]; omega)
theorem alI_of {h : jHp} {a n t : Nat} {f : Nat → Int32} (e : h.1 a = some (cI n f)) (ht : t < n) (hn : n < 2147483648) : alI h a (nI t) = some (f t) := by
  unfold alI aI; rw [e]; exact rdA_nI f ht hn
theorem alen_of {h : jHp} {a n : Nat} {f : Nat → Int32} (e : h.1 a = some (cI n f)) : alen h a = some (nI n) := by
  unfold alen; rw [e]; rfl
theorem je_ca (H : jEnv h j r d ca C) {t : Nat} (ht : t < 24) : alI (jJ h j r A) ca (nI t) = some (C t) := alI_of (je_cells H) ht (by decide)
theorem je_cl (H : jEnv h j r d ca C) : alen (jJ h j r A) ca = some (nI 24) := alen_of (je_cells H)
theorem idx4 (k p : Nat) : (k + 1) * 4 + p = k * 4 + p + 4 := by omega
theorem idx2 (k b : Nat) : (k + 1) * 2 + b = k * 2 + b + 2 := by omega
/-- what may be written while all go on by piece k -/
def inRow (k i t : Nat) : Prop := (i = 1 ∧ k * 4 + 4 ≤ t ∧ t < k * 4 + 8) ∨ (i = 2 ∧ k * 4 ≤ t ∧ t < k * 4 + 4) ∨ (i = 3 ∧ k * 4 + 4 ≤ t ∧ t < k * 4 + 8) ∨ (4 ≤ i ∧ i ≤ 6 ∧ k * 2 + 2 ≤ t ∧ t < k * 2 + 4) ∨ (7 ≤ i ∧ i ≤ 8 ∧ t = k + 1)
def Fr (k : Nat) (A A' : Nat → Nat → Int32) : Prop := ∀ i t, ¬ inRow k i t → A' i t = A i t
theorem Fr_refl (k : Nat) (A : Nat → Nat → Int32) : Fr k A A := fun _ _ _ => rfl
theorem Fr_uA {k : Nat} {A A' : Nat → Nat → Int32} {i t : Nat} {x : Int32} (H : Fr k A A') (hi : inRow k i t) : Fr k A (uA A' i t x) := by
  intro i' t' hn
  rw [uA_n (by rintro ⟨rfl, rfl⟩; exact hn hi)]
  exact H i' t' hn
theorem Fr_trans {k : Nat} {A B D : Nat → Nat → Int32} (H : Fr k A B) (H2 : Fr k B D) : Fr k A D := fun i t hn => (H2 i t hn).trans (H i t hn)
theorem c_walk (H : jEnv h j r d ca C) {k p f t : Nat} (hk : k < rP d) (hp : p < rE d) (hf : f ≤ 1000) (hA3 : A 3 (k * 4 + p) = nI f) (hA1 : A 1 (k * 4 + p) = nI t) :
    mc 43 [.ref j, .int (nI k), .int (nI p)] (jJ h j r A) = some (some (.int (nI (if sP d p 3 < f + rM d k then 3 else 0))), jJ h j r (uA (uA (uA A 3 (k * 4 + p + 4) (nI (f + rM d k))) 2 (k * 4 + p) (nI t)) 1 (k * 4 + p + 4) (nI (t + wlk d p k)))) := by
  have hd := H.2.1
  have h6 := hd.1
  have h4 := hd.2.1
  have hM := hd.2.2.2.1 k
  have hF := sP_le hd p 3
  rw [M43]
  have hr0 : RoadAt (jJ h j r A) r d := je_road H
  have hr1 : RoadAt (jJ h j r (uA (uA A 3 (k * 4 + p + 4) (nI (f + rM d k))) 2 (k * 4 + p) (nI t))) r d := je_road H
  have hr2 : RoadAt (jJ h j r (uA (uA (uA A 3 (k * 4 + p + 4) (nI (f + rM d k))) 2 (k * 4 + p) (nI t)) 1 (k * 4 + p + 4) (nI (t + wlk d p k)))) r d := je_road H
  have e1 : uA A 3 (k * 4 + p + 4) (nI (f + rM d k)) 1 (k * 4 + p) = nI t := by rw [uA_n (by omega), hA1]
  have e2 : uA (uA A 3 (k * 4 + p + 4) (nI (f + rM d k))) 2 (k * 4 + p) (nI t) 1 (k * 4 + p) = nI t := by rw [uA_n (by omega), e1]
  have e3 : uA (uA (uA A 3 (k * 4 + p + 4) (nI (f + rM d k))) 2 (k * 4 + p) (nI t)) 1 (k * 4 + p + 4) (nI (t + wlk d p k)) 3 (k * 4 + p + 4) = nI (f + rM d k) := by
    rw [uA_n (by omega), uA_n (by omega), uA_s]
  simp (disch := omega) only [jj_0, jj_1, jj_2, jj_3, obd_some, obd_none, Option.toList_some, Option.toList_none, List.cons_append, List.nil_append, cond_true, cond_false, nJ_add, nI_mul, nJ_lt, nJ_le, nI_inj, nI_lt0, nI_eq0, nI_gt0, toNat_nI, jr_3, jr_1, jw_3, jw_2, jw_1, hA3, rd_5 hr0, rd_a1 hr0, B43_30, e1, e2, B43_59, rd_o hr1, c_minutesOnFoot hr1 hd hp hk, B43_67, rd_o hr2, c_ofPersons hr2 hd hp (show 3 < 4 by decide), e3, B43_85, B43_93]
  split <;> rfl
theorem c_bitCount {m : Nat} (hm : m < 16) (h : jHp) : mc 48 [.int (nI m)] h = some (some (.int (nI (pop4 m))), h) := by
  rw [M48, B48_26, B48_48]
  have key : ∀ m : Fin 16, ((((((((nI m.1 - ((((nI m.1).toUInt32 >>> ((nI 1).toUInt32 &&& Int32.toUInt32 31)).toInt32) &&& (nI 1431655765))) &&& (nI 858993459)) + (((((nI m.1 - ((((nI m.1).toUInt32 >>> ((nI 1).toUInt32 &&& Int32.toUInt32 31)).toInt32) &&& (nI 1431655765))).toUInt32 >>> ((nI 2).toUInt32 &&& Int32.toUInt32 31)).toInt32) &&& (nI 858993459)))) + (((((nI m.1 - ((((nI m.1).toUInt32 >>> ((nI 1).toUInt32 &&& Int32.toUInt32 31)).toInt32) &&& (nI 1431655765))) &&& (nI 858993459)) + (((((nI m.1 - ((((nI m.1).toUInt32 >>> ((nI 1).toUInt32 &&& Int32.toUInt32 31)).toInt32) &&& (nI 1431655765))).toUInt32 >>> ((nI 2).toUInt32 &&& Int32.toUInt32 31)).toInt32) &&& (nI 858993459)))).toUInt32 >>> ((nI 4).toUInt32 &&& Int32.toUInt32 31)).toInt32)) &&& (nI 252645135)))) = nI (pop4 m.1)) := by decide +kernel
  refine congrArg (fun x => some (some (Value.int x), h)) ?_
  have fin : ∀ m : Fin 16, ∀ y : Int32, y = nI (pop4 m.1) → ((y + ((y.toUInt32 >>> ((nI 8).toUInt32 &&& Int32.toUInt32 31)).toInt32)) + (((y + ((y.toUInt32 >>> ((nI 8).toUInt32 &&& Int32.toUInt32 31)).toInt32))).toUInt32 >>> ((nI 16).toUInt32 &&& Int32.toUInt32 31)).toInt32) &&& (nI 63) = nI (pop4 m.1) := by
    intro m y hy
    subst hy
    revert m
    decide +kernel
  exact fin ⟨m, hm⟩ _ (key ⟨m, hm⟩)
/-- a beast's minute, or that it is not there -/
def cmI (q : Option Nat) : Int32 := match q with | none => -nI 9 | some m => nI m
theorem cmI_none {q : Option Nat} (hq : ∀ m, q = some m → m < 2147483648) : (cmI q = -nI 9) = (q = none) := by
  cases q with
  | none => exact propext ⟨fun _ => rfl, fun _ => rfl⟩
  | some m => rw [show cmI (some m) = nI m from rfl, neg9_ne (hq m rfl)]; exact propext ⟨False.elim, fun e => by cases e⟩
theorem c_seat (H : jEnv h j r d ca C) {k p b m : Nat} {q : Option Nat} (hk : k < rP d) (hp : p < rE d) (hb : b < rB d) (hq : ∀ m, q = some m → m < 2147483648) (hm : m < 2 ^ p) (hA4 : A 4 (k * 2 + b) = cmI q) (hA5 : A 5 (k * 2 + b + 2) = nI m) :
    mc 46 [.ref j, .int (nI k), .int (nI p), .int (nI b)] (jJ h j r A) = (if q = none then some (some (.int (nI 1)), jJ h j r A) else if sB d b 3 ≤ pop4 m then some (some (.int (nI 2)), jJ h j r A) else some (some (.int (nI 0)), jJ h j r (uA (uA A 5 (k * 2 + b + 2) (nI (m + 2 ^ p))) 3 (k * 4 + p + 4) (A 3 (k * 4 + p))))) := by
  have hd := H.2.1
  have h6 := hd.1
  have h4 := hd.2.1
  have h2 := hd.2.2.1
  have hr0 : RoadAt (jJ h j r A) r d := je_road H
  have hm16 : m < 16 := Nat.lt_of_lt_of_le hm (Nat.pow_le_pow_right (n := 2) (by decide) (show p ≤ 4 by omega))
  have hH := sB_le hd b 3
  have hpop : pop4 m ≤ 4 := by unfold pop4; omega
  rw [M46]
  simp (disch := omega) only [jj_0, jj_4, obd_some, obd_none, Option.toList_some, Option.toList_none, List.cons_append, List.nil_append, cond_true, cond_false, rd_o hr0, c_hasBeast hr0 hd, inN_iff, b2i_0, B46_8, hb, not_true_eq_false, if_false, nJ_add, nI_mul, nJ_lt, nJ_le, nI_inj, nI_lt0, nI_eq0, nI_gt0, toNat_nI, jr_4, hA4]
  simp only [cmI_none hq]
  by_cases a1 : q = none
  · rw [if_pos a1, if_pos a1, B46_26, B46_27]
  · rw [if_neg a1, if_neg a1]
    have e1 : uA A 5 (k * 2 + b + 2) (nI (m + 2 ^ p)) 3 (k * 4 + p) = A 3 (k * 4 + p) := uA_n (by omega)
    simp (disch := omega) only [B46_38, jj_5, obd_some, obd_none, Option.toList_some, Option.toList_none, List.cons_append, List.nil_append, cond_true, cond_false, nJ_add, nI_mul, nJ_lt, nJ_le, nI_inj, nI_lt0, nI_eq0, nI_gt0, toNat_nI, idx2, idx4, jr_5, hA5, c_bitCount hm16, B46_47, jj_0, rd_o hr0, c_ofMounts hr0 hd hb (show 3 < 6 by decide), B46_56, or_m (show p < 4 by omega) hm, jw_5, jj_3, B46_85, jr_3, jw_3, e1]
    by_cases a2 : sB d b 3 ≤ pop4 m
    · rw [if_neg (by omega), if_pos a2]
    · rw [if_pos (by omega), if_neg a2]
end JRows
