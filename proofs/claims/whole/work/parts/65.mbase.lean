/-! The reference: what its arrays tell of a state. -/
def MRd (d : jRD) (i : Nat) (A : Nat → Nat → Int32) : Prop := A 1 i = nI (rP d) ∧ A 2 i = nI (rE d) ∧ A 3 i = nI (rB d) ∧ (∀ k, k < rP d → A 4 (6 * i + k) = nI (rM d k) ∧ A 5 (6 * i + k) = nI (rG d k)) ∧ (∀ p, p < rE d → ∀ w, w < 4 → A 6 (16 * i + 4 * p + w) = nI (sP d p w)) ∧ (∀ b, b < rB d → ∀ w, w < 6 → A 7 (12 * i + 6 * b + w) = nI (sB d b w)) ∧ A 8 i = lwho (rL d) ∧ A 9 i = lfro (rL d)
def MPl (d : jRD) (p : jPD) (q : Nat) (A : Nat → Nat → Int32) : Prop := A 14 q = nI (pK p) ∧ A 15 q = nI (pX p) ∧ A 16 q = nI (pG p) ∧ A 17 q = nI (pM p) ∧ ∀ t, t < rP d * rE d → A 18 (24 * q + t) = nI (pC p t)
def szI (d : jSD) : Int32 := match sL d with | none => -nI 1 | some _ => nI (sN d)
def MSh (d : jSD) (k : Nat) (A : Nat → Nat → Int32) : Prop := A 27 k = szI d ∧ (∀ l, sL d = some l → A 28 k = nI l) ∧ ∀ t, t < sN d → A 29 (120 * k + t) = sC d t
def MR (S : jST) (F : Nat → Value) (A : Nat → Nat → Int32) : Prop :=
  (F 0 = .int (nI (zf S)) ∧ F 1 = .int (nI (zn S)) ∧ F 20 = .int (nI (zg S)) ∧ F 21 = .int (nI (zm S)) ∧ F 44 = .int (zt S)) ∧
  (∀ i, i < zn S → MRd (zD S i) i A) ∧ (∀ q, q < zm S → MPl (zR S q) (zP S q) q A) ∧ ∀ k, k < 4 → MSh (zS S k) k A
/-- the same but for what is worked on -/
def Bs (F : Nat → Value) (A : Nat → Nat → Int32) (F' : Nat → Value) (A' : Nat → Nat → Int32) : Prop := (F' 0 = F 0 ∧ F' 1 = F 1 ∧ F' 20 = F 20 ∧ F' 21 = F 21 ∧ F' 44 = F 44) ∧ ∀ i, i < 10 ∨ (13 < i ∧ i < 19) ∨ (26 < i ∧ i < 30) → A' i = A i
theorem Bs.id (F : Nat → Value) (A : Nat → Nat → Int32) : Bs F A F A := ⟨⟨rfl, rfl, rfl, rfl, rfl⟩, fun _ _ => rfl⟩
theorem Bs.tr {F F1 F2 : Nat → Value} {A A1 A2 : Nat → Nat → Int32} (a : Bs F A F1 A1) (b : Bs F1 A1 F2 A2) : Bs F A F2 A2 :=
  ⟨⟨b.1.1.trans a.1.1, b.1.2.1.trans a.1.2.1, b.1.2.2.1.trans a.1.2.2.1, b.1.2.2.2.1.trans a.1.2.2.2.1, b.1.2.2.2.2.trans a.1.2.2.2.2⟩, fun i hi => (b.2 i hi).trans (a.2 i hi)⟩
theorem MRd.of {d : jRD} {i : Nat} {A A' : Nat → Nat → Int32} (H : MRd d i A) (e : ∀ j, j < 10 → A' j = A j) : MRd d i A' := by
  unfold MRd
  rw [e 1 (by omega), e 2 (by omega), e 3 (by omega), e 4 (by omega), e 5 (by omega), e 6 (by omega), e 7 (by omega), e 8 (by omega), e 9 (by omega)]
  exact H
theorem MPl.of {d : jRD} {p : jPD} {q : Nat} {A A' : Nat → Nat → Int32} (H : MPl d p q A) (e : ∀ j, 13 < j → j < 19 → A' j = A j) : MPl d p q A' := by
  unfold MPl
  rw [e 14 (by omega) (by omega), e 15 (by omega) (by omega), e 16 (by omega) (by omega), e 17 (by omega) (by omega), e 18 (by omega) (by omega)]
  exact H
theorem MSh.of {d : jSD} {k : Nat} {A A' : Nat → Nat → Int32} (H : MSh d k A) (e : ∀ j, 26 < j → j < 30 → A' j = A j) : MSh d k A' := by
  unfold MSh
  rw [e 27 (by omega) (by omega), e 28 (by omega) (by omega), e 29 (by omega) (by omega)]
  exact H
theorem MR.bs {S : jST} {F F' : Nat → Value} {A A' : Nat → Nat → Int32} (H : MR S F A) (b : Bs F A F' A') : MR S F' A' := by
  obtain ⟨⟨f1, f2, f3, f4, f5⟩, h1, h2, h3⟩ := H
  obtain ⟨⟨b1, b2, b3, b4, b5⟩, b6⟩ := b
  exact ⟨⟨b1.trans f1, b2.trans f2, b3.trans f3, b4.trans f4, b5.trans f5⟩, fun i hi => (h1 i hi).of fun j hj => b6 j (by omega), fun q hq => (h2 q hq).of fun j h1 h2 => b6 j (by omega), fun k hk => (h3 k hk).of fun j h1 h2 => b6 j (by omega)⟩
/-- a field that is worked on changes; an array that is worked on changes -/
theorem Bs.f {F : Nat → Value} {A : Nat → Nat → Int32} (k : Nat) (v : Value) (hk : k ≠ 0 ∧ k ≠ 1 ∧ k ≠ 20 ∧ k ≠ 21 ∧ k ≠ 44) : Bs F A (updV F k v) A :=
  ⟨⟨updV_n (fun z => hk.1 z.symm), updV_n (fun z => hk.2.1 z.symm), updV_n (fun z => hk.2.2.1 z.symm), updV_n (fun z => hk.2.2.2.1 z.symm), updV_n (fun z => hk.2.2.2.2 z.symm)⟩, fun _ _ => rfl⟩
theorem Bs.a {F : Nat → Value} {A : Nat → Nat → Int32} (i t : Nat) (x : Int32) (hi : (9 < i ∧ i < 14) ∨ (18 < i ∧ i < 27) ∨ i = 30) : Bs F A F (uA A i t x) :=
  ⟨⟨rfl, rfl, rfl, rfl, rfl⟩, fun j hj => by funext t'; unfold uA; rw [if_neg (by omega)]⟩
def Mv (m : Nat) (S' : jST) (h : jHp) (r : jRs) (v : Value) : Prop := ∃ F' A', r = some (some v, hX 8 h m F' A') ∧ MR S' F' A'
theorem i2l (v : Int32) : v.toInt64 = lz v.toInt := by
  apply Int64.toInt_inj.mp
  have h1 := Int32.le_toInt v
  have h2 := Int32.toInt_lt v
  rw [Int32.toInt_toInt64, lz_int ⟨by omega, by omega⟩]
theorem b2i_not {h : jHp} (P : Prop) [Decidable P] : (if b2i P = 0 then some (some (Value.int (nI 1)), h) else some (some (Value.int (nI 0)), h)) = some (some (Value.int (b2i (¬ P))), h) := by
  unfold b2i
  by_cases c : P
  · rw [if_pos c, if_neg (show ¬ nI 1 = 0 by decide), if_neg (not_not_intro c)]
  · rw [if_neg c, if_pos (show nI 0 = 0 from rfl), if_pos c]
theorem c_in {a l b : Int} (ha : sm a) (hl : sm l) (hb : sm b) (h : jHp) : mc 144 [.long (lz a), .long (lz l), .long (lz b)] h = some (some (.int (b2i (l ≤ a ∧ a ≤ b))), h) := by
  rw [M144]
  simp only [cmp_lt ha hl, cmp_gt ha hb]
  unfold b2i
  by_cases c1 : a < l
  · rw [if_pos c1, if_neg (by omega), B144_17, B144_18]; rfl
  · rw [if_neg c1]
    by_cases c2 : b < a
    · rw [if_pos c2, if_neg (by omega), B144_17, B144_18]; rfl
    · rw [if_neg c2, if_pos (by omega), B144_18]; rfl
theorem c_inN (v : Int32) {c : Nat} (hc : c < 1000000) (h : jHp) : mc 144 [.long v.toInt64, .long (lN 0), .long (lN c)] h = some (some (.int (b2i (inN v (c + 1)))), h) := by
  have h1 := Int32.le_toInt v
  have h2 := Int32.toInt_lt v
  rw [i2l, lN_z, lN_z, c_in ⟨by omega, by omega⟩ ⟨by omega, by omega⟩ ⟨by omega, by omega⟩]
  unfold b2i inN
  by_cases c1 : 0 ≤ v.toInt ∧ v.toInt < ((c + 1 : Nat) : Int)
  · rw [if_pos c1, if_pos (by omega)]
  · rw [if_neg c1, if_neg (by omega)]
theorem c_in0 (v : Int32) {n : Nat} (hn : n < 1000000) (h : jHp) : mc 144 [.long v.toInt64, .long (lN 0), .long ((nI n).toInt64 - lN 1)] h = some (some (.int (b2i (inN v n))), h) := by
  have h1 := Int32.le_toInt v
  have h2 := Int32.toInt_lt v
  rw [i2l, i2l, toInt_nI (by omega), lN_z, lN_z, lz_sub, c_in ⟨by omega, by omega⟩ ⟨by omega, by omega⟩ ⟨by omega, by omega⟩]
  unfold b2i inN
  by_cases c1 : 0 ≤ v.toInt ∧ v.toInt < (n : Int)
  · rw [if_pos c1, if_pos (by omega)]
  · rw [if_neg c1, if_neg (by omega)]
theorem c_noSheet (v : Int32) (h : jHp) : mc 143 [.int v] h = some (some (.int (b2i (¬ inN v 4))), h) := by
  rw [M143, c_inN v (by decide)]
  simp only [obd_some, obd_none, Option.toList_some, Option.toList_none, List.cons_append, List.nil_append, cond_true, cond_false, B143_9]
  exact b2i_not _
theorem c_isLane (v : Int32) (h : jHp) : mc 146 [.int v] h = some (some (.int (b2i (inN v 3))), h) := by
  rw [M146, c_inN v (by decide)]
  simp only [obd_some, obd_none, Option.toList_some, Option.toList_none, List.cons_append, List.nil_append, cond_true, cond_false, B146_9, bl_b2i]
section MBase
variable {h : jHp} {m : Nat} {S : jST} {F : Nat → Value} {A : Nat → Nat → Int32}
theorem m_o : gO (hX 8 h m F A) m 8 = some (oF 8 m F) := gO_hX _ _ _ _ _
theorem c_noRoad (R0 : MR S F A) (hS : stOk S) (v : Int32) : mc 159 [.ref m, .int v] (hX 8 h m F A) = some (some (.int (b2i (¬ inN v (zn S)))), hX 8 h m F A) := by
  have h3 := hS.1
  rw [M159, x8_1, R0.1.2.1, vI_i, obd_some, c_in0 v (by omega)]
  simp only [obd_some, obd_none, Option.toList_some, Option.toList_none, List.cons_append, List.nil_append, cond_true, cond_false, B159_13]
  exact b2i_not _
theorem c_noPlan (R0 : MR S F A) (hS : stOk S) (v : Int32) : mc 177 [.ref m, .int v] (hX 8 h m F A) = some (some (.int (b2i (¬ inN v (zm S)))), hX 8 h m F A) := by
  have h3 := hS.2.1
  rw [M177, x8_21, R0.1.2.2.2.1, vI_i, obd_some, c_in0 v (by omega)]
  simp only [obd_some, obd_none, Option.toList_some, Option.toList_none, List.cons_append, List.nil_append, cond_true, cond_false, B177_13]
  exact b2i_not _
theorem c_noPiece (R0 : MR S F A) (hS : stOk S) {i : Nat} (hi : i < zn S) (k : Int32) : mc 162 [.ref m, .int (nI i), .int k] (hX 8 h m F A) = some (some (.int (b2i (¬ inN k (rP (zD S i))))), hX 8 h m F A) := by
  have h3 := hS.1
  have h6 := (hS.2.2.2.2.1 i hi).1.1
  rw [M162, m_o, obd_some, c_noRoad R0 hS]
  simp only [obd_some, obd_none, Option.toList_some, Option.toList_none, List.cons_append, List.nil_append, cond_true, cond_false, B162_5, b2i_0]
  rw [if_pos (not_not_intro (inN_of hi (by omega))), x8_2, obd_some, m_1 (by omega), obd_some, (R0.2.1 i hi).1, c_in0 k (by omega)]
  simp only [obd_some, obd_none, Option.toList_some, Option.toList_none, List.cons_append, List.nil_append, cond_true, cond_false, B162_23]
  exact b2i_not _
theorem c_noPerson (R0 : MR S F A) (hS : stOk S) {i : Nat} (hi : i < zn S) (k : Int32) : mc 164 [.ref m, .int (nI i), .int k] (hX 8 h m F A) = some (some (.int (b2i (¬ inN k (rE (zD S i))))), hX 8 h m F A) := by
  have h3 := hS.1
  have h6 := (hS.2.2.2.2.1 i hi).1.2.1
  rw [M164, m_o, obd_some, c_noRoad R0 hS]
  simp only [obd_some, obd_none, Option.toList_some, Option.toList_none, List.cons_append, List.nil_append, cond_true, cond_false, B164_5, b2i_0]
  rw [if_pos (not_not_intro (inN_of hi (by omega))), x8_3, obd_some, m_2 (by omega), obd_some, (R0.2.1 i hi).2.1, c_in0 k (by omega)]
  simp only [obd_some, obd_none, Option.toList_some, Option.toList_none, List.cons_append, List.nil_append, cond_true, cond_false, B164_23]
  exact b2i_not _
theorem c_noBeast (R0 : MR S F A) (hS : stOk S) {i : Nat} (hi : i < zn S) (k : Int32) : mc 167 [.ref m, .int (nI i), .int k] (hX 8 h m F A) = some (some (.int (b2i (¬ inN k (rB (zD S i))))), hX 8 h m F A) := by
  have h3 := hS.1
  have h6 := (hS.2.2.2.2.1 i hi).1.2.2.1
  rw [M167, m_o, obd_some, c_noRoad R0 hS]
  simp only [obd_some, obd_none, Option.toList_some, Option.toList_none, List.cons_append, List.nil_append, cond_true, cond_false, B167_5, b2i_0]
  rw [if_pos (not_not_intro (inN_of hi (by omega))), x8_4, obd_some, m_3 (by omega), obd_some, (R0.2.1 i hi).2.2.1, c_in0 k (by omega)]
  simp only [obd_some, obd_none, Option.toList_some, Option.toList_none, List.cons_append, List.nil_append, cond_true, cond_false, B167_23]
  exact b2i_not _
/-- none of these for a road that is not -/
theorem c_noPieceNo (R0 : MR S F A) (hS : stOk S) {v : Int32} (hv : ¬ inN v (zn S)) (k : Int32) : mc 162 [.ref m, .int v, .int k] (hX 8 h m F A) = some (some (.int (nI 1)), hX 8 h m F A) := by
  rw [M162, m_o, obd_some, c_noRoad R0 hS]
  simp only [obd_some, obd_none, Option.toList_some, Option.toList_none, List.cons_append, List.nil_append, cond_true, cond_false, B162_5, b2i_0]
  rw [if_neg (fun z => z hv)]
theorem c_noPersonNo (R0 : MR S F A) (hS : stOk S) {v : Int32} (hv : ¬ inN v (zn S)) (k : Int32) : mc 164 [.ref m, .int v, .int k] (hX 8 h m F A) = some (some (.int (nI 1)), hX 8 h m F A) := by
  rw [M164, m_o, obd_some, c_noRoad R0 hS]
  simp only [obd_some, obd_none, Option.toList_some, Option.toList_none, List.cons_append, List.nil_append, cond_true, cond_false, B164_5, b2i_0]
  rw [if_neg (fun z => z hv)]
theorem c_noBeastNo (R0 : MR S F A) (hS : stOk S) {v : Int32} (hv : ¬ inN v (zn S)) (k : Int32) : mc 167 [.ref m, .int v, .int k] (hX 8 h m F A) = some (some (.int (nI 1)), hX 8 h m F A) := by
  rw [M167, m_o, obd_some, c_noRoad R0 hS]
  simp only [obd_some, obd_none, Option.toList_some, Option.toList_none, List.cons_append, List.nil_append, cond_true, cond_false, B167_5, b2i_0]
  rw [if_neg (fun z => z hv)]
theorem c_ofP {d : jRD} {i : Nat} (R0 : MRd d i A) (hd : rdOk d) (hi : i < 3) {p w : Nat} (hp : p < rE d) (hw : w < 4) : mc 165 [.ref m, .int (nI i), .int (nI p), .int (nI w)] (hX 8 h m F A) = some (some (.int (nI (sP d p w))), hX 8 h m F A) := by
  have h4 := hd.2.1
  rw [M165, x8_7, obd_some, nI_mul, nI_mul, nJ_add, nJ_add, m_6 (by omega), obd_some, R0.2.2.2.2.1 p hp w hw]
theorem c_ofB {d : jRD} {i : Nat} (R0 : MRd d i A) (hd : rdOk d) (hi : i < 3) {p w : Nat} (hp : p < rB d) (hw : w < 6) : mc 168 [.ref m, .int (nI i), .int (nI p), .int (nI w)] (hX 8 h m F A) = some (some (.int (nI (sB d p w))), hX 8 h m F A) := by
  have h4 := hd.2.2.1
  rw [M168, x8_8, obd_some, nI_mul, nI_mul, nJ_add, nJ_add, m_7 (by omega), obd_some, R0.2.2.2.2.2.1 p hp w hw]
theorem l_mAll {d : jRD} {i : Nat} (R0 : MRd d i A) (hd : rdOk d) (hi : i < 3) : ∀ n k, k + n = rP d → R 1 160 4 [some (.ref m), some (.int (nI i)), some (.int (nI (sumN (rM d) k))), some (.int (nI k))] [] (hX 8 h m F A) = some (some (.int (nI (sumN (rM d) (rP d)))), hX 8 h m F A) := by
  have h6 := hd.1
  intro n
  induction n with
  | zero =>
    intro k hk
    obtain rfl : k = rP d := hk
    rw [B160_4, x8_2, obd_some, m_1 (by omega), obd_some, R0.1, if_neg (show ¬ nI (rP d) < nI (rP d) from Int32.lt_irrefl)]
  | succ n ih =>
    intro k hk
    rw [B160_4, x8_2, obd_some, m_1 (by omega), obd_some, R0.1, if_pos (show nI k < nI (rP d) by rw [nJ_lt (by omega) (by omega)]; omega), x8_5, obd_some, nI_mul, nJ_add, m_4 (by omega), obd_some, (R0.2.2.2.1 k (by omega)).1, nJ_add, nJ_add]
    exact ih (k + 1) (by omega)
theorem c_mAll {d : jRD} {i : Nat} (R0 : MRd d i A) (hd : rdOk d) (hi : i < 3) : mc 160 [.ref m, .int (nI i)] (hX 8 h m F A) = some (some (.int (nI (sumN (rM d) (rP d)))), hX 8 h m F A) := by
  rw [M160]
  exact l_mAll R0 hd hi (rP d) 0 (Nat.zero_add _)
theorem c_walkingTime {d : jRD} {i : Nat} (R0 : MRd d i A) (hd : rdOk d) (hi : i < 3) {p k : Nat} (hp : p < rE d) (hk : k < rP d) : mc 171 [.ref m, .int (nI i), .int (nI p), .int (nI k)] (hX 8 h m F A) = some (some (.int (nI (wlk d p k))), hX 8 h m F A) := by
  have h6 := hd.1
  have h4 := hd.2.1
  have hg := hd.2.2.2.2.1 k
  have e25 : ∀ (o : Option Value) (c : Bool), R 2 171 25 [some (.ref m), some (.int (nI i)), some (.int (nI p)), some (.int (nI k)), o] [.int (b2j c)] (hX 8 h m F A) = some (some (.int (nI (if c = true then 2 * (rM d k * sP d p (rG d k)) else rM d k * sP d p (rG d k)))), hX 8 h m F A) := by
    intro o c
    rw [B171_25, x8_5, obd_some, nI_mul, nJ_add, m_4 (by omega), obd_some, x8_6, obd_some, m_5 (by omega), obd_some, (R0.2.2.2.1 k hk).1, (R0.2.2.2.1 k hk).2, B171_52, m_o, obd_some, c_ofP R0 hd hi hp (by omega)]
    simp only [obd_some, obd_none, Option.toList_some, Option.toList_none, List.cons_append, List.nil_append, cond_true, cond_false, B171_55, nI_mul]
    cases c with
    | true =>
      rw [if_neg (show ¬ b2j true = 0 by decide), B171_66, B171_67, nI_mul, if_pos rfl, Nat.mul_comm 2]
    | false =>
      rw [if_pos (show b2j false = 0 by decide), B171_66, B171_67, nI_mul, if_neg (by decide), Nat.mul_one]
  rw [M171, x8_9, obd_some, m_8 (by omega), obd_some, R0.2.2.2.2.2.2.1]
  have hq := hd.2.2.2.2.2.2.2
  have key : ∀ q : Option (Nat × Nat), (∀ x, q = some x → x.1 < 4 ∧ x.2 < 6) → (if lwho q = nI p then if nI k < lfro q then R 2 171 25 [some (.ref m), some (.int (nI i)), some (.int (nI p)), some (.int (nI k)), none] [.int (nI 0)] (hX 8 h m F A) else R 2 171 25 [some (.ref m), some (.int (nI i)), some (.int (nI p)), some (.int (nI k)), none] [.int (nI 1)] (hX 8 h m F A) else R 2 171 25 [some (.ref m), some (.int (nI i)), some (.int (nI p)), some (.int (nI k)), none] [.int (nI 0)] (hX 8 h m F A)) = R 2 171 25 [some (.ref m), some (.int (nI i)), some (.int (nI p)), some (.int (nI k)), none] [.int (b2j (isLm q p k))] (hX 8 h m F A) := by
    intro q hq
    cases q with
    | none =>
      rw [if_neg (by rw [show lwho none = -nI 9 from rfl, neg9_ne' (by omega)]; exact id)]
      rfl
    | some w =>
      obtain ⟨a1, a2⟩ := hq w rfl
      show (if nI w.1 = nI p then if nI k < nI w.2 then _ else _ else _) = _
      by_cases c : w.1 = p
      · rw [if_pos (show nI w.1 = nI p by rw [c])]
        by_cases c2 : k < w.2
        · rw [if_pos (show nI k < nI w.2 by rw [nJ_lt (by omega) (by omega)]; exact c2), show isLm (some w) p k = false by show (w.1 == p && Nat.ble w.2 k) = false; rw [show Nat.ble w.2 k = false by rw [← Bool.not_eq_true, Nat.ble_eq]; omega, Bool.and_false]]; rfl
        · rw [if_neg (show ¬ nI k < nI w.2 by rw [nJ_lt (by omega) (by omega)]; exact c2), show isLm (some w) p k = true by show (w.1 == p && Nat.ble w.2 k) = true; rw [show Nat.ble w.2 k = true by rw [Nat.ble_eq]; omega, Bool.and_true]; exact beq_iff_eq.mpr c]; rfl
      · rw [if_neg (show ¬ nI w.1 = nI p by rw [nI_inj (by omega) (by omega)]; exact c), show isLm (some w) p k = false by show (w.1 == p && Nat.ble w.2 k) = false; rw [beq_eq_false_iff_ne.mpr c, Bool.false_and]]; rfl
  simp only [x8_10, obd_some, obd_none, Option.toList_some, Option.toList_none, List.cons_append, List.nil_append, cond_true, cond_false, m_9 (show i < 3 from hi), R0.2.2.2.2.2.2.2]
  rw [key (rL d) hq, e25]
  rfl
theorem c_ridingTime {d : jRD} {i : Nat} (R0 : MRd d i A) (hd : rdOk d) (hi : i < 3) {b k : Nat} (hb : b < rB d) (hk : k < rP d) : mc 173 [.ref m, .int (nI i), .int (nI b), .int (nI k)] (hX 8 h m F A) = some (some (.int (nI (rid d b k))), hX 8 h m F A) := by
  have h6 := hd.1
  have hg := hd.2.2.2.2.1 k
  rw [M173, x8_5, obd_some, nI_mul, nJ_add, m_4 (by omega), obd_some, x8_6, obd_some, m_5 (by omega), obd_some, (R0.2.2.2.1 k hk).1, (R0.2.2.2.1 k hk).2, m_o, obd_some, c_ofB R0 hd hi hb (by omega)]
  simp only [obd_some, obd_none, Option.toList_some, Option.toList_none, List.cons_append, List.nil_append, cond_true, cond_false, B173_28, nI_mul]
  rfl
end MBase
