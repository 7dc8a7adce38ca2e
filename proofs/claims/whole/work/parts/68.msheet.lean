/-! The reference's sheets. -/
theorem szI_0 {d : jSD} (hd : sdOk d) : (szI d < 0) = (sL d = none) := by
  have h1 := hd.1
  unfold szI
  cases e : sL d with
  | none => exact propext ⟨fun _ => rfl, fun _ => by show -nI 1 < 0; decide⟩
  | some l => exact propext ⟨fun z => absurd z (nI_nneg (by omega)), fun z => by cases z⟩
theorem szI_s {d : jSD} (h : ¬ sL d = none) : szI d = nI (sN d) := by
  unfold szI
  cases e : sL d with
  | none => exact absurd e h
  | some l => rfl
def nC (d : jSD) (i : Int32) : Nat := if sL d = none then 1 else if inN i (sN d) then 0 else 3
section MSheet
variable {h : jHp} {m : Nat} {S : jST} {F : Nat → Value} {A : Nat → Nat → Int32}
theorem MR.setS (R0 : MR S F A) {k : Nat} {d : jSD} {A' : Nat → Nat → Int32} (e : ∀ i, i < 27 → A' i = A i) (hk : MSh d k A') (ho : ∀ j, j < 4 → j ≠ k → A' 27 j = A 27 j ∧ A' 28 j = A 28 j ∧ ∀ t, t < 120 → A' 29 (120 * j + t) = A 29 (120 * j + t)) (hS : stOk S) : MR (setS S k d) F A' := by
  refine ⟨R0.1, fun i hi => (R0.2.1 i hi).of fun j hj => e j (by omega), fun q hq => (R0.2.2.1 q hq).of fun j h1 h2 => e j (by omega), fun j hj => ?_⟩
  show MSh (if j = k then d else zS S j) j A'
  by_cases c : j = k
  · subst c; rw [if_pos rfl]; exact hk
  · rw [if_neg c]
    obtain ⟨a1, a2, a3⟩ := ho j hj c
    obtain ⟨b1, b2, b3⟩ := R0.2.2.2 j hj
    have h120 := (hS.2.2.2.2.2.2 j hj).1
    exact ⟨a1.trans b1, fun l hl => a2.trans (b2 l hl), fun t ht => (a3 t (by omega)).trans (b3 t ht)⟩
theorem ms_lane {k : Nat} {d : jSD} (H : MSh d k A) (h0 : ¬ sL d = none) : A 28 k = laneI (sL d) := by
  cases e : sL d with
  | none => exact absurd e h0
  | some l => exact H.2.1 l e
theorem c_isBeyond (i n : Int32) {z : Nat} (hz : z ≤ 120) (h : jHp) : mc 149 [.int i, .long n.toInt64, .int (nI z)] h = some (some (.int (b2i (¬ inCs i n z))), h) := by
  have a1 := Int32.le_toInt n
  have a2 := Int32.toInt_lt n
  have a3 := Int32.le_toInt i
  have a4 := Int32.toInt_lt i
  rw [M149, i2l, i2l, i2l, lz_add, toInt_nI (by omega), lN_z]
  simp only [cmp_lt (show sm n.toInt from ⟨by omega, by omega⟩) (show sm ((0 : Nat) : Int) from ⟨by omega, by omega⟩), cmp_gt (show sm (i.toInt + n.toInt) from ⟨by omega, by omega⟩) (show sm (z : Int) from ⟨by omega, by omega⟩), lt0_int]
  unfold b2i inCs
  by_cases c1 : i.toInt < 0
  · rw [if_pos c1, if_pos (by omega)]
  · rw [if_neg c1]
    by_cases c2 : n.toInt < ((0 : Nat) : Int)
    · rw [if_pos c2, if_pos (by omega)]
    · rw [if_neg c2]
      by_cases c3 : (z : Int) < i.toInt + n.toInt
      · rw [if_pos c3, if_pos (by omega)]
      · rw [if_neg c3, if_neg (by omega)]
theorem c_barred (R0 : MR S F A) (hS : stOk S) {k : Nat} (hk : k < 4) (l i n : Int32) : mc 147 [.ref m, .int (nI k), .int l, .int i, .long n.toInt64] (hX 8 h m F A) = (if fCells (zS S k) l i n = 0 then some (some (.int (nI 0)), hX 8 h m F A) else some (some (.int (fI (fCells (zS S k) l i n))), hX 8 h m (updV F 0 (.int (nI (fCells (zS S k) l i n)))) A)) := by
  have hd := hS.2.2.2.2.2.2 k hk
  have H := R0.2.2.2 k hk
  have h120 := hd.1
  have a1 := Int32.le_toInt n
  have a2 := Int32.toInt_lt n
  rw [M147, x8_40, obd_some, m_27 (by omega), obd_some, H.1]
  simp only [szI_0 hd]
  unfold fCells
  by_cases h0 : sL (zS S k) = none
  · rw [if_pos h0, if_pos h0, if_neg (by decide), B147_25, x8_40, obd_some, m_27 (by omega), obd_some, H.1, if_pos (show szI (zS S k) < 0 from (szI_0 hd).symm ▸ h0), m_o, obd_some, c_mfailed]
    simp only [obd_some, obd_none, Option.toList_some, Option.toList_none, List.cons_append, List.nil_append, cond_true, cond_false, B147_39]
  · rw [if_neg h0, if_neg h0, x8_41, obd_some, m_28 (by omega), obd_some, ms_lane H h0]
    by_cases h1 : laneI (sL (zS S k)) = l
    · rw [if_pos h1, if_neg (not_not_intro h1), B147_25, x8_40, obd_some, m_27 (by omega), obd_some, H.1, if_neg (show ¬ szI (zS S k) < 0 from fun z => h0 ((szI_0 hd) ▸ z))]
      by_cases h2 : n < 0
      · rw [if_pos (show lg_cmp n.toInt64 (lN 0) < 0 by rw [i2l, lN_z, cmp_lt ⟨by omega, by omega⟩ ⟨by omega, by omega⟩]; rw [lt0_int] at h2; omega), if_pos h2, if_neg (by decide), m_o, obd_some, c_mfailed]
        simp only [obd_some, obd_none, Option.toList_some, Option.toList_none, List.cons_append, List.nil_append, cond_true, cond_false, B147_52]
      · rw [if_neg (show ¬ lg_cmp n.toInt64 (lN 0) < 0 by rw [i2l, lN_z, cmp_lt ⟨by omega, by omega⟩ ⟨by omega, by omega⟩]; rw [lt0_int] at h2; omega), if_neg h2, obd_some, m_27 (by omega), obd_some, H.1, szI_s h0, c_isBeyond i n h120]
        simp only [obd_some, obd_none, Option.toList_some, Option.toList_none, List.cons_append, List.nil_append, cond_true, cond_false, B147_65, b2i_0]
        by_cases h3 : inCs i n (sN (zS S k))
        · rw [if_pos (not_not_intro h3), if_pos h3, if_pos rfl, B147_77]
        · rw [if_neg (show ¬ ¬ ¬ _ from fun z => z h3), if_neg h3, if_neg (by decide), m_o, obd_some, c_mfailed]
          simp only [obd_some, obd_none, Option.toList_some, Option.toList_none, List.cons_append, List.nil_append, cond_true, cond_false, B147_73, B147_77]
    · rw [if_neg h1, if_pos h1, if_neg (by decide), m_o, obd_some, c_mfailed]
      simp only [obd_some, obd_none, Option.toList_some, Option.toList_none, List.cons_append, List.nil_append, cond_true, cond_false, B147_24]
theorem c_noCell (R0 : MR S F A) (hS : stOk S) {k : Nat} (hk : k < 4) (i : Int32) : mc 216 [.ref m, .int (nI k), .int i] (hX 8 h m F A) = some (some (.int (nI (nC (zS S k) i))), hX 8 h m F A) := by
  have hd := hS.2.2.2.2.2.2 k hk
  have H := R0.2.2.2 k hk
  have h120 := hd.1
  rw [M216, x8_40, obd_some, m_27 (by omega), obd_some, H.1]
  simp only [szI_0 hd]
  unfold nC
  by_cases h0 : sL (zS S k) = none
  · rw [if_pos h0, if_pos h0]
  · rw [if_neg h0, if_neg h0, obd_some, m_27 (by omega), obd_some, H.1, szI_s h0, c_in0 i (by omega)]
    simp only [obd_some, obd_none, Option.toList_some, Option.toList_none, List.cons_append, List.nil_append, cond_true, cond_false, B216_28, b2i_0]
    by_cases h3 : inN i (sN (zS S k))
    · rw [if_neg (not_not_intro h3), if_pos h3]
    · rw [if_pos h3, if_neg h3]
def zrA (A : Nat → Nat → Int32) (k c : Nat) : Nat → Nat → Int32 := fun i t => if i = 29 ∧ 120 * k ≤ t ∧ t < 120 * k + c then nI 0 else A i t
theorem zrA_s (A : Nat → Nat → Int32) (k c : Nat) : uA (zrA A k c) 29 (120 * k + c) (nI 0) = zrA A k (c + 1) := by
  funext i t
  unfold uA zrA
  by_cases e : i = 29 ∧ t = 120 * k + c
  · rw [if_pos e, if_pos (by omega)]
  · rw [if_neg e]
    by_cases e2 : i = 29 ∧ 120 * k ≤ t ∧ t < 120 * k + c
    · rw [if_pos e2, if_pos (by omega)]
    · rw [if_neg e2, if_neg (by omega)]
theorem l_mSheet {k n : Nat} (hk : k < 4) (hn : n ≤ 120) : ∀ c t (o2 : Option Value), t + c = n → R 3 213 60 [some (.ref m), some (.int (nI k)), o2, some (.int (nI n)), some (.int (nI t))] [] (hX 8 h m F (zrA A k t)) = some (some (.int (nI 1)), hX 8 h m (updV F 0 (.int (nI 0))) (zrA A k n)) := by
  intro c
  induction c with
  | zero =>
    intro t o2 ht
    obtain rfl : t = n := ht
    rw [B213_60, if_neg (show ¬ nI t < nI t from Int32.lt_irrefl), m_o, obd_some, c_refused]
    simp only [obd_some, obd_none, Option.toList_some, Option.toList_none, List.cons_append, List.nil_append, cond_true, cond_false, B213_90]
  | succ c ih =>
    intro t o2 htc
    rw [B213_60, if_pos (show nI t < nI n by rw [nJ_lt (by omega) (by omega)]; omega), x8_42, obd_some, nI_mul, nJ_add, mw_29 (by omega), obd_some, zrA_s, nJ_add]
    exact ih (t + 1) none (by omega)
theorem M_sheet (R0 : MR S F A) (hS : stOk S) (k l n : Int32) : Mv m (rSheet S k l n).2 h (mc 213 [.ref m, .int k, .int l, .int n] (hX 8 h m F A)) (.int (rSheet S k l n).1) := by
  rw [M213, c_noSheet]
  simp only [obd_some, obd_none, Option.toList_some, Option.toList_none, List.cons_append, List.nil_append, cond_true, cond_false, B213_4, b2i_0]
  unfold rSheet
  by_cases hk : inN k 4
  · obtain ⟨a, ha, rfl⟩ := inN_nI hk
    rw [if_pos (not_not_intro hk), if_pos hk, toNat_nI (by omega), c_isLane]
    simp only [obd_some, obd_none, Option.toList_some, Option.toList_none, List.cons_append, List.nil_append, cond_true, cond_false, B213_17, b2i_0]
    by_cases hl : inN l 3
    · obtain ⟨u, hu, rfl⟩ := inN_nI hl
      rw [if_neg (not_not_intro hl), if_pos hl, toNat_nI (show u < 2147483648 by omega)]
      by_cases n1 : nI 120 < n
      · rw [if_pos n1, if_pos n1, m_o, obd_some, c_refused]
        simp only [obd_some, obd_none, Option.toList_some, Option.toList_none, List.cons_append, List.nil_append, cond_true, cond_false, B213_32]
        exact ⟨_, _, rfl, R0.f0 0⟩
      · rw [if_neg n1, if_neg n1]
        by_cases n0 : n < 0
        · rw [if_pos n0, if_pos n0, m_o, obd_some, c_mfailed]
          simp only [obd_some, obd_none, Option.toList_some, Option.toList_none, List.cons_append, List.nil_append, cond_true, cond_false, B213_42]
          exact ⟨_, _, rfl, R0.f0 4⟩
        · rw [if_neg n0, if_neg n0]
          rw [gt_int (by decide)] at n1
          rw [lt0_int] at n0
          obtain ⟨w, hw, rfl⟩ := inN_nI (k := n) (n := 121) ⟨by omega, by omega⟩
          rw [x8_40, obd_some, mw_27 (by omega), obd_some, x8_41, obd_some, mw_28 (by omega), obd_some, toNat_nI (by omega)]
          have g := l_mSheet (h := h) (m := m) (F := F) (A := uA (uA A 27 a (nI w)) 28 a (nI u)) (n := w) ha (by omega) w 0 (some (.int (nI u))) (Nat.zero_add _)
          rw [show zrA (uA (uA A 27 a (nI w)) 28 a (nI u)) a 0 = uA (uA A 27 a (nI w)) 28 a (nI u) by funext i t; unfold zrA; rw [if_neg (by omega)]] at g
          refine ⟨_, _, g, (R0.f0 0).setS (fun i hi => ?_) ⟨?_, fun l hl => ?_, fun t ht => ?_⟩ (fun j hj hne => ⟨?_, ?_, fun t ht => ?_⟩) (stOk_F hS (by omega))⟩
          · funext t; unfold zrA; rw [if_neg (by omega), uA_n (by omega), uA_n (by omega)]
          · unfold zrA; rw [if_neg (by omega), uA_n (by omega), uA_s]; rfl
          · have hl : some u = some l := hl
            cases hl
            unfold zrA; rw [if_neg (by omega), uA_s]
          · have ht : t < w := ht
            show zrA _ a w 29 (120 * a + t) = if t < 120 then 0 else _
            unfold zrA; rw [if_pos (by omega), if_pos (by omega)]; rfl
          · unfold zrA; rw [if_neg (by omega), uA_n (by omega), uA_n (by omega)]
          · unfold zrA; rw [if_neg (by omega), uA_n (by omega), uA_n (by omega)]
          · unfold zrA; rw [if_neg (by omega), uA_n (by omega), uA_n (by omega)]
    · rw [if_pos hl, if_neg hl, m_o, obd_some, c_refused]
      simp only [obd_some, obd_none, Option.toList_some, Option.toList_none, List.cons_append, List.nil_append, cond_true, cond_false, B213_32]
      exact ⟨_, _, rfl, R0.f0 0⟩
  · rw [if_neg (show ¬ ¬ ¬ _ from fun z => z hk), if_neg hk, m_o, obd_some, c_refused]
    simp only [obd_some, obd_none, Option.toList_some, Option.toList_none, List.cons_append, List.nil_append, cond_true, cond_false, B213_12]
    exact ⟨_, _, rfl, R0.f0 0⟩
theorem M_lose (R0 : MR S F A) (hS : stOk S) (k : Int32) : Mv m (rLose S k).2 h (mc 214 [.ref m, .int k] (hX 8 h m F A)) (.int (rLose S k).1) := by
  rw [M214, c_noSheet]
  simp only [obd_some, obd_none, Option.toList_some, Option.toList_none, List.cons_append, List.nil_append, cond_true, cond_false, B214_4, b2i_0]
  unfold rLose
  by_cases hk : inN k 4
  · obtain ⟨a, ha, rfl⟩ := inN_nI hk
    have hd := hS.2.2.2.2.2.2 a ha
    have H := R0.2.2.2 a ha
    rw [if_pos (not_not_intro hk), if_pos hk, toNat_nI (by omega), x8_40, obd_some, m_27 (by omega), obd_some, H.1]
    simp only [szI_0 hd]
    have e23 : ∀ o s, R 3 214 23 [some (.ref m), some (.int (nI a)), o] [.int s] (hX 8 h m F A) = some (some (.int s), hX 8 h m F (uA A 27 a (-nI 1))) := by
      intro o s
      rw [B214_23, x8_40, obd_some, mw_27 (by omega), obd_some]
    by_cases hl : sL (zS S a) = none
    · rw [if_pos hl, if_pos hl, e23]
      refine ⟨_, _, rfl, ?_⟩
      have e : uA A 27 a (-nI 1) = A := by
        funext i t
        unfold uA
        by_cases c : i = 27 ∧ t = a
        · rw [if_pos c, c.1, c.2, H.1]; unfold szI; rw [hl]
        · rw [if_neg c]
      rw [e]; exact R0
    · rw [if_neg hl, if_neg hl, e23]
      refine ⟨_, _, rfl, R0.setS (fun i hi => ?_) ⟨?_, fun l hl => (by cases hl), fun t ht => absurd ht (Nat.not_lt_zero t)⟩ (fun j hj hne => ⟨?_, ?_, fun t ht => ?_⟩) hS⟩
      · funext t; rw [uA_n (by omega)]
      · rw [uA_s]; rfl
      · rw [uA_n (by omega)]
      · rw [uA_n (by omega)]
      · rw [uA_n (by omega)]
  · rw [if_neg (show ¬ ¬ ¬ _ from fun z => z hk), if_neg hk]
    exact Mv.same R0 rfl
theorem M_put (R0 : MR S F A) (hS : stOk S) (k i v : Int32) : Mv m (rPut S k i v).2 h (mc 215 [.ref m, .int k, .int i, .int v] (hX 8 h m F A)) (.int (rPut S k i v).1) := by
  rw [M215, c_noSheet]
  simp only [obd_some, obd_none, Option.toList_some, Option.toList_none, List.cons_append, List.nil_append, cond_true, cond_false, B215_4, b2i_0]
  unfold rPut
  by_cases hk : inN k 4
  · obtain ⟨a, ha, rfl⟩ := inN_nI hk
    have hd := hS.2.2.2.2.2.2 a ha
    have H := R0.2.2.2 a ha
    have h1 := hd.1
    have hn : nC (zS S a) i ≤ 3 := by
      unfold nC
      by_cases c : sL (zS S a) = none
      · rw [if_pos c]; omega
      · rw [if_neg c]
        by_cases e : inN i (sN (zS S a))
        · rw [if_pos e]; omega
        · rw [if_neg e]; omega
    rw [if_pos (not_not_intro hk), if_pos hk, toNat_nI (by omega), m_o, obd_some, c_noCell R0 hS ha]
    simp only [obd_some, obd_none, Option.toList_some, Option.toList_none, List.cons_append, List.nil_append, cond_true, cond_false, B215_19]
    have e29 : R 3 215 29 [some (.ref m), some (.int (nI a)), some (.int i), some (.int v)] [.int (nI (nC (zS S a) i)), .ref m] (hX 8 h m F A) = some (some (.int (fI (nC (zS S a) i))), hX 8 h m (updV F 0 (.int (nI (nC (zS S a) i)))) A) := by
      rw [B215_29, m_o, obd_some, c_mfailed]
      simp only [obd_some, obd_none, Option.toList_some, Option.toList_none, List.cons_append, List.nil_append, cond_true, cond_false, B215_32]
    rw [m_o, obd_some, c_noCell R0 hS ha]
    simp only [obd_some, obd_none, Option.toList_some, Option.toList_none, List.cons_append, List.nil_append, cond_true, cond_false, e29]
    by_cases hl : sL (zS S a) = none
    · rw [if_pos hl, show nC (zS S a) i = 1 by unfold nC; rw [if_pos hl], if_pos (show 0 < nI 1 by decide)]
      exact ⟨_, _, rfl, R0.f0 1⟩
    · rw [if_neg hl]
      by_cases hi : inN i (sN (zS S a))
      · obtain ⟨t, ht, rfl⟩ := inN_nI hi
        rw [if_pos hi, show nC (zS S a) (nI t) = 0 by unfold nC; rw [if_neg hl, if_pos hi], if_neg (show ¬ 0 < nI 0 by decide), x8_42, obd_some, x8_41, obd_some, m_28 (by omega), obd_some, obd_some, ms_lane H hl, nI_mul, nJ_add, toNat_nI (show t < 2147483648 by omega)]
        have e73 : ∀ o1 o2 o3 x, R 3 215 73 [some (.ref m), o1, o2, o3] [.int x, .int (nI (120 * a + t)), .ref (m + 29)] (hX 8 h m F A) = some (some (.int (nI 1)), hX 8 h m (updV F 0 (.int (nI 0))) (uA A 29 (120 * a + t) x)) := by
          intro o1 o2 o3 x
          rw [B215_73, mw_29 (by omega), obd_some, m_o, obd_some, c_refused]
          simp only [obd_some, obd_none, Option.toList_some, Option.toList_none, List.cons_append, List.nil_append, cond_true, cond_false, B215_79]
        have fin : ∀ x, x = cutL (sL (zS S a)) v → MR (setS (setF S 0) a (setC (zS S a) t (cutL (sL (zS S a)) v))) (updV F 0 (.int (nI 0))) (uA A 29 (120 * a + t) x) := by
          rintro x rfl
          refine (R0.f0 0).setS (fun i hi => ?_) ⟨?_, fun l hl => ?_, fun u hu => ?_⟩ (fun j hj hne => ⟨?_, ?_, fun u hu => ?_⟩) (stOk_F hS (by omega))
          · funext t'; rw [uA_n (by omega)]
          · rw [uA_n (by omega)]; exact H.1
          · rw [uA_n (by omega)]; exact H.2.1 l hl
          · have hu : u < sN (zS S a) := hu
            show _ = upd (sC (zS S a)) t _ u
            by_cases c : u = t
            · subst c; rw [uA_s, upd_s]
            · rw [uA_n (by omega), upd_n c]; exact H.2.2 u hu
          · rw [uA_n (by omega)]
          · rw [uA_n (by omega)]
          · rw [uA_n (by omega)]
        cases el : sL (zS S a) with
        | none => exact absurd el hl
        | some l =>
          rw [el] at fin
          have hl3 := hd.2.2 l el
          rw [show laneI (some l) = nI l from rfl]
          by_cases c0 : l = 0
          · rw [if_pos (show nI l = 0 by rw [c0]; rfl), e73]
            exact ⟨_, _, rfl, fin _ (by unfold cutL; rw [if_pos (by rw [c0])])⟩
          · rw [if_neg (show ¬ nI l = 0 by rw [nI_eq0 (by omega)]; exact c0), m_28 (by omega), obd_some, ms_lane H hl, el, show laneI (some l) = nI l from rfl]
            by_cases c1 : l = 1
            · rw [if_pos (show nI l = nI 1 by rw [c1]), B215_68, e73]
              exact ⟨_, _, rfl, fin _ (by unfold cutL; rw [if_neg (by rw [c1]; decide), if_pos (by rw [c1])])⟩
            · rw [if_neg (show ¬ nI l = nI 1 by rw [nI_inj (by omega) (by omega)]; exact c1), e73]
              exact ⟨_, _, rfl, fin _ (by unfold cutL; rw [if_neg (fun z => c0 (Option.some.inj z)), if_neg (fun z => c1 (Option.some.inj z))])⟩
      · rw [if_neg hi, show nC (zS S a) i = 3 by unfold nC; rw [if_neg hl, if_neg hi], if_pos (show 0 < nI 3 by decide)]
        exact ⟨_, _, rfl, R0.f0 3⟩
  · rw [if_neg (show ¬ ¬ ¬ _ from fun z => z hk), if_neg hk, m_o, obd_some, c_refused]
    simp only [obd_some, obd_none, Option.toList_some, Option.toList_none, List.cons_append, List.nil_append, cond_true, cond_false, B215_12]
    exact ⟨_, _, rfl, R0.f0 0⟩
theorem M_cell (R0 : MR S F A) (hS : stOk S) (k i l : Int32) : Mv m (rCell S k i l).2 h (mc 217 [.ref m, .int k, .int i, .int l] (hX 8 h m F A)) (.long (rCell S k i l).1) := by
  have R1 := R0.f0 0
  have S1 := stOk_F hS (f := 0) (by omega)
  have e22 : ∀ h : jHp, (obd none (mc 197 [] h) fun x1 => R 3 217 22 [none, none, none, none] (x1.1.toList ++ []) x1.2) = some (some (.long lostJ), h) := by
    intro h
    rw [M197]
    simp only [obd_some, obd_none, Option.toList_some, Option.toList_none, List.cons_append, List.nil_append, cond_true, cond_false, B217_22]; rfl
  rw [M217, p8_0, obd_some, c_noSheet]
  simp only [obd_some, obd_none, Option.toList_some, Option.toList_none, List.cons_append, List.nil_append, cond_true, cond_false, B217_9, b2i_0, e22]
  unfold rCell
  by_cases hk : inN k 4
  · obtain ⟨a, ha, rfl⟩ := inN_nI hk
    have hd := hS.2.2.2.2.2.2 a ha
    have H := R0.2.2.2 a ha
    have h1 := hd.1
    rw [if_pos (not_not_intro hk), if_pos hk, toNat_nI (by omega), c_isLane]
    simp only [obd_some, obd_none, Option.toList_some, Option.toList_none, List.cons_append, List.nil_append, cond_true, cond_false, B217_16, b2i_0, e22]
    by_cases hl3 : inN l 3
    · rw [if_neg (not_not_intro hl3), if_pos hl3, x8_40, obd_some, m_27 (by omega), obd_some, H.1]
      simp only [szI_0 hd]
      have e54 : nC (zS S a) i = fCell (zS S a) l i → ∃ F' A', R 3 217 54 [some (.ref m), some (.int (nI a)), some (.int i), none] [.int (nI (nC (zS S a) i))] (hX 8 h m (updV F 0 (.int (nI 0))) A) = some (some (.long (if fCell (zS S a) l i = 0 then ((sC (zS S a) i.toNatClampNeg).toInt64, setF S 0) else (lostJ, setF S (fCell (zS S a) l i))).1), hX 8 h m F' A') ∧ MR (if fCell (zS S a) l i = 0 then ((sC (zS S a) i.toNatClampNeg).toInt64, setF S 0) else (lostJ, setF S (fCell (zS S a) l i))).2 F' A' := by
        intro e
        have hf := fCell_le (zS S a) l i
        rw [B217_54]
        by_cases c : fCell (zS S a) l i = 0
        · have hc : inN i (sN (zS S a)) := by
            rw [← e] at c
            unfold nC at c
            refine Classical.byContradiction fun z => ?_
            rw [if_neg z] at c
            split at c <;> omega
          obtain ⟨t, ht, rfl⟩ := inN_nI hc
          rw [e, c, if_neg (show ¬ 0 < nI 0 by decide), x8_42, obd_some, nI_mul, nJ_add, m_29 (by omega), obd_some, H.2.2 t ht, if_pos rfl, toNat_nI (by omega)]
          exact ⟨_, _, rfl, R1⟩
        · rw [if_pos (show 0 < nI (nC (zS S a) i) by rw [nI_gt0 (by omega)]; omega), if_neg c, m_o, obd_some, c_noCell R1 S1 ha]
          simp only [obd_some, obd_none, Option.toList_some, Option.toList_none, List.cons_append, List.nil_append, cond_true, cond_false, B217_64]
          rw [show zS (setF S 0) a = zS S a from rfl, m_o, obd_some, c_failedLong]
          simp only [obd_some, obd_none, Option.toList_some, Option.toList_none, List.cons_append, List.nil_append, cond_true, cond_false, B217_67]
          refine ⟨_, _, rfl, ?_⟩
          rw [e]
          exact R1.f0 _
      by_cases h0 : sL (zS S a) = none
      · rw [if_pos h0, m_o, obd_some, c_noCell R1 S1 ha]
        simp only [obd_some, obd_none, Option.toList_some, Option.toList_none, List.cons_append, List.nil_append, cond_true, cond_false]
        exact e54 (by unfold nC fCell; rw [if_pos h0, if_pos h0])
      · rw [if_neg h0, x8_41, obd_some, m_28 (by omega), obd_some, ms_lane H h0]
        by_cases h2 : laneI (sL (zS S a)) = l
        · rw [if_pos h2, m_o, obd_some, c_noCell R1 S1 ha]
          simp only [obd_some, obd_none, Option.toList_some, Option.toList_none, List.cons_append, List.nil_append, cond_true, cond_false]
          exact e54 (by unfold nC fCell; rw [if_neg h0, if_neg h0, if_neg (not_not_intro h2)])
        · rw [if_neg h2, m_o, obd_some, c_failedLong]
          simp only [obd_some, obd_none, Option.toList_some, Option.toList_none, List.cons_append, List.nil_append, cond_true, cond_false, B217_47]
          have e : fCell (zS S a) l i = 2 := by unfold fCell; rw [if_neg h0, if_pos h2]
          rw [e, if_neg (by decide)]
          exact ⟨_, _, rfl, R1.f0 2⟩
    · rw [if_pos hl3, if_neg hl3]
      exact ⟨_, _, rfl, R1⟩
  · rw [if_neg (show ¬ ¬ ¬ _ from fun z => z hk), if_neg hk]
    exact ⟨_, _, rfl, R1⟩
end MSheet
