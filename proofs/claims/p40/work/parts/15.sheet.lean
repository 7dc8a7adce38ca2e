/-! SHEETS of the class. -/
/-- a lane (none: nothing), how many cells, the cells -/
abbrev jSD : Type := Option Nat × Nat × (Nat → Int32)
def sL (d : jSD) : Option Nat := d.1
def sN (d : jSD) : Nat := d.2.1
def sC (d : jSD) : Nat → Int32 := d.2.2
def laneI (q : Option Nat) : Int32 := match q with | none => -nI 9 | some l => nI l
def sdF (d : jSD) : Nat → Value := fun k => match k with | 0 => .null | 1 => .int (laneI (sL d)) | 2 => .int (nI (sN d)) | _ => .int 0
def sdA (d : jSD) : Nat → Nat → Int32 := fun i j => match i with | 1 => sC d j | _ => 0
abbrev SheetAt (h : jHp) (b : Nat) (d : jSD) : Prop := At 6 h b (sdF d) (sdA d)
def sdOk (d : jSD) : Prop := sN d ≤ 120 ∧ (sL d = none → sN d = 0) ∧ ∀ l, sL d = some l → l < 3
/-- cells i .. i + n less 1 are there -/
abbrev inCs (i n : Int32) (z : Nat) : Prop := 0 ≤ i.toInt ∧ 0 ≤ n.toInt ∧ i.toInt + n.toInt ≤ (z : Int)
def fCells (d : jSD) (lane i n : Int32) : Nat := if sL d = none then 1 else if ¬ laneI (sL d) = lane then 2 else if n < 0 then 4 else if inCs i n (sN d) then 0 else 3
def fCell (d : jSD) (lane i : Int32) : Nat := if sL d = none then 1 else if ¬ laneI (sL d) = lane then 2 else if inN i (sN d) then 0 else 3
def cutL (q : Option Nat) (v : Int32) : Int32 := if q = some 0 then v.toInt8.toInt32 else if q = some 1 then v.toInt16.toInt32 else v
section SheetRows
variable {h : jHp} {b : Nat} {d : jSD}
theorem sh_0 (H : SheetAt h b d) : gA h b 6 0 = some (b + 1) := by rw [H.eq]; exact x6_0
theorem sh_1 (H : SheetAt h b d) : gI h b 6 1 = some (laneI (sL d)) := by rw [H.eq]; exact x6_1
theorem sh_2 (H : SheetAt h b d) : gI h b 6 2 = some (nI (sN d)) := by rw [H.eq]; exact x6_2
theorem sh_o (H : SheetAt h b d) : gO h b 6 = some (oF 6 b (sdF d)) := by rw [H.eq]; exact gO_hX _ _ _ _ _
theorem sh_a (H : SheetAt h b d) {t : Nat} (ht : t < 120) : alI h (b + 1) (nI t) = some (sC d t) := by rw [H.eq, r6_1]; exact rdA_nI _ ht (by decide)
theorem sh_n (H : SheetAt h b d) : alen h (b + 1) = some (nI 120) := by rw [H.eq]; exact n6_1
theorem lane_none (hd : sdOk d) : (laneI (sL d) = -nI 9) = (sL d = none) := by
  refine propext ⟨fun e => ?_, fun e => by rw [e]; rfl⟩
  cases hl : sL d with
  | none => rfl
  | some l =>
    have := hd.2.2 l hl
    rw [hl] at e
    have e : nI l = -nI 9 := e
    rw [neg9_ne (by omega)] at e
    exact e.elim
theorem c_isNothing (H : SheetAt h b d) (hd : sdOk d) : mc 8 [.ref b] h = some (some (.int (b2i (sL d = none))), h) := by
  rw [M8]
  simp only [sh_1 H, obd_some, obd_none, Option.toList_some, Option.toList_none, List.cons_append, List.nil_append, cond_true, cond_false, lane_none hd]
  unfold b2i
  split <;> rfl
theorem lt0_int (k : Int32) : (k < 0) = (k.toInt < 0) := by rw [Int32.lt_iff_toInt_lt]; rfl
theorem lt_int {k : Int32} {n : Nat} (hn : n < 2147483648) : (k < nI n) = (k.toInt < (n : Int)) := by rw [Int32.lt_iff_toInt_lt, toInt_nI hn]
theorem gt_int {k : Int32} {n : Nat} (hn : n < 2147483648) : (nI n < k) = ((n : Int) < k.toInt) := by rw [Int32.lt_iff_toInt_lt, toInt_nI hn]
theorem c_hasCell (H : SheetAt h b d) (hd : sdOk d) (i : Int32) : mc 103 [.ref b, .int i] h = some (some (.int (b2i (inN i (sN d)))), h) := by
  have h1 := hd.1
  rw [M103]
  simp (disch := omega) only [sh_2 H, obd_some, obd_none, Option.toList_some, Option.toList_none, List.cons_append, List.nil_append, cond_true, cond_false, lt0_int, lt_int]
  unfold b2i inN
  by_cases a1 : i.toInt < 0
  · rw [if_pos a1, if_neg (by omega)]
  · rw [if_neg a1]
    by_cases a2 : i.toInt < (sN d : Int)
    · rw [if_pos a2, if_pos (by omega)]
    · rw [if_neg a2, if_neg (by omega)]
theorem c_hasCells (H : SheetAt h b d) (hd : sdOk d) (i n : Int32) : mc 9 [.ref b, .int i, .int n] h = some (some (.int (b2i (inCs i n (sN d)))), h) := by
  have h1 := hd.1
  rw [M9]
  simp (disch := omega) only [sh_2 H, obd_some, obd_none, Option.toList_some, Option.toList_none, List.cons_append, List.nil_append, cond_true, cond_false, lt0_int, gt_int]
  unfold b2i inCs
  by_cases a1 : i.toInt < 0
  · rw [if_pos a1, if_neg (by omega)]
  · rw [if_neg a1]
    by_cases a2 : (sN d : Int) < i.toInt
    · rw [if_pos a2]
      by_cases a3 : n.toInt < 0
      · rw [if_neg (by omega)]
      · rw [if_neg (by omega)]
    · rw [if_neg a2]
      by_cases a3 : n.toInt < 0
      · rw [if_pos a3, if_neg (by omega)]
      · rw [if_neg a3]
        obtain ⟨t, ht, rfl⟩ := inN_nI (k := i) (n := sN d + 1) ⟨by omega, by omega⟩
        rw [toInt_nI (by omega)] at a1 a2 ⊢
        simp (disch := omega) only [nI_sub, gt_int]
        by_cases a4 : ((sN d - t : Nat) : Int) < n.toInt
        · rw [if_pos a4, if_neg (by omega)]
        · rw [if_neg a4, if_pos (by omega)]
theorem c_at (H : SheetAt h b d) (hd : sdOk d) {t : Nat} (ht : t < sN d) : mc 16 [.ref b, .int (nI t)] h = some (some (.int (sC d t)), h) := by
  have h1 := hd.1
  rw [M16]
  simp (disch := omega) only [sh_2 H, sh_n H, nJ_add, nI_mul, nJ_lt, nJ_le, nI_inj, nI_lt0, nI_eq0, nI_gt0, toNat_nI, ht, show t < 120 by omega, if_false, if_true, obd_some, obd_none, Option.toList_some, Option.toList_none, List.cons_append, List.nil_append, cond_true, cond_false, sh_0 H, sh_a H]
def setC (d : jSD) (t : Nat) (v : Int32) : jSD := (sL d, sN d, upd (sC d) t v)
theorem sdA_upd (d : jSD) (t : Nat) (v : Int32) : updA (sdA d) 1 (upd (sdA d 1) t v) = sdA (setC d t v) := by
  funext i j
  unfold updA
  by_cases e : i = 1
  · subst e; rfl
  · rw [if_neg e]
    match i, e with
    | 0, _ => rfl
    | i + 2, _ => rfl
theorem c_write (H : SheetAt h b d) (hd : sdOk d) {t : Nat} (ht : t < sN d) (v : Int32) : mc 104 [.ref b, .int (nI t), .int v] h = some (none, hX 6 h b (sdF d) (sdA (setC d t (cutL (sL d) v)))) := by
  have h1 := hd.1
  rw [M104]
  simp (disch := omega) only [sh_o H, c_hasCell H hd, inN_iff, ht, b2i_0, not_true_eq_false, if_false, obd_some, obd_none, Option.toList_some, Option.toList_none, List.cons_append, List.nil_append, cond_true, cond_false, B104_0, B104_5, sh_0 H, sh_1 H]
  cases hl : sL d with
  | none => exact absurd (hd.2.1 hl) (by omega)
  | some l =>
    have hl3 := hd.2.2 l hl
    have key : ∀ w, asI h (b + 1) (nI t) w = some (hX 6 h b (sdF d) (sdA (setC d t w))) := by
      intro w
      rw [H.eq, w6_1 w (by omega), sdA_upd, hX_hX]
    simp only [key, obd_some, obd_none, Option.toList_some, Option.toList_none, List.cons_append, List.nil_append, cond_true, cond_false, cutL, laneI]
    simp (disch := omega) only [nI_eq0, nI_inj, Option.some.injEq]
    by_cases a0 : l = 0
    · rw [if_pos a0, if_pos a0]
    · rw [if_neg a0, if_neg a0]
      by_cases a1 : l = 1
      · rw [if_pos a1, if_pos a1]
      · rw [if_neg a1, if_neg a1]
theorem c_faultOfCells (H : SheetAt h b d) (hd : sdOk d) (lane i n : Int32) : mc 7 [.ref b, .int lane, .int i, .int n] h = some (some (.int (nI (fCells d lane i n))), h) := by
  rw [M7]
  simp only [sh_o H, c_isNothing H hd, obd_some, obd_none, Option.toList_some, Option.toList_none, List.cons_append, List.nil_append, cond_true, cond_false, B7_0, B7_4, B7_31, b2i_0, sh_1 H, c_hasCells H hd]
  unfold fCells
  repeat' split
  all_goals first | rfl | contradiction | (exfalso; simp_all)
end SheetRows
