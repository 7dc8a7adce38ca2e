/-! ROADS of the class: an object of class Road holds the numbers of a road. -/
/-- pieces, people, beasts; who is lame and from where; miles, grounds, the people's numbers, the beasts' -/
abbrev jRD : Type := Nat × Nat × Nat × Option (Nat × Nat) × (Nat → Nat) × (Nat → Nat) × (Nat → Nat) × (Nat → Nat)
def rP (d : jRD) : Nat := d.1
def rE (d : jRD) : Nat := d.2.1
def rB (d : jRD) : Nat := d.2.2.1
def rL (d : jRD) : Option (Nat × Nat) := d.2.2.2.1
def rM (d : jRD) : Nat → Nat := d.2.2.2.2.1
def rG (d : jRD) : Nat → Nat := d.2.2.2.2.2.1
def rQ (d : jRD) : Nat → Nat := d.2.2.2.2.2.2.1
def rO (d : jRD) : Nat → Nat := d.2.2.2.2.2.2.2
def lwho (q : Option (Nat × Nat)) : Int32 := match q with | none => -nI 9 | some q => nI q.1
def lfro (q : Option (Nat × Nat)) : Int32 := match q with | none => -nI 9 | some q => nI q.2
def rdF (d : jRD) : Nat → Value := fun k => match k with | 0 => .int (nI (rP d)) | 1 => .int (nI (rE d)) | 2 => .int (nI (rB d)) | 3 => .int (lwho (rL d)) | 4 => .int (lfro (rL d)) | _ => .null
def roA (d : jRD) : Nat → Nat → Int32 := fun i j => match i with | 1 => nI (rM d j) | 2 => nI (rG d j) | 3 => nI (rQ d j) | 4 => nI (rO d j) | _ => 0
abbrev RoadAt (h : jHp) (r : Nat) (d : jRD) : Prop := At 4 h r (rdF d) (roA d)
/-- the numbers are small -/
def rdOk (d : jRD) : Prop := rP d ≤ 6 ∧ rE d ≤ 4 ∧ rB d ≤ 2 ∧ (∀ j, rM d j ≤ 9) ∧ (∀ j, rG d j ≤ 2) ∧ (∀ j, rQ d j ≤ 99) ∧ (∀ j, rO d j ≤ 99) ∧ ∀ q, rL d = some q → q.1 < 4 ∧ q.2 < 6
def sP (d : jRD) (p w : Nat) : Nat := rQ d (4 * p + w)
def sB (d : jRD) (b w : Nat) : Nat := rO d (6 * b + w)
def isLm (q : Option (Nat × Nat)) (p k : Nat) : Bool := match q with | none => false | some q => q.1 == p && Nat.ble q.2 k
def wlk (d : jRD) (p k : Nat) : Nat := if isLm (rL d) p k = true then 2 * (rM d k * sP d p (rG d k)) else rM d k * sP d p (rG d k)
def rid (d : jRD) (b k : Nat) : Nat := rM d k * sB d b (rG d k)
def sumN (f : Nat → Nat) : Nat → Nat
  | 0 => 0
  | n + 1 => sumN f n + f n
theorem sumN_le {f : Nat → Nat} {c : Nat} (h : ∀ j, f j ≤ c) : ∀ n, sumN f n ≤ n * c
  | 0 => Nat.zero_le _
  | n + 1 => by
    have := sumN_le h n
    have := h n
    rw [sumN, Nat.succ_mul]; omega
section RoadRows
variable {h : jHp} {r : Nat} {d : jRD}
theorem rd_0 (H : RoadAt h r d) : gI h r 4 0 = some (nI (rP d)) := by rw [H.eq]; exact x4_0
theorem rd_1 (H : RoadAt h r d) : gI h r 4 1 = some (nI (rE d)) := by rw [H.eq]; exact x4_1
theorem rd_2 (H : RoadAt h r d) : gI h r 4 2 = some (nI (rB d)) := by rw [H.eq]; exact x4_2
theorem rd_3 (H : RoadAt h r d) : gI h r 4 3 = some (lwho (rL d)) := by rw [H.eq]; exact x4_3
theorem rd_4 (H : RoadAt h r d) : gI h r 4 4 = some (lfro (rL d)) := by rw [H.eq]; exact x4_4
theorem rd_5 (H : RoadAt h r d) : gA h r 4 5 = some (r + 1) := by rw [H.eq]; exact x4_5
theorem rd_6 (H : RoadAt h r d) : gA h r 4 6 = some (r + 2) := by rw [H.eq]; exact x4_6
theorem rd_7 (H : RoadAt h r d) : gA h r 4 7 = some (r + 3) := by rw [H.eq]; exact x4_7
theorem rd_8 (H : RoadAt h r d) : gA h r 4 8 = some (r + 4) := by rw [H.eq]; exact x4_8
theorem rd_o (H : RoadAt h r d) : gO h r 4 = some (oF 4 r (rdF d)) := by rw [H.eq]; exact gO_hX _ _ _ _ _
theorem rd_a1 (H : RoadAt h r d) {t : Nat} (ht : t < 6) : alI h (r + 1) (nI t) = some (nI (rM d t)) := by rw [H.eq, r4_1]; exact rdA_nI _ ht (by decide)
theorem rd_a2 (H : RoadAt h r d) {t : Nat} (ht : t < 6) : alI h (r + 2) (nI t) = some (nI (rG d t)) := by rw [H.eq, r4_2]; exact rdA_nI _ ht (by decide)
theorem rd_a3 (H : RoadAt h r d) {t : Nat} (ht : t < 16) : alI h (r + 3) (nI t) = some (nI (rQ d t)) := by rw [H.eq, r4_3]; exact rdA_nI _ ht (by decide)
theorem rd_a4 (H : RoadAt h r d) {t : Nat} (ht : t < 12) : alI h (r + 4) (nI t) = some (nI (rO d t)) := by rw [H.eq, r4_4]; exact rdA_nI _ ht (by decide)
theorem inN_b {k : Int32} {n c : Nat} (hn : n ≤ c) (hc : c < 2147483648) : (if k < 0 then nI 0 else if k < nI n then if k < nI c then nI 1 else nI 0 else nI 0) = b2i (inN k n) := by
  unfold b2i inN
  have e1 : (k < 0) = (k.toInt < 0) := by rw [Int32.lt_iff_toInt_lt]; rfl
  have e2 : (k < nI n) = (k.toInt < (n : Int)) := by rw [Int32.lt_iff_toInt_lt, toInt_nI (by omega)]
  have e3 : (k < nI c) = (k.toInt < (c : Int)) := by rw [Int32.lt_iff_toInt_lt, toInt_nI hc]
  simp only [e1, e2, e3]
  by_cases a1 : k.toInt < 0
  · rw [if_pos a1, if_neg (by omega)]
  · rw [if_neg a1]
    by_cases a2 : k.toInt < (n : Int)
    · rw [if_pos a2, if_pos (by omega), if_pos (by omega)]
    · rw [if_neg a2, if_neg (by omega)]
theorem b2i_0 (c : Prop) [Decidable c] : (b2i c = 0) = ¬ c := by
  unfold b2i
  split
  · next h => exact propext ⟨fun q => absurd q (by decide), fun q => absurd h q⟩
  · next h => exact propext ⟨fun _ => h, fun _ => rfl⟩
theorem bl_b2i (c : Prop) [Decidable c] : bl (b2i c) = true := by unfold b2i; split <;> decide
theorem inN_iff {t n : Nat} (ht : t < 2147483648) : inN (nI t) n = (t < n) := by
  unfold inN; rw [toInt_nI ht]; exact propext ⟨fun q => by omega, fun q => ⟨by omega, by omega⟩⟩
theorem c_hasPiece (H : RoadAt h r d) (hd : rdOk d) (k : Int32) : mc 30 [.ref r, .int k] h = some (some (.int (b2i (inN k (rP d)))), h) := by
  rw [M30, rd_0 H, obd_some, ← inN_b hd.1 (by decide)]
  repeat' split
  all_goals rfl
theorem c_hasPerson (H : RoadAt h r d) (hd : rdOk d) (k : Int32) : mc 29 [.ref r, .int k] h = some (some (.int (b2i (inN k (rE d)))), h) := by
  rw [M29, rd_1 H, obd_some, ← inN_b hd.2.1 (by decide)]
  repeat' split
  all_goals rfl
theorem c_hasBeast (H : RoadAt h r d) (hd : rdOk d) (k : Int32) : mc 47 [.ref r, .int k] h = some (some (.int (b2i (inN k (rB d)))), h) := by
  rw [M47, rd_2 H, obd_some, ← inN_b hd.2.2.1 (by decide)]
  repeat' split
  all_goals rfl
theorem c_hasGate (H : RoadAt h r d) (hd : rdOk d) (k : Int32) : mc 58 [.ref r, .int k] h = some (some (.int (b2i (inN k (rP d + 1)))), h) := by
  have h6 := hd.1
  have e1 : (k < 0) = (k.toInt < 0) := by rw [Int32.lt_iff_toInt_lt]; rfl
  have e2 : (nI (rP d) < k) = ((rP d : Int) < k.toInt) := by rw [Int32.lt_iff_toInt_lt, toInt_nI (by omega)]
  have e3 : (nI 6 < k) = (6 < k.toInt) := by rw [Int32.lt_iff_toInt_lt]; rfl
  rw [M58, rd_0 H, obd_some]
  unfold b2i inN
  simp only [e1, e2, e3]
  by_cases a1 : k.toInt < 0
  · rw [if_pos a1, if_neg (by omega)]
  · rw [if_neg a1]
    by_cases a2 : (rP d : Int) < k.toInt
    · rw [if_pos a2, if_neg (by omega)]
    · rw [if_neg a2, if_neg (by omega), if_pos (by omega)]
theorem c_ofPersons (H : RoadAt h r d) (hd : rdOk d) {p w : Nat} (hp : p < rE d) (hw : w < 4) : mc 45 [.ref r, .int (nI p), .int (nI w)] h = some (some (.int (nI (sP d p w))), h) := by
  have h4 := hd.2.1
  rw [M45]
  simp (disch := omega) only [rd_1 H, hp, hw, show p < 4 by omega, if_false, if_true, obd_some, obd_none, Option.toList_some, Option.toList_none, List.cons_append, List.nil_append, cond_true, cond_false, B45_34, nJ_add, nI_mul, nJ_lt, nJ_le, nI_inj, nI_lt0, nI_eq0, nI_gt0, toNat_nI, rd_7 H, rd_a3 H, sP]
  rw [Nat.mul_comm p 4]
theorem c_ofMounts (H : RoadAt h r d) (hd : rdOk d) {b w : Nat} (hb : b < rB d) (hw : w < 6) : mc 49 [.ref r, .int (nI b), .int (nI w)] h = some (some (.int (nI (sB d b w))), h) := by
  have h4 := hd.2.2.1
  rw [M49]
  simp (disch := omega) only [rd_2 H, hb, hw, show b < 2 by omega, if_false, if_true, obd_some, obd_none, Option.toList_some, Option.toList_none, List.cons_append, List.nil_append, cond_true, cond_false, B49_36, nJ_add, nI_mul, nJ_lt, nJ_le, nI_inj, nI_lt0, nI_eq0, nI_gt0, toNat_nI, rd_8 H, rd_a4 H, sB]
  rw [Nat.mul_comm b 6]
theorem l_allMiles (H : RoadAt h r d) (hd : rdOk d) : ∀ n k, k + n = rP d → R 1 85 4 [some (.ref r), some (.int (nI (sumN (rM d) k))), some (.int (nI k))] [] h = some (some (.int (nI (sumN (rM d) (rP d)))), h) := by
  have h6 := hd.1
  intro n
  induction n with
  | zero =>
    intro k hk
    obtain rfl : k = rP d := hk
    rw [B85_4]
    simp (disch := omega) only [rd_0 H, obd_some, obd_none, Option.toList_some, Option.toList_none, List.cons_append, List.nil_append, cond_true, cond_false, nJ_add, nI_mul, nJ_lt, nJ_le, nI_inj, nI_lt0, nI_eq0, nI_gt0, toNat_nI, Nat.lt_irrefl, if_false]
  | succ n ih =>
    intro k hk
    have hlt : k < rP d := by omega
    rw [B85_4]
    simp (disch := omega) only [rd_0 H, obd_some, obd_none, Option.toList_some, Option.toList_none, List.cons_append, List.nil_append, cond_true, cond_false, nJ_add, nI_mul, nJ_lt, nJ_le, nI_inj, nI_lt0, nI_eq0, nI_gt0, toNat_nI, hlt, if_true, show k < 6 by omega, rd_5 H, rd_a1 H]
    exact ih (k + 1) (by omega)
theorem c_allMiles (H : RoadAt h r d) (hd : rdOk d) : mc 85 [.ref r] h = some (some (.int (nI (sumN (rM d) (rP d)))), h) := by
  rw [M85]
  exact l_allMiles H hd (rP d) 0 (Nat.zero_add _)
theorem neg9_ne {t : Nat} (ht : t < 2147483648) : (nI t = -nI 9) = False := by
  refine eq_false fun q => ?_
  have := congrArg Int32.toInt q
  rw [toInt_nI ht, show (-nI 9).toInt = -9 by decide] at this
  omega
theorem neg9_ne' {t : Nat} (ht : t < 2147483648) : (-nI 9 = nI t) = False := by
  rw [← neg9_ne ht]; exact propext ⟨Eq.symm, Eq.symm⟩
theorem lame_if {q : Option (Nat × Nat)} {p k x : Nat} (hq : ∀ w, q = some w → w.1 < 4 ∧ w.2 < 6) (hp : p < 4) (hk : k < 6) {α : Type} (f : Nat → α) :
    (if nI p = lwho q then if nI k < lfro q then f x else f (2 * x) else f x) = f (if isLm q p k = true then 2 * x else x) := by
  cases q with
  | none =>
    rw [if_neg (by rw [show lwho none = -nI 9 from rfl, neg9_ne (by omega)]; exact id)]
    rfl
  | some w =>
    obtain ⟨h1, h2⟩ := hq w rfl
    show (if nI p = nI w.1 then if nI k < nI w.2 then f x else f (2 * x) else f x) = f (if (w.1 == p && Nat.ble w.2 k) = true then 2 * x else x)
    simp only [Bool.and_eq_true, beq_iff_eq, Nat.ble_eq]
    simp (disch := omega) only [nI_inj, nJ_lt]
    by_cases a : p = w.1
    · rw [if_pos a]
      by_cases b : k < w.2
      · rw [if_pos b, if_neg (by omega)]
      · rw [if_neg b, if_pos ⟨a.symm, by omega⟩]
    · rw [if_neg a, if_neg (fun z => a z.1.symm)]
theorem c_minutesOnFoot (H : RoadAt h r d) (hd : rdOk d) {p k : Nat} (hp : p < rE d) (hk : k < rP d) : mc 44 [.ref r, .int (nI p), .int (nI k)] h = some (some (.int (nI (wlk d p k))), h) := by
  have h6 := hd.1
  have h4 := hd.2.1
  have hg := hd.2.2.2.2.1 k
  rw [M44]
  simp (disch := omega) only [rd_o H, c_hasPiece H hd, inN_iff, b2i_0, hk, not_true_eq_false, if_false, obd_some, obd_none, Option.toList_some, Option.toList_none, List.cons_append, List.nil_append, cond_true, cond_false, B44_5, B44_27, nJ_add, nI_mul, nJ_lt, nJ_le, nI_inj, nI_lt0, nI_eq0, nI_gt0, toNat_nI, rd_5 H, rd_6 H, rd_a1 H, rd_a2 H, c_ofPersons H hd hp (show rG d k < 4 by omega), rd_3 H, rd_4 H]
  exact lame_if (f := fun x => some (some (Value.int (nI x)), h)) hd.2.2.2.2.2.2.2 (by omega) (by omega)
theorem c_minutesRidden (H : RoadAt h r d) (hd : rdOk d) {b k : Nat} (hb : b < rB d) (hk : k < rP d) : mc 51 [.ref r, .int (nI b), .int (nI k)] h = some (some (.int (nI (rid d b k))), h) := by
  have h6 := hd.1
  have hg := hd.2.2.2.2.1 k
  rw [M51]
  simp (disch := omega) only [rd_o H, c_hasPiece H hd, inN_iff, b2i_0, hk, not_true_eq_false, if_false, obd_some, obd_none, Option.toList_some, Option.toList_none, List.cons_append, List.nil_append, cond_true, cond_false, B51_0, B51_5, B51_25, nJ_add, nI_mul, nJ_lt, nJ_le, nI_inj, nI_lt0, nI_eq0, nI_gt0, toNat_nI, rd_5 H, rd_6 H, rd_a1 H, rd_a2 H, c_ofMounts H hd hb (show rG d k < 6 by omega), rid]
theorem c_cellsOfPlan (H : RoadAt h r d) : mc 36 [.ref r] h = some (some (.int (nI (rP d * rE d))), h) := by
  rw [M36]
  simp only [rd_0 H, rd_1 H, obd_some, obd_none, Option.toList_some, Option.toList_none, List.cons_append, List.nil_append, cond_true, cond_false, nI_mul]
def setL (d : jRD) (q : Option (Nat × Nat)) : jRD := (rP d, rE d, rB d, q, rM d, rG d, rQ d, rO d)
theorem lm_inj {q w : Option (Nat × Nat)} (hq : ∀ x, q = some x → x.1 < 4 ∧ x.2 < 6) (hw : ∀ x, w = some x → x.1 < 4 ∧ x.2 < 6) : (lwho q = lwho w ∧ lfro q = lfro w) = (q = w) := by
  refine propext ⟨fun e => ?_, fun e => e ▸ ⟨rfl, rfl⟩⟩
  cases q with
  | none =>
    cases w with
    | none => rfl
    | some w => have h1 := (hw w rfl).1; exact absurd e.1 (by rw [show lwho none = -nI 9 from rfl, show lwho (some w) = nI w.1 from rfl, neg9_ne' (by omega)]; exact id)
  | some q =>
    cases w with
    | none => have h1 := (hq q rfl).1; exact absurd e.1 (by rw [show lwho none = -nI 9 from rfl, show lwho (some q) = nI q.1 from rfl, neg9_ne (by omega)]; exact id)
    | some w =>
      have h1 := hq q rfl
      have h2 := hw w rfl
      have e1 : nI q.1 = nI w.1 := e.1
      have e2 : nI q.2 = nI w.2 := e.2
      rw [nI_inj (by omega) (by omega)] at e1 e2
      exact congrArg some (Prod.ext e1 e2)
theorem c_isLame (H : RoadAt h r d) (hd : rdOk d) {q : Option (Nat × Nat)} (hq : ∀ x, q = some x → x.1 < 4 ∧ x.2 < 6) : mc 28 [.ref r, .int (lwho q), .int (lfro q)] h = some (some (.int (b2i (rL d = q))), h) := by
  rw [M28]
  simp only [rd_3 H, rd_4 H, obd_some, obd_none, Option.toList_some, Option.toList_none, List.cons_append, List.nil_append, cond_true, cond_false]
  have e := lm_inj hd.2.2.2.2.2.2.2 hq
  unfold b2i
  by_cases a : rL d = q
  · rw [if_pos a, if_pos (by rw [a]), if_pos (by rw [a])]
  · rw [if_neg a]
    by_cases b : lwho (rL d) = lwho q
    · rw [if_pos b, if_neg (fun c => a (e ▸ ⟨b, c⟩))]
    · rw [if_neg b]
theorem rdF_setL (d : jRD) (q : Option (Nat × Nat)) : updV (updV (rdF d) 3 (.int (lwho q))) 4 (.int (lfro q)) = rdF (setL d q) := by
  funext k
  unfold updV
  by_cases h4 : k = 4
  · subst h4; rfl
  · rw [if_neg h4]
    by_cases h3 : k = 3
    · subst h3; rfl
    · rw [if_neg h3]
      match k, h3, h4 with
      | 0, _, _ => rfl
      | 1, _, _ => rfl
      | 2, _, _ => rfl
      | k + 5, _, _ => rfl
theorem c_becomeLame (H : RoadAt h r d) (hd : rdOk d) {q : Option (Nat × Nat)} (hq : ∀ x, q = some x → x.1 < 4 ∧ x.2 < 6) : mc 27 [.ref r, .int (lwho q), .int (lfro q)] h = some (some (.int (b2i (¬ rL d = q))), hX 4 h r (rdF (setL d q)) (roA d)) := by
  rw [M27]
  have e14 : ∀ s0 : Int32, bl s0 = true → R 2 27 14 [some (.ref r), some (.int (lwho q)), some (.int (lfro q)), none] [.int s0] h = some (some (.int s0), hX 4 h r (rdF (setL d q)) (roA d)) := by
    intro s0 hb
    rw [B27_14]
    rw [show pF h r 4 3 (.int (lwho q)) = some (hX 4 h r (updV (rdF d) 3 (.int (lwho q))) (roA d)) by rw [H.eq, p4_3, hX_hX]]
    rw [obd_some, p4_4, obd_some, hb, cond_true, rdF_setL]
  simp only [rd_o H, obd_some, obd_none, Option.toList_some, Option.toList_none, List.cons_append, List.nil_append, cond_true, cond_false, c_isLame H hd hq, B27_6, b2i_0]
  by_cases a : rL d = q
  · rw [if_neg (fun z => z a), e14 _ (by decide)]
    unfold b2i
    rw [if_neg (fun z => z a)]
  · rw [if_pos a, e14 _ (by decide)]
    unfold b2i
    rw [if_pos a]
theorem At_setL (H : RoadAt h r d) (q : Option (Nat × Nat)) : RoadAt (hX 4 h r (rdF (setL d q)) (roA d)) r (setL d q) := At.own 4 h r (rdF (setL d q)) (roA d)
/-! how many rows there are -/
def pwl (b : Nat) : Nat → Nat
  | 0 => 1
  | t + 1 => if pwl b t ≤ 65536 then pwl b t * b else pwl b t
theorem pwl_le {b : Nat} (hb : b ≤ 3) : ∀ t, pwl b t ≤ 196608
  | 0 => Nat.le_of_ble_eq_true rfl
  | t + 1 => by
    rw [pwl]
    split
    · next h => exact Nat.le_trans (Nat.mul_le_mul h hb) (by decide)
    · exact pwl_le hb t
theorem pwl_big {b : Nat} {t : Nat} (h : 65536 < pwl b t) : ∀ n, pwl b (t + n) = pwl b t
  | 0 => rfl
  | n + 1 => by
    have ih := pwl_big h n
    rw [← Nat.add_assoc, pwl, if_neg (by rw [ih]; omega), ih]
theorem pwl_eq {b : Nat} (hb : 0 < b) : ∀ t, b ^ t ≤ 65536 → pwl b t = b ^ t
  | 0, _ => rfl
  | t + 1, h => by
    have h1 : b ^ t ≤ b ^ (t + 1) := Nat.pow_le_pow_right hb (Nat.le_succ t)
    have ih := pwl_eq hb t (Nat.le_trans h1 h)
    rw [pwl, ih, if_pos (by omega), Nat.pow_succ]
theorem pwl_gt {b : Nat} (hb : 0 < b) : ∀ t, 65536 < b ^ t → 65536 < pwl b t
  | 0, h => by rw [Nat.pow_zero] at h; omega
  | t + 1, h => by
    by_cases h1 : b ^ t ≤ 65536
    · rw [pwl, pwl_eq hb t h1, if_pos h1, ← Nat.pow_succ]; exact h
    · have ih := pwl_gt hb t (by omega)
      rw [pwl, if_neg (by omega)]; exact ih
theorem l_power {b t : Nat} (hb : b ≤ 3) (ht : t ≤ 1000000) (h : jHp) : ∀ n i, i + n = t → R 1 37 4 [some (.int (nI b)), some (.int (nI t)), some (.int (nI (pwl b i))), some (.int (nI i))] [] h = some (some (.int (nI (pwl b t))), h) := by
  intro n
  induction n with
  | zero =>
    intro i hi
    obtain rfl : i = t := hi
    rw [B37_4]
    simp (disch := omega) only [nJ_add, nI_mul, nJ_lt, nJ_le, nI_inj, nI_lt0, nI_eq0, nI_gt0, toNat_nI, Nat.lt_irrefl, if_false]
  | succ n ih =>
    intro i hi
    have hlt : i < t := by omega
    have hp := pwl_le hb i
    rw [B37_4]
    simp (disch := omega) only [nJ_add, nI_mul, nJ_lt, nJ_le, nI_inj, nI_lt0, nI_eq0, nI_gt0, toNat_nI, hlt, if_true]
    by_cases hc : 65536 < pwl b i
    · rw [if_pos hc]
      have := pwl_big hc (n + 1)
      rw [hi] at this
      rw [this]
    · rw [if_neg hc]
      have e : pwl b (i + 1) = pwl b i * b := by rw [pwl, if_pos (by omega)]
      rw [← e]
      exact ih (i + 1) (by omega)
theorem c_power {b t : Nat} (hb : b ≤ 3) (ht : t ≤ 1000000) (h : jHp) : mc 37 [.int (nI b), .int (nI t)] h = some (some (.int (nI (pwl b t))), h) := by
  rw [M37]
  exact l_power hb ht h t 0 (Nat.zero_add _)
/-- more rows than are gone through -/
abbrev many (d : jRD) : Prop := 65536 < (rB d + 1) ^ (rP d * rE d)
theorem cells_le (hd : rdOk d) : rP d * rE d ≤ 24 := Nat.mul_le_mul hd.1 hd.2.1
theorem many_pwl (d : jRD) : (65536 < pwl (rB d + 1) (rP d * rE d)) = many d := by
  refine propext ⟨fun h => ?_, fun h => pwl_gt (Nat.succ_pos _) _ h⟩
  unfold many
  by_cases h1 : (rB d + 1) ^ (rP d * rE d) ≤ 65536
  · rw [pwl_eq (Nat.succ_pos _) _ h1] at h; omega
  · omega
theorem c_hasManyRows (H : RoadAt h r d) (hd : rdOk d) : mc 35 [.ref r] h = some (some (.int (if many d then nI 1 else nI 0)), h) := by
  have h2 := hd.2.2.1
  have h24 := cells_le hd
  rw [M35]
  simp (disch := omega) only [rd_2 H, rd_o H, obd_some, obd_none, Option.toList_some, Option.toList_none, List.cons_append, List.nil_append, cond_true, cond_false, c_cellsOfPlan H, B35_0, B35_10, B35_13, nJ_add, nI_mul, nJ_lt, nJ_le, nI_inj, nI_lt0, nI_eq0, nI_gt0, toNat_nI, c_power (show rB d + 1 ≤ 3 by omega) (show rP d * rE d ≤ 1000000 by omega)]
  have hp := pwl_le (show rB d + 1 ≤ 3 by omega) (rP d * rE d)
  simp (disch := omega) only [nJ_lt, many_pwl]
  split <;> rfl
end RoadRows
