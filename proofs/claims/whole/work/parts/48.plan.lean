/-! PLANS of the class. -/
abbrev PnAt (h : jHp) (p r : Nat) (pd : jPD) : Prop := At 2 h p (pnF p (pK pd) (pX pd) r (pG pd) (pM pd)) (cA (pC pd))
section PlanRows
variable {h : jHp} {p r : Nat} {pd : jPD} {d : jRD}
theorem pn_0 (H : PnAt h p r pd) : gI h p 2 0 = some (nI (pK pd)) := by rw [H.eq]; exact x2_0
theorem pn_1 (H : PnAt h p r pd) : gI h p 2 1 = some (nI (pX pd)) := by rw [H.eq]; exact x2_1
theorem pn_2 (H : PnAt h p r pd) : gA h p 2 2 = some r := by rw [H.eq]; exact x2_2
theorem pn_3 (H : PnAt h p r pd) : gI h p 2 3 = some (nI (pG pd)) := by rw [H.eq]; exact x2_3
theorem pn_4 (H : PnAt h p r pd) : gI h p 2 4 = some (nI (pM pd)) := by rw [H.eq]; exact x2_4
theorem pn_5 (H : PnAt h p r pd) : gA h p 2 5 = some (p + 1) := by rw [H.eq]; exact x2_5
theorem pn_6 (H : PnAt h p r pd) : gA h p 2 6 = some (p + 2) := by rw [H.eq]; exact x2_6
theorem pn_o (H : PnAt h p r pd) : gO h p 2 = some (oF 2 p (pnF p (pK pd) (pX pd) r (pG pd) (pM pd))) := by rw [H.eq]; exact gO_hX _ _ _ _ _
theorem pn_a (H : PnAt h p r pd) {t : Nat} (ht : t < 24) : alI h (p + 1) (nI t) = some (nI (pC pd t)) := by rw [H.eq, r2_1]; exact rdA_nI _ ht (by decide)
theorem pn_n (H : PnAt h p r pd) : alen h (p + 1) = some (nI 24) := by rw [H.eq]; exact n2_1
theorem c_cellOf (H : PnAt h p r pd) (R0 : RoadAt h r d) (hd : rdOk d) {k q : Nat} (hk : k < rP d) (hq : q < rE d) : mc 54 [.ref p, .int (nI k), .int (nI q)] h = some (some (.int (nI (pC pd (k * rE d + q)))), h) := by
  have h24 := cells_le hd
  have hkE : k * rE d + rE d ≤ rP d * rE d := by rw [← Nat.succ_mul]; exact Nat.mul_le_mul hk (Nat.le_refl _)
  rw [M54]
  simp only [pn_2 H, rd_1 R0, obd_some, obd_none, Option.toList_some, Option.toList_none, List.cons_append, List.nil_append, cond_true, cond_false, nI_mul, nJ_add, pn_5 H, pn_n H]
  rw [if_neg (show ¬ nI (k * rE d + q) < 0 by rw [nI_lt0 (by omega)]; exact id), if_pos (show nI (k * rE d + q) < nI 24 by rw [nJ_lt (by omega) (by omega)]; omega), pn_a H (by omega), obd_some]
def rdn (c : Nat → Nat) : Nat → Nat := cntB fun i => !(c i == 0)
theorem l_ridden (H : PnAt h p r pd) (hc : ∀ i, pC pd i ≤ 2) : ∀ m i, i + m = 24 → R 1 133 4 [some (.ref p), some (.int (nI (rdn (pC pd) i))), some (.int (nI i))] [] h = some (some (.int (nI (rdn (pC pd) 24))), h) := by
  intro m
  induction m with
  | zero =>
    intro i hi
    obtain rfl : i = 24 := hi
    rw [B133_4, pn_5 H, obd_some, pn_n H, obd_some, if_neg (show ¬ nI 24 < nI 24 by decide)]
  | succ m ih =>
    intro i him
    have hci := hc i
    rw [B133_4, pn_5 H, obd_some, pn_n H, obd_some, if_pos (show nI i < nI 24 by rw [nJ_lt (by omega) (by omega)]; omega), obd_some, pn_a H (by omega), obd_some, nJ_add, nJ_add, nJ_add]
    have e : rdn (pC pd) (i + 1) = rdn (pC pd) i + if pC pd i = 0 then 0 else 1 := by
      unfold rdn
      rw [cntB]
      by_cases c : pC pd i = 0
      · rw [if_pos c, c]; rfl
      · rw [if_neg c, show (pC pd i == 0) = false from beq_eq_false_iff_ne.mpr c]; rfl
    by_cases c : pC pd i = 0
    · rw [if_pos c] at e
      rw [if_pos (show nI (pC pd i) = 0 by rw [c]; rfl), ← e]
      exact ih (i + 1) (by omega)
    · rw [if_neg c] at e
      rw [if_neg (show ¬ nI (pC pd i) = 0 by rw [nI_eq0 (by omega)]; exact c), ← e]
      exact ih (i + 1) (by omega)
theorem c_ridden (H : PnAt h p r pd) (hc : ∀ i, pC pd i ≤ 2) : mc 133 [.ref p] h = some (some (.int (nI (rdn (pC pd) 24))), h) := by
  rw [M133]
  exact l_ridden H hc 24 0 rfl
/-- what is wrong with a plan -/
def wrP (d : jRD) (pd : jPD) : Option Nat := wrOn d (pC pd) (pG pd) (pM pd) (rP d) 0
theorem pl_env (H : PlanAt h p r pd) (R0 : RoadAt h r d) (hd : rdOk d) : jEnv h (p + 2) r d (p + 1) (cA (pC pd) 1) := by
  obtain ⟨h1, AJ, h2, h3⟩ := H
  exact ⟨R0, hd, by have := R0.apart h2 (R0.nc h2 (by decide)); simp only [oN] at this; omega, h1.celli (i := 1) (by decide) (by decide), by omega⟩
theorem c_planTravel (H : PlanAt h p r pd) (R0 : RoadAt h r d) (hd : rdOk d) (hp : plOk d pd) : ∃ AJ2, mc 56 [.ref p] h = some (some (.int (cmI (wrP d pd))), jJ h (p + 2) r AJ2) ∧ Z0 AJ2 ∧ (wrP d pd = none → Trip d (pC pd) (pG pd) (pM pd) AJ2 (rP d)) := by
  have hE := pl_env H R0 hd
  obtain ⟨h1, AJ, h2, h3⟩ := H
  have hg : pG pd ≤ rP d := Nat.le_of_lt hp.2.1
  obtain ⟨AJ2, e1, e2, e3⟩ := c_travel (A := AJ) hE hg hp.2.2.1 hp.2.2.2.1 (fun i _ => rfl) h3
  have h2' : jJ h (p + 2) r AJ = h := h2
  rw [h2'] at e1
  refine ⟨AJ2, ?_, e2, e3⟩
  rw [M56, pn_6 h1, obd_some, pn_5 h1, obd_some, pn_3 h1, obd_some, pn_4 h1, obd_some, show gO h (p + 2) 1 = some (oF 1 (p + 2) (jF r)) by rw [h2.eq]; exact gO_hX _ _ _ _ _, obd_some, e1]
  simp only [obd_some, obd_none, Option.toList_some, Option.toList_none, List.cons_append, List.nil_append, cond_true, cond_false, B56_19]
  rfl
end PlanRows
section SheetRows4
variable {h : jHp} {b p : Nat} {d : jSD} {F : Nat → Value} {A : Nat → Nat → Int32}
def cpA (A : Nat → Nat → Int32) (f : Nat → Int32) (i n : Nat) : Nat → Nat → Int32 := fun a t => if a = 1 ∧ t < n then f (i + t) else A a t
theorem cpA_s (A : Nat → Nat → Int32) (f : Nat → Int32) (i n : Nat) : uA (cpA A f i n) 1 n (f (i + n)) = cpA A f i (n + 1) := by
  funext a t
  unfold uA cpA
  by_cases e : a = 1 ∧ t = n
  · rw [if_pos e, if_pos (by omega), e.2]
  · rw [if_neg e]
    by_cases e2 : a = 1 ∧ t < n
    · rw [if_pos e2, if_pos (by omega)]
    · rw [if_neg e2, if_neg (by omega)]
theorem l_copyTo (H : SheetAt h b d) (hd : sdOk d) (P : At 2 h p F A) {i n : Nat} (hn : i + n ≤ sN d) (h24 : n ≤ 24) : ∀ m j, j + m = n → R 2 50 3 [some (.ref b), some (.int (nI i)), some (.ref (p + 1)), some (.int (nI n)), some (.int (nI j))] [] (hX 2 h p F (cpA A (sC d) i j)) = some (none, hX 2 h p F (cpA A (sC d) i n)) := by
  have h1 := hd.1
  intro m
  induction m with
  | zero =>
    intro j hj
    obtain rfl : j = n := hj
    rw [B50_3, if_neg (show ¬ nI j < nI j from Int32.lt_irrefl), B50_34]
  | succ m ih =>
    intro j hjm
    have H1 : SheetAt (hX 2 h p F (cpA A (sC d) i j)) b d := H.mvc P (by decide) _ _
    rw [B50_3, if_pos (show nI j < nI n by rw [nJ_lt (by omega) (by omega)]; omega), n2_1, obd_some, if_pos (show nI j < nI 24 by rw [nJ_lt (by omega) (by omega)]; omega), sh_o H1, obd_some, nJ_add, c_at H1 hd (show i + j < sN d by omega)]
    simp only [obd_some, obd_none, Option.toList_some, Option.toList_none, List.cons_append, List.nil_append, cond_true, cond_false, B50_27]
    rw [w2_1 _ (show j < 24 by omega), obd_some, uA_eq, cpA_s, nJ_add]
    exact ih (j + 1) (by omega)
theorem c_copyTo (H : SheetAt h b d) (hd : sdOk d) (P : At 2 h p F A) {i n : Nat} (hn : i + n ≤ sN d) (h24 : n ≤ 24) : mc 50 [.ref b, .int (nI i), .ref (p + 1), .int (nI n)] h = some (none, hX 2 h p F (cpA A (sC d) i n)) := by
  rw [M50]
  have g := l_copyTo H hd P hn h24 n 0 (Nat.zero_add _)
  rw [show cpA A (sC d) i 0 = A by funext a t; unfold cpA; rw [if_neg (by omega)], show hX 2 h p F A = h from P] at g
  exact g
end SheetRows4
