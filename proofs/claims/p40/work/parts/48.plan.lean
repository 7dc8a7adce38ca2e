/-! PLANS of the class. -/
abbrev PnAt (h : jHp) (p r : Nat) (pd : jPD) : Prop := At 2 h p (pnF p (pK pd) (pX pd) r (pG pd) (pM pd)) (cA (pC pd))
section PlanRows
variable {h : jHp} {p r : Nat} {pd : jPD} {d : jRD}
theorem pn_0 (H : PnAt h p r pd) : gI h p 2 0 = some (nI (pK pd)) := by rw [H.eq]; exact x2_0
theorem pn_1 (H : PnAt h p r pd) : gI h p 2 1 = some (nI (pX pd)) := by rw [H.eq]; exact x2_1
theorem pn_2 (H : PnAt h p r pd) : gA h p 2 2 = some r := by rw [H.eq]; exact x2_2
theorem pn_3 (H : PnAt h p r pd) : gI h p 2 3 = some (nI (pG pd)) := by rw [H.eq]; exact x2_3
theorem pn_4 (H : PnAt h p r pd) : gI h p 2 4 = some (nI (pM pd)) := by rw [H.eq]; exact x2_4
theorem pn_5 (H : PnAt h p r pd) : gA h p 2 5 = some (p + 1) := by rw [H.eq]; exact x2_5
theorem pn_6 (H : PnAt h p r pd) : gA h p 2 6 = some (p + 2) := by rw [H.eq]; exact x2_6
theorem pn_o (H : PnAt h p r pd) : gO h p 2 = some (oF 2 p (pnF p (pK pd) (pX pd) r (pG pd) (pM pd))) := by rw [H.eq]; exact gO_hX _ _ _ _ _
theorem pn_a (H : PnAt h p r pd) {t : Nat} (ht : t < 24) : alI h (p + 1) (nI t) = some (nI (pC pd t)) := by rw [H.eq, r2_1]; exact rdA_nI _ ht (by decide)
theorem pn_n (H : PnAt h p r pd) : alen h (p + 1) = some (nI 24) := by rw [H.eq]; exact n2_1
def rdn (c : Nat → Nat) : Nat → Nat := cntB fun i => !(c i == 0)
/-- what is wrong with a plan -/
def wrP (d : jRD) (pd : jPD) : Option Nat := wrOn d (pC pd) (pG pd) (pM pd) (rP d) 0
theorem pl_env (H : PlanAt h p r pd) (R0 : RoadAt h r d) (hd : rdOk d) : jEnv h (p + 2) r d (p + 1) (cA (pC pd) 1) := by
  obtain ⟨h1, AJ, h2, h3⟩ := H
  exact ⟨R0, hd, by have := R0.apart h2 (R0.nc h2 (by decide)); simp only [oN] at this; omega, h1.celli (i := 1) (by decide) (by decide), by omega⟩
end PlanRows
section SheetRows4
variable {h : jHp} {b p : Nat} {d : jSD} {F : Nat → Value} {A : Nat → Nat → Int32}
def cpA (A : Nat → Nat → Int32) (f : Nat → Int32) (i n : Nat) : Nat → Nat → Int32 := fun a t => if a = 1 ∧ t < n then f (i + t) else A a t
theorem cpA_s (A : Nat → Nat → Int32) (f : Nat → Int32) (i n : Nat) : uA (cpA A f i n) 1 n (f (i + n)) = cpA A f i (n + 1) := by
  funext a t
  unfold uA cpA
  by_cases e : a = 1 ∧ t = n
  · rw [if_pos e, if_pos (by omega), e.2]
  · rw [if_neg e]
    by_cases e2 : a = 1 ∧ t < n
    · rw [if_pos e2, if_pos (by omega)]
    · rw [if_neg e2, if_neg (by omega)]
end SheetRows4
