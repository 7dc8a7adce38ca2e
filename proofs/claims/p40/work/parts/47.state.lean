/-! The class's object with all that it has. -/
/-- a plan: its kind, road, gate, minutes, cells -/
abbrev jPD : Type := Nat × Nat × Nat × Nat × (Nat → Nat)
def pK (p : jPD) : Nat := p.1
def pX (p : jPD) : Nat := p.2.1
def pG (p : jPD) : Nat := p.2.2.1
def pM (p : jPD) : Nat := p.2.2.2.1
def pC (p : jPD) : Nat → Nat := p.2.2.2.2
/-- what a run has come to: roads, gone, plans, sheets, trace, fault -/
abbrev jST : Type := Nat × (Nat → jRD) × Nat × Nat × (Nat → jPD) × (Nat → jSD) × Int32 × Nat
def zn (S : jST) : Nat := S.1
def zD (S : jST) : Nat → jRD := S.2.1
def zg (S : jST) : Nat := S.2.2.1
def zm (S : jST) : Nat := S.2.2.2.1
def zP (S : jST) : Nat → jPD := S.2.2.2.2.1
def zS (S : jST) : Nat → jSD := S.2.2.2.2.2.1
def zt (S : jST) : Int32 := S.2.2.2.2.2.2.1
def zf (S : jST) : Nat := S.2.2.2.2.2.2.2
def plOk (d : jRD) (p : jPD) : Prop := pK p < 3 ∧ pG p < rP d ∧ pM p ≤ 60 ∧ (∀ i, pC p i ≤ rB d) ∧ ∀ i, rP d * rE d ≤ i → pC p i = 0
/-- a road as a text tells it -/
def rdGo (d : jRD) : Prop := rdOk d ∧ 0 < rP d ∧ 0 < rE d ∧ ∀ k, k < rP d → 0 < rM d k
def stOk (S : jST) : Prop := zn S ≤ 3 ∧ zm S ≤ 10 ∧ zg S ≤ 12 ∧ zf S ≤ 4 ∧ (∀ i, i < zn S → rdGo (zD S i)) ∧ (∀ q, q < zm S → pX (zP S q) < zn S ∧ plOk (zD S (pX (zP S q))) (zP S q)) ∧ ∀ k, k < 4 → sdOk (zS S k)
def xF (x : Nat) (S : jST) (dr : Nat) : Nat → Value := fun k => match k with
  | 0 => .ref (x + 1) | 1 => .ref (x + 2) | 2 => .ref (x + 3) | 3 => .ref (x + 4) | 4 => .ref (x + 5) | 5 => .ref dr
  | 6 => .int (nI (zn S)) | 7 => .int (nI (zm S)) | 8 => .int (nI (zg S)) | 9 => .int (zt S) | 10 => .int (nI (zf S)) | _ => .int 0
/-- an array of references whose first m are told -/
def TbAt (h : jHp) (a t n m : Nat) (f : Nat → Nat) : Prop := ∃ g, h.1 a = some (cR t n g) ∧ ∀ i, i < m → g i = some (f i)
def cA (c : Nat → Nat) : Nat → Nat → Int32 := fun i t => match i with | 1 => nI (c t) | _ => 0
def PlanAt (h : jHp) (p r : Nat) (pd : jPD) : Prop := At 2 h p (pnF p (pK pd) (pX pd) r (pG pd) (pM pd)) (cA (pC pd)) ∧ ∃ AJ, At 1 h (p + 2) (jF r) AJ ∧ Z0 AJ
def BestAt (h : jHp) (b r : Nat) (d : jRD) : Prop := ∃ rr ws lp lf A AJ, At 0 h b (bF r b rr ws lp lf) A ∧ At 1 h (b + 4) (jF r) AJ ∧ BestOk d rr ws lp lf A AJ
def wf (h : jHp) : Prop := ∀ a, h.2.1 ≤ a → h.1 a = none
def inj (n : Nat) (f : Nat → Nat) : Prop := ∀ i j, i < n → j < n → f i = f j → i = j
def XW (x : Nat) (S : jST) (dr : Nat) (ra ba pa : Nat → Nat) (h : jHp) : Prop :=
  At 7 h x (xF x S dr) zA ∧
  (TbAt h (x + 1) 4 3 (zn S) ra ∧ TbAt h (x + 2) 0 3 (zn S) ba ∧ TbAt h (x + 3) 12 10 (zm S) pa ∧ TbAt h (x + 4) 6 4 4 (fun k => x + 11 + 2 * k)) ∧
  (∃ q, ShareAt h (x + 5) q) ∧
  (∃ d0, RoadAt h dr d0 ∧ rdOk d0 ∧ rL d0 = none) ∧
  (∀ i, i < zn S → RoadAt h (ra i) (zD S i)) ∧
  (∀ i, i < zn S → BestAt h (ba i) (ra i) (zD S i)) ∧
  (∀ q, q < zm S → PlanAt h (pa q) (ra (pX (zP S q))) (zP S q)) ∧
  (∀ k, k < 4 → SheetAt h (x + 11 + 2 * k) (zS S k)) ∧
  (inj (zn S) ra ∧ (∀ i, i < zn S → ra i ≠ dr) ∧ inj (zn S) ba ∧ inj (zm S) pa) ∧ wf h
/-! blocks that lie apart -/
theorem At.cell0 {c : Nat} {h : jHp} {a : Nat} {F : Nat → Value} {A : Nat → Nat → Int32} (H : At c h a F A) : h.1 a = some (cO c (oF c a F)) := by
  rw [H.eq]; exact hX_0 c h a F A
theorem At.celli {c : Nat} {h : jHp} {a i : Nat} {F : Nat → Value} {A : Nat → Nat → Int32} (H : At c h a F A) (h0 : 0 < i) (h1 : i ≤ oN c) : h.1 (a + i) = some (cI (oSz c i) (A i)) := by
  rw [H.eq]; exact hX_i h0 h1
theorem At.nc {c d : Nat} {h : jHp} {a b : Nat} {F G : Nat → Value} {A E : Nat → Nat → Int32} (H : At c h a F A) (B : At d h b G E) (hn : c ≠ d) : a ≠ b := by
  rintro rfl
  have e := H.cell0.symm.trans B.cell0
  have e2 : (cO c (oF c a F)) = cO d (oF d a G) := Option.some.inj e
  have e3 : (c, oF c a F) = (d, oF d a G) := Sum.inl.inj e2
  exact hn (congrArg Prod.fst e3)
theorem At.apart {c d : Nat} {h : jHp} {a b : Nat} {F G : Nat → Value} {A E : Nat → Nat → Int32} (H : At c h a F A) (B : At d h b G E) (hn : a ≠ b) : a + oN c < b ∨ b + oN d < a := by
  refine Classical.byContradiction fun z => ?_
  by_cases q : a < b
  · have e := (H.celli (i := b - a) (by omega) (by omega)).symm
    rw [show a + (b - a) = b by omega] at e
    have e2 := e.trans B.cell0
    exact nomatch (Option.some.inj e2 : (cI _ _ : jCl) = cO _ _)
  · have e := (B.celli (i := a - b) (by omega) (by omega)).symm
    rw [show b + (a - b) = a by omega] at e
    have e2 := e.trans H.cell0
    exact nomatch (Option.some.inj e2 : (cI _ _ : jCl) = cO _ _)
theorem At.mv {c d : Nat} {h : jHp} {a b : Nat} {F G : Nat → Value} {A E : Nat → Nat → Int32} (H : At c h a F A) (B : At d h b G E) (hn : a ≠ b) (G' : Nat → Value) (E' : Nat → Nat → Int32) : At c (hX d h b G' E') a F A := H.out (H.apart B hn)
theorem At.mvc {c d : Nat} {h : jHp} {a b : Nat} {F G : Nat → Value} {A E : Nat → Nat → Int32} (H : At c h a F A) (B : At d h b G E) (hn : c ≠ d) (G' : Nat → Value) (E' : Nat → Nat → Int32) : At c (hX d h b G' E') a F A := H.mv B (H.nc B hn) G' E'
theorem At.cells {d : Nat} {h : jHp} {b q : Nat} {G : Nat → Value} {E : Nat → Nat → Int32} (B : At d h b G E) (h1 : b ≤ q) (h2 : q ≤ b + oN d) : (∃ F, h.1 q = some (cO d F)) ∨ ∃ n f, h.1 q = some (cI n f) := by
  by_cases e : q = b
  · subst e; exact Or.inl ⟨_, B.cell0⟩
  · have e := B.celli (i := q - b) (by omega) (by omega)
    rw [show b + (q - b) = q by omega] at e
    exact Or.inr ⟨_, _, e⟩
theorem cR_mv {d : Nat} {h : jHp} {b q t n : Nat} {g : Nat → Option Nat} {G : Nat → Value} {E : Nat → Nat → Int32} (e : h.1 q = some (cR t n g)) (B : At d h b G E) (G' : Nat → Value) (E' : Nat → Nat → Int32) : (hX d h b G' E').1 q = some (cR t n g) := by
  rw [hX_out, e]
  refine Classical.byContradiction fun z => ?_
  rcases B.cells (q := q) (by omega) (by omega) with ⟨F, e2⟩ | ⟨n, f, e2⟩
  · exact nomatch (Option.some.inj (e.symm.trans e2) : (cR _ _ _ : jCl) = cO _ _)
  · exact nomatch (Option.some.inj (e.symm.trans e2) : (cR _ _ _ : jCl) = cI _ _)
theorem tb_mv {d : Nat} {h : jHp} {b q t n m : Nat} {f : Nat → Nat} {G : Nat → Value} {E : Nat → Nat → Int32} (e : TbAt h q t n m f) (B : At d h b G E) (G' : Nat → Value) (E' : Nat → Nat → Int32) : TbAt (hX d h b G' E') q t n m f := by
  obtain ⟨g, e1, e2⟩ := e
  exact ⟨g, cR_mv e1 B G' E', e2⟩
theorem cS_mv {d : Nat} {h : jHp} {b q n : Nat} {g : Nat → Int32} {G : Nat → Value} {E : Nat → Nat → Int32} (e : h.1 q = some (cS n g)) (B : At d h b G E) (G' : Nat → Value) (E' : Nat → Nat → Int32) : (hX d h b G' E').1 q = some (cS n g) := by
  rw [hX_out, e]
  refine Classical.byContradiction fun z => ?_
  rcases B.cells (q := q) (by omega) (by omega) with ⟨F, e2⟩ | ⟨n, f, e2⟩
  · exact nomatch (Option.some.inj (e.symm.trans e2) : (cS _ _ : jCl) = cO _ _)
  · exact nomatch (Option.some.inj (e.symm.trans e2) : (cS _ _ : jCl) = cI _ _)
theorem wf_lt {d : Nat} {h : jHp} {b q : Nat} {G : Nat → Value} {E : Nat → Nat → Int32} (w : wf h) (B : At d h b G E) (h1 : b ≤ q) (h2 : q ≤ b + oN d) : q < h.2.1 := by
  refine Classical.byContradiction fun z => ?_
  have e := w q (by omega)
  rcases B.cells h1 h2 with ⟨F, e2⟩ | ⟨n, f, e2⟩ <;> (rw [e] at e2; cases e2)
theorem wf_mv {d : Nat} {h : jHp} {b : Nat} {G : Nat → Value} {E : Nat → Nat → Int32} (w : wf h) (B : At d h b G E) (G' : Nat → Value) (E' : Nat → Nat → Int32) : wf (hX d h b G' E') := by
  intro a ha
  have ha : h.2.1 ≤ a := ha
  rw [hX_out]
  · exact w a ha
  · have := wf_lt w B (q := b + oN d) (by omega) (Nat.le_refl _)
    omega
/-! the law's own arrays, and the script: cells that lie in no object's block -/
def Fre (h : jHp) (q : Nat) : Prop := ∀ b c F, h.1 b = some (cO c F) → q < b ∨ b + oN c < q
/-- every object's block lies in the heap -/
def W2 (h : jHp) : Prop := ∀ b c F, h.1 b = some (cO c F) → b + oN c < h.2.1
def La (h : jHp) (q n : Nat) (f : Nat → Int32) : Prop := h.1 q = some (cI n f) ∧ Fre h q
def Sa (h : jHp) (q n : Nat) (f : Nat → Int32) : Prop := h.1 q = some (cS n f) ∧ W2 h
theorem cO_in {c d : Nat} {F G : Nat → Value} (e : some (cO c F) = some (cO d G)) : c = d := by
  have e2 : (c, F) = (d, G) := Sum.inl.inj (Option.some.inj e)
  exact congrArg Prod.fst e2
theorem obj_hX {d : Nat} {h : jHp} {b a c : Nat} {G G' F : Nat → Value} {E E' : Nat → Nat → Int32} (B : At d h b G E) (e : (hX d h b G' E').1 a = some (cO c F)) : ∃ F', h.1 a = some (cO c F') := by
  by_cases ho : a < b ∨ b + oN d < a
  · rw [hX_out ho] at e; exact ⟨F, e⟩
  · by_cases q : a = b
    · subst q
      have e0 : some (cO d (oF d a G')) = some (cO c F) := (hX_0 d h a G' E').symm.trans e
      rw [← cO_in e0]
      exact ⟨_, B.cell0⟩
    · have e1 := hX_i (c := d) (h := h) (b := b) (i := a - b) (F := G') (A := E') (by omega) (by omega)
      rw [show b + (a - b) = a by omega, e] at e1
      exact nomatch (Option.some.inj e1 : (cO _ _ : jCl) = cI _ _)
theorem La.mvc {d : Nat} {h : jHp} {b q n : Nat} {f : Nat → Int32} {G : Nat → Value} {E : Nat → Nat → Int32} (H : La h q n f) (B : At d h b G E) (_ : 8 ≠ d) (G' : Nat → Value) (E' : Nat → Nat → Int32) : La (hX d h b G' E') q n f :=
  ⟨by rw [hX_out (H.2 b d _ B.cell0)]; exact H.1, fun b' c F e => by obtain ⟨F', e'⟩ := obj_hX B e; exact H.2 b' c F' e'⟩
theorem Sa.mvc {d : Nat} {h : jHp} {b q n : Nat} {f : Nat → Int32} {G : Nat → Value} {E : Nat → Nat → Int32} (H : Sa h q n f) (B : At d h b G E) (G' : Nat → Value) (E' : Nat → Nat → Int32) : Sa (hX d h b G' E') q n f :=
  ⟨cS_mv H.1 B G' E', fun b' c F e => by obtain ⟨F', e'⟩ := obj_hX B e; exact H.2 b' c F' e'⟩
/-- what a call leaves as it was -/
def Keep (h h' : jHp) : Prop := (∀ q n f, La h q n f → La h' q n f) ∧ (∀ q n f, Sa h q n f → Sa h' q n f) ∧ h.2.1 ≤ h'.2.1 ∧ h'.2.1 ≤ h.2.1 + 20 ∧ h.2.2 ≤ h'.2.2 ∧ h'.2.2 ≤ h.2.2 + 600
theorem Keep.id (h : jHp) : Keep h h := ⟨fun _ _ _ H => H, fun _ _ _ e => e, Nat.le_refl _, Nat.le_add_right _ _, Nat.le_refl _, Nat.le_add_right _ _⟩
theorem Keep.mv {d : Nat} {h : jHp} {b : Nat} {G : Nat → Value} {E : Nat → Nat → Int32} (B : At d h b G E) (hn : d ≠ 8) (G' : Nat → Value) (E' : Nat → Nat → Int32) : Keep h (hX d h b G' E') :=
  ⟨fun _ _ _ H => H.mvc B (fun z => hn z.symm) G' E', fun _ _ _ e => e.mvc B G' E', Nat.le_refl _, Nat.le_add_right _ _, Nat.le_refl _, Nat.le_add_right _ _⟩
/-- without new objects -/
def Keep0 (h h' : jHp) : Prop := (∀ q n f, La h q n f → La h' q n f) ∧ (∀ q n f, Sa h q n f → Sa h' q n f) ∧ h'.2 = h.2
theorem Keep0.id (h : jHp) : Keep0 h h := ⟨fun _ _ _ H => H, fun _ _ _ e => e, rfl⟩
theorem Keep0.mv {d : Nat} {h : jHp} {b : Nat} {G : Nat → Value} {E : Nat → Nat → Int32} (B : At d h b G E) (hn : d ≠ 8) (G' : Nat → Value) (E' : Nat → Nat → Int32) : Keep0 h (hX d h b G' E') :=
  ⟨fun _ _ _ H => H.mvc B (fun z => hn z.symm) G' E', fun _ _ _ e => e.mvc B G' E', rfl⟩
theorem Keep0.tr {h h1 h2 : jHp} (a : Keep0 h h1) (b : Keep0 h1 h2) : Keep0 h h2 := ⟨fun _ _ _ H => b.1 _ _ _ (a.1 _ _ _ H), fun _ _ _ e => b.2.1 _ _ _ (a.2.1 _ _ _ e), b.2.2.trans a.2.2⟩
theorem Keep0.keep {h h1 : jHp} (a : Keep0 h h1) : Keep h h1 := ⟨a.1, a.2.1, by rw [a.2.2]; exact Nat.le_refl _, by rw [a.2.2]; omega, by rw [a.2.2]; exact Nat.le_refl _, by rw [a.2.2]; omega⟩
