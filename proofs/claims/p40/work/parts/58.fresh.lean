/-! New objects beside the old ones. -/
def KeepP (h h' : jHp) : Prop := (∀ q n f, La h q n f → La h' q n f) ∧ ∀ q n f, Sa h q n f → Sa h' q n f
theorem KeepP.id (h : jHp) : KeepP h h := ⟨fun _ _ _ H => H, fun _ _ _ e => e⟩
theorem KeepP.tr {h h1 h2 : jHp} (a : KeepP h h1) (b : KeepP h1 h2) : KeepP h h2 := ⟨fun _ _ _ H => b.1 _ _ _ (a.1 _ _ _ H), fun _ _ _ e => b.2 _ _ _ (a.2 _ _ _ e)⟩
theorem Keep0.P {h h1 : jHp} (a : Keep0 h h1) : KeepP h h1 := ⟨a.1, a.2.1⟩
theorem KeepP.keep {h h1 : jHp} (a : KeepP h h1) (h2 : h.2.1 ≤ h1.2.1) (h3 : h1.2.1 ≤ h.2.1 + 20) (h4 : h.2.2 ≤ h1.2.2) (h5 : h1.2.2 ≤ h.2.2 + 600) : Keep h h1 := ⟨a.1, a.2, h2, h3, h4, h5⟩
section Fresh
variable {h : jHp} {d s : Nat} {G : Nat → Value} {E : Nat → Nat → Int32}
/-- a heap with a new block at its end -/
def fr (d : Nat) (h : jHp) (s : Nat) (G : Nat → Value) (E : Nat → Nat → Int32) : jHp := hX d (hT h (h.2.1 + oN d + 1) s) h.2.1 G E
theorem At.mkT {c a : Nat} {F : Nat → Value} {A : Nat → Nat → Int32} (H : At c h a F A) (n s : Nat) : At c (hT h n s) a F A := by
  have e : hX c h a F A = h := H
  unfold At
  rw [← hT_hX, e]
theorem At.fr {c a : Nat} {F : Nat → Value} {A : Nat → Nat → Int32} (H : At c h a F A) (w : wf h) : At c (fr d h s G E) a F A := by
  have := wf_lt w H (q := a + oN c) (by omega) (Nat.le_refl _)
  exact (H.mkT _ _).out (Or.inl this)
theorem cell_fr {q : Nat} {c : jCl} (e : h.1 q = some c) (w : wf h) : (fr d h s G E).1 q = some c := by
  have : q < h.2.1 := by
    refine Classical.byContradiction fun z => ?_
    have := w q (by omega)
    rw [this] at e; cases e
  unfold fr
  rw [hX_out (Or.inl this)]
  exact e
theorem TbAt.fr {a t n m : Nat} {f : Nat → Nat} (H : TbAt h a t n m f) (w : wf h) : TbAt (fr d h s G E) a t n m f := by
  obtain ⟨g, e1, e2⟩ := H
  exact ⟨g, cell_fr e1 w, e2⟩
theorem BestAt.fr {b r : Nat} {D : jRD} (H : BestAt h b r D) (w : wf h) : BestAt (fr d h s G E) b r D := by
  obtain ⟨rr, ws, lp, lf, A, AJ, e1, e2, e3⟩ := H
  exact ⟨rr, ws, lp, lf, A, AJ, e1.fr w, e2.fr w, e3⟩
theorem PlanAt.fr {b r : Nat} {D : jPD} (H : PlanAt h b r D) (w : wf h) : PlanAt (fr d h s G E) b r D := by
  obtain ⟨e1, AJ, e2, e3⟩ := H
  exact ⟨e1.fr w, AJ, e2.fr w, e3⟩
theorem wf_fr (w : wf h) : wf (fr d h s G E) := by
  intro a ha
  have ha : h.2.1 + oN d + 1 ≤ a := ha
  unfold fr
  rw [hX_out (Or.inr (by omega))]
  exact w a (by omega)
theorem wf_in {h : jHp} {q : Nat} {c : jCl} (w : wf h) (e : h.1 q = some c) : q < h.2.1 := by
  refine Classical.byContradiction fun z => ?_
  have := w q (by omega)
  rw [this] at e; cases e
theorem obj_fr {a c : Nat} {F : Nat → Value} (w : wf h) (e : (fr d h s G E).1 a = some (cO c F)) : (a = h.2.1 ∧ c = d) ∨ (a < h.2.1 ∧ h.1 a = some (cO c F)) := by
  unfold fr at e
  by_cases ho : a < h.2.1 ∨ h.2.1 + oN d < a
  · rw [hX_out ho] at e
    have e : h.1 a = some (cO c F) := e
    exact Or.inr ⟨wf_in w e, e⟩
  · by_cases q : a = h.2.1
    · subst q
      exact Or.inl ⟨rfl, (cO_in ((hX_0 d (hT h (h.2.1 + oN d + 1) s) h.2.1 G E).symm.trans e)).symm⟩
    · have e1 := hX_i (c := d) (h := hT h (h.2.1 + oN d + 1) s) (b := h.2.1) (i := a - h.2.1) (F := G) (A := E) (by omega) (by omega)
      rw [show h.2.1 + (a - h.2.1) = a by omega, e] at e1
      exact nomatch (Option.some.inj e1 : (cO _ _ : jCl) = cI _ _)
theorem La.fr {q n : Nat} {f : Nat → Int32} (H : La h q n f) (w : wf h) : La (fr d h s G E) q n f :=
  ⟨cell_fr H.1 w, fun b c F e => by
    have hq := wf_in w H.1
    rcases obj_fr w e with ⟨rfl, -⟩ | ⟨-, e'⟩
    · exact Or.inl hq
    · exact H.2 b c F e'⟩
theorem Sa.fr {q n : Nat} {f : Nat → Int32} (H : Sa h q n f) (w : wf h) : Sa (fr d h s G E) q n f :=
  ⟨cell_fr H.1 w, fun b c F e => by
    show b + oN c < h.2.1 + oN d + 1
    rcases obj_fr w e with ⟨rfl, rfl⟩ | ⟨-, e'⟩
    · omega
    · have := H.2 b c F e'; omega⟩
theorem KeepP.fr (w : wf h) : KeepP h (fr d h s G E) := ⟨fun _ _ _ H => H.fr w, fun _ _ _ e => e.fr w⟩
theorem fr_own : At d (fr d h s G E) h.2.1 G E := At.own d (hT h (h.2.1 + oN d + 1) s) h.2.1 G E
theorem XW.fr {x dr : Nat} {S : jST} {ra ba pa : Nat → Nat} (W : XW x S dr ra ba pa h) : XW x S dr ra ba pa (fr d h s G E) := by
  obtain ⟨w1, ⟨r1, r2, r3, r4⟩, ⟨q, w3⟩, ⟨d0, w4, w4b⟩, w5, w6, w7, w8, w9, w⟩ := W
  exact ⟨w1.fr w, ⟨r1.fr w, r2.fr w, r3.fr w, r4.fr w⟩, ⟨q, w3.fr w⟩, ⟨d0, w4.fr w, w4b⟩, fun i hi => (w5 i hi).fr w, fun i hi => (w6 i hi).fr w, fun i hi => (w7 i hi).fr w, fun k hk => (w8 k hk).fr w, w9, wf_fr w⟩
end Fresh
section HSet
variable {h : jHp} {q t n : Nat} {g g' : Nat → Option Nat}
theorem At.hs {c a : Nat} {F : Nat → Value} {A : Nat → Nat → Int32} (H : At c h a F A) (e : h.1 q = some (cR t n g)) : At c (hset h q (cR t n g')) a F A := by
  have e1 : hX c h a F A = h := H
  have ho : q < a ∨ a + oN c < q := by
    refine Classical.byContradiction fun z => ?_
    rcases H.cells (q := q) (by omega) (by omega) with ⟨F, e2⟩ | ⟨n, f, e2⟩
    · exact nomatch (Option.some.inj (e.symm.trans e2) : (cR _ _ _ : jCl) = cO _ _)
    · exact nomatch (Option.some.inj (e.symm.trans e2) : (cR _ _ _ : jCl) = cI _ _)
  have e2 := hset_out (c := c) (h := h) (b := a) (F := F) (A := A) (cR t n g') ho
  rw [e1] at e2
  exact e2.symm
theorem cell_hs {a : Nat} {c : jCl} (e1 : h.1 a = some c) (hn : a ≠ q) (x : jCl) : (hset h q x).1 a = some c := by
  show (if a = q then some x else h.1 a) = _
  rw [if_neg hn]; exact e1
theorem cell_own (x : jCl) : (hset h q x).1 q = some x := if_pos rfl
theorem TbAt.hs {a t0 n0 m : Nat} {f : Nat → Nat} (H : TbAt h a t0 n0 m f) (e : h.1 q = some (cR t n g)) (hq : a ≠ q ∨ ∀ i, i < m → g' i = g i) : TbAt (hset h q (cR t n g')) a t0 n0 m f := by
  obtain ⟨g0, e1, e2⟩ := H
  by_cases c : a = q
  · subst c
    have e3 : (cR t0 n0 g0) = cR t n g := Option.some.inj (e1.symm.trans e)
    have e4 : (t0, n0, g0) = (t, n, g) := Sum.inl.inj (Sum.inr.inj (Sum.inr.inj e3))
    have a1 : t0 = t := congrArg (fun z => z.1) e4
    have a2 : n0 = n := congrArg (fun z => z.2.1) e4
    have a3 : g0 = g := congrArg (fun z => z.2.2) e4
    subst a1 a2 a3
    have hq := hq.resolve_left (fun z => z rfl)
    exact ⟨g', cell_own _, fun i hi => (hq i hi).trans (e2 i hi)⟩
  · exact ⟨g0, cell_hs e1 c _, e2⟩
theorem BestAt.hs {b r : Nat} {D : jRD} (H : BestAt h b r D) (e : h.1 q = some (cR t n g)) : BestAt (hset h q (cR t n g')) b r D := by
  obtain ⟨rr, ws, lp, lf, A, AJ, e1, e2, e3⟩ := H
  exact ⟨rr, ws, lp, lf, A, AJ, e1.hs e, e2.hs e, e3⟩
theorem PlanAt.hs {b r : Nat} {D : jPD} (H : PlanAt h b r D) (e : h.1 q = some (cR t n g)) : PlanAt (hset h q (cR t n g')) b r D := by
  obtain ⟨e1, AJ, e2, e3⟩ := H
  exact ⟨e1.hs e, AJ, e2.hs e, e3⟩
theorem wf_hs (w : wf h) (e : h.1 q = some (cR t n g)) : wf (hset h q (cR t n g')) := by
  intro a ha
  have ha : h.2.1 ≤ a := ha
  show (if a = q then _ else h.1 a) = none
  by_cases c : a = q
  · subst c
    have := w a ha
    rw [this] at e; cases e
  · rw [if_neg c]; exact w a ha
theorem obj_hs {a c : Nat} {F : Nat → Value} (e : (hset h q (cR t n g')).1 a = some (cO c F)) : h.1 a = some (cO c F) := by
  have e : (if a = q then some (cR t n g') else h.1 a) = some (cO c F) := e
  by_cases z : a = q
  · rw [if_pos z] at e
    exact nomatch (Option.some.inj e : (cR _ _ _ : jCl) = cO _ _)
  · rw [if_neg z] at e; exact e
theorem La.hs {p k : Nat} {f : Nat → Int32} (H : La h p k f) (e : h.1 q = some (cR t n g)) : La (hset h q (cR t n g')) p k f :=
  ⟨cell_hs H.1 (fun z => by
    subst z
    exact nomatch (Option.some.inj (e.symm.trans H.1) : (cR _ _ _ : jCl) = cI _ _)) _, fun b c F e2 => H.2 b c F (obj_hs e2)⟩
theorem Sa.hs {p k : Nat} {f : Nat → Int32} (H : Sa h p k f) (e : h.1 q = some (cR t n g)) : Sa (hset h q (cR t n g')) p k f :=
  ⟨cell_hs H.1 (fun z => by
    subst z
    exact nomatch (Option.some.inj (e.symm.trans H.1) : (cR _ _ _ : jCl) = cS _ _)) _, fun b c F e2 => H.2 b c F (obj_hs e2)⟩
theorem KeepP.hs (e : h.1 q = some (cR t n g)) : KeepP h (hset h q (cR t n g')) := ⟨fun _ _ _ H => H.hs e, fun _ _ _ H => H.hs e⟩
theorem XW.hs {x dr : Nat} {S : jST} {ra ba pa : Nat → Nat} (W : XW x S dr ra ba pa h) (e : h.1 q = some (cR t n g)) (h1 : x + 1 ≠ q ∨ ∀ i, i < zn S → g' i = g i) (h2 : x + 2 ≠ q ∨ ∀ i, i < zn S → g' i = g i) (h3 : x + 3 ≠ q ∨ ∀ i, i < zm S → g' i = g i) (h4 : x + 4 ≠ q) : XW x S dr ra ba pa (hset h q (cR t n g')) := by
  obtain ⟨w1, ⟨r1, r2, r3, r4⟩, ⟨z, w3⟩, ⟨d0, w4, w4b⟩, w5, w6, w7, w8, w9, w⟩ := W
  exact ⟨w1.hs e, ⟨r1.hs e h1, r2.hs e h2, r3.hs e h3, r4.hs e (Or.inl h4)⟩, ⟨z, w3.hs e⟩, ⟨d0, w4.hs e, w4b⟩, fun i hi => (w5 i hi).hs e, fun i hi => (w6 i hi).hs e, fun i hi => (w7 i hi).hs e, fun k hk => (w8 k hk).hs e, w9, wf_hs w e⟩
theorem asR_hs {o : Nat} {v : Nat} {F : Nat → Value} (e : h.1 q = some (cR t n g)) (ho : h.1 v = some (cO t F)) (h1 : o < n) (hn : n < 1000) : asR h q (nI o) v = some (hset h q (cR t n (va_up g o (some v)))) := by
  unfold asR gR
  rw [e]
  show (if nI o < 0 ∨ n ≤ (nI o).toNatClampNeg then none else (gO h v t).bind fun _ => some (hset h q (cR t n (va_up g (nI o).toNatClampNeg (some v))))) = _
  rw [toNat_nI (by omega), if_neg, gO_of ho, Option.bind_some]
  rintro (z | z)
  · exact nI_nneg (by omega) z
  · omega
end HSet
theorem gO_new {h : jHp} {a c k : Nat} (hn : a ≠ h.2.1) : gO (newO h c) a k = gO h a k := by
  have e : (newO h c).1 a = h.1 a := if_neg hn
  unfold gO; rw [e]
theorem gA_new {h : jHp} {a c k j : Nat} (hn : a ≠ h.2.1) : gA (newO h c) a k j = gA h a k j := by
  unfold gA; rw [gO_new hn]
theorem vaup_s (g : Nat → Option Nat) (o : Nat) (v : Option Nat) : va_up g o v o = v := if_pos rfl
theorem vaup_n {g : Nat → Option Nat} {o j : Nat} {v : Option Nat} (h : j ≠ o) : va_up g o v j = g j := if_neg h
