/-! The law's own arrays: reads, writes, new ones; what they leave. -/
def hL (h : jHp) (q n : Nat) (f : Nat → Int32) : jHp := hset h q (cI n f)
theorem la_r {h : jHp} {q n t : Nat} {f : Nat → Int32} (H : La h q n f) (ht : t < n) (hn : n < 1000) : alI h q (nI t) = some (f t) := by
  unfold alI aI
  rw [H.1]
  show (if nI t < 0 ∨ n ≤ (nI t).toNatClampNeg then none else some (f (nI t).toNatClampNeg)) = _
  rw [toNat_nI (by omega), if_neg]
  rintro (z | z)
  · exact nI_nneg (by omega) z
  · omega
theorem la_w {h : jHp} {q n t : Nat} {f : Nat → Int32} (x : Int32) (H : La h q n f) (ht : t < n) (hn : n < 1000) : asI h q (nI t) x = some (hL h q n (upd f t x)) := by
  unfold asI wI
  rw [H.1]
  show (if nI t < 0 ∨ n ≤ (nI t).toNatClampNeg then none else some (hset h q (cI n (upd f (nI t).toNatClampNeg x)))) = _
  rw [toNat_nI (by omega), if_neg]
  · rfl
  · rintro (z | z)
    · exact nI_nneg (by omega) z
    · omega
theorem hL_2 (h : jHp) (q n : Nat) (f : Nat → Int32) : (hL h q n f).2 = h.2 := rfl
theorem hL_hL (h : jHp) (q n m : Nat) (f g : Nat → Int32) : hL (hL h q n f) q m g = hL h q m g := by
  unfold hL hset
  refine Prod.ext ?_ rfl
  funext a
  dsimp only
  by_cases e : a = q
  · rw [if_pos e, if_pos e]
  · rw [if_neg e, if_neg e, if_neg e]
theorem hL_comm {h : jHp} {p q n m : Nat} {f g : Nat → Int32} (hn : p ≠ q) : hL (hL h p n f) q m g = hL (hL h q m g) p n f := by
  unfold hL hset
  refine Prod.ext ?_ rfl
  funext a
  dsimp only
  by_cases e : a = q
  · have e2 : ¬ a = p := fun z => hn (z.symm.trans e)
    rw [if_pos e, if_neg e2, if_pos e]
  · rw [if_neg e]
    by_cases e2 : a = p
    · rw [if_pos e2, if_pos e2]
    · rw [if_neg e2, if_neg e2, if_neg e]
section LaMv
variable {h : jHp} {q n : Nat} {f0 : Nat → Int32}
theorem obj_hL {a c : Nat} {F : Nat → Value} {g : Nat → Int32} (e : (hL h q n g).1 a = some (cO c F)) : h.1 a = some (cO c F) := by
  have e : (if a = q then some (cI n g) else h.1 a) = some (cO c F) := e
  by_cases z : a = q
  · rw [if_pos z] at e
    exact nomatch (Option.some.inj e : (cI _ _ : jCl) = cO _ _)
  · rw [if_neg z] at e; exact e
theorem La.own (H : La h q n f0) (g : Nat → Int32) : La (hL h q n g) q n g := ⟨if_pos rfl, fun b c F e => H.2 b c F (obj_hL e)⟩
theorem La.mvL {p m : Nat} {f : Nat → Int32} (H : La h p m f) (hn : p ≠ q) (g : Nat → Int32) : La (hL h q n g) p m f := ⟨(if_neg hn).trans H.1, fun b c F e => H.2 b c F (obj_hL e)⟩
theorem Sa.mvL {p m : Nat} {f : Nat → Int32} (H : Sa h p m f) (K : La h q n f0) (g : Nat → Int32) : Sa (hL h q n g) p m f := by
  refine ⟨(if_neg (fun z => ?_)).trans H.1, fun b c F e => H.2 b c F (obj_hL e)⟩
  subst z
  exact nomatch (Option.some.inj (K.1.symm.trans H.1) : (cI _ _ : jCl) = cS _ _)
theorem At.mvL {c b : Nat} {F : Nat → Value} {A : Nat → Nat → Int32} (H : At c h b F A) (K : La h q n f0) (g : Nat → Int32) : At c (hL h q n g) b F A := by
  have e1 : hX c h b F A = h := H
  have ho := K.2 b c _ H.cell0
  have e2 := hset_out (c := c) (h := h) (b := b) (F := F) (A := A) (cI n g) ho
  rw [e1] at e2
  exact e2.symm
theorem cR_mvL {a t k : Nat} {g0 : Nat → Option Nat} (e : h.1 a = some (cR t k g0)) (K : La h q n f0) (g : Nat → Int32) : (hL h q n g).1 a = some (cR t k g0) := by
  refine (if_neg (fun z => ?_)).trans e
  subst z
  exact nomatch (Option.some.inj (K.1.symm.trans e) : (cI _ _ : jCl) = cR _ _ _)
theorem TbAt.mvL {a t k m : Nat} {f : Nat → Nat} (H : TbAt h a t k m f) (K : La h q n f0) (g : Nat → Int32) : TbAt (hL h q n g) a t k m f := by
  obtain ⟨g0, e1, e2⟩ := H
  exact ⟨g0, cR_mvL e1 K g, e2⟩
theorem BestAt.mvL {b r : Nat} {D : jRD} (H : BestAt h b r D) (K : La h q n f0) (g : Nat → Int32) : BestAt (hL h q n g) b r D := by
  obtain ⟨rr, ws, lp, lf, A, AJ, e1, e2, e3⟩ := H
  exact ⟨rr, ws, lp, lf, A, AJ, e1.mvL K g, e2.mvL K g, e3⟩
theorem PlanAt.mvL {b r : Nat} {D : jPD} (H : PlanAt h b r D) (K : La h q n f0) (g : Nat → Int32) : PlanAt (hL h q n g) b r D := by
  obtain ⟨e1, AJ, e2, e3⟩ := H
  exact ⟨e1.mvL K g, AJ, e2.mvL K g, e3⟩
theorem wf_mvL (w : wf h) (K : La h q n f0) (g : Nat → Int32) : wf (hL h q n g) := by
  intro a ha
  have ha : h.2.1 ≤ a := ha
  refine (if_neg (fun z => ?_)).trans (w a ha)
  subst z
  have := w a ha
  rw [K.1] at this; cases this
theorem XW.mvL {x dr : Nat} {S : jST} {ra ba pa : Nat → Nat} (W : XW x S dr ra ba pa h) (K : La h q n f0) (g : Nat → Int32) : XW x S dr ra ba pa (hL h q n g) := by
  obtain ⟨w1, ⟨r1, r2, r3, r4⟩, ⟨z, w3⟩, ⟨d0, w4, w4b⟩, w5, w6, w7, w8, w9, w⟩ := W
  exact ⟨w1.mvL K g, ⟨r1.mvL K g, r2.mvL K g, r3.mvL K g, r4.mvL K g⟩, ⟨z, w3.mvL K g⟩, ⟨d0, w4.mvL K g, w4b⟩, fun i hi => (w5 i hi).mvL K g, fun i hi => (w6 i hi).mvL K g, fun i hi => (w7 i hi).mvL K g, fun k hk => (w8 k hk).mvL K g, w9, wf_mvL w K g⟩
end LaMv
/-- a heap with a new array at its end -/
def nwL (h : jHp) (n : Nat) : jHp := hnew h (cI n (fun _ => 0)) n
theorem newI_nw {h : jHp} {n : Nat} (hn : n ≤ 100000) : newI h (nI n) = some (nwL h n) := by
  unfold newI nwL
  rw [toNat_nI (by omega), if_neg (by rintro (q | q); exact nI_nneg (by omega) q; omega)]
section LaNw
variable {h : jHp} {n : Nat}
theorem cell_nw {q : Nat} {c : jCl} (e : h.1 q = some c) (w : wf h) : (nwL h n).1 q = some c := by
  have := wf_in w e
  show (if q = h.2.1 then _ else h.1 q) = _
  rw [if_neg (by omega)]; exact e
theorem obj_nw {a c : Nat} {F : Nat → Value} (e : (nwL h n).1 a = some (cO c F)) : h.1 a = some (cO c F) := by
  have e : (if a = h.2.1 then some (cI n fun _ => 0) else h.1 a) = some (cO c F) := e
  by_cases z : a = h.2.1
  · rw [if_pos z] at e
    exact nomatch (Option.some.inj e : (cI _ _ : jCl) = cO _ _)
  · rw [if_neg z] at e; exact e
theorem nw_hT : nwL h n = hT (hset h h.2.1 (cI n fun _ => 0)) (h.2.1 + 1) (h.2.2 + n) := rfl
theorem La.nw {p k : Nat} {f : Nat → Int32} (H : La h p k f) (w : wf h) : La (nwL h n) p k f := ⟨cell_nw H.1 w, fun b c F e => H.2 b c F (obj_nw e)⟩
theorem Sa.nw {p k : Nat} {f : Nat → Int32} (H : Sa h p k f) (w : wf h) : Sa (nwL h n) p k f := ⟨cell_nw H.1 w, fun b c F e => Nat.lt_succ_of_lt (H.2 b c F (obj_nw e))⟩
theorem nw_own {p k : Nat} {f : Nat → Int32} (H : Sa h p k f) : La (nwL h n) h.2.1 n (fun _ => 0) := ⟨if_pos rfl, fun b c F e => Or.inr (H.2 b c F (obj_nw e))⟩
theorem At.nw {c a : Nat} {F : Nat → Value} {A : Nat → Nat → Int32} (H : At c h a F A) (w : wf h) : At c (nwL h n) a F A := by
  have hl := wf_lt w H (q := a + oN c) (by omega) (Nat.le_refl _)
  have e1 : hX c h a F A = h := H
  show hX c _ a F A = _
  have e3 := hset_out (c := c) (h := h) (b := a) (F := F) (A := A) (a := h.2.1) (cI n fun _ => 0) (Or.inr hl)
  rw [e1] at e3
  rw [nw_hT, ← hT_hX, ← e3]
theorem TbAt.nw {a t k m : Nat} {f : Nat → Nat} (H : TbAt h a t k m f) (w : wf h) : TbAt (nwL h n) a t k m f := by
  obtain ⟨g0, e1, e2⟩ := H
  exact ⟨g0, cell_nw e1 w, e2⟩
theorem BestAt.nw {b r : Nat} {D : jRD} (H : BestAt h b r D) (w : wf h) : BestAt (nwL h n) b r D := by
  obtain ⟨rr, ws, lp, lf, A, AJ, e1, e2, e3⟩ := H
  exact ⟨rr, ws, lp, lf, A, AJ, e1.nw w, e2.nw w, e3⟩
theorem PlanAt.nw {b r : Nat} {D : jPD} (H : PlanAt h b r D) (w : wf h) : PlanAt (nwL h n) b r D := by
  obtain ⟨e1, AJ, e2, e3⟩ := H
  exact ⟨e1.nw w, AJ, e2.nw w, e3⟩
theorem wf_nw (w : wf h) : wf (nwL h n) := by
  intro a ha
  have ha : h.2.1 + 1 ≤ a := ha
  show (if a = h.2.1 then _ else h.1 a) = none
  rw [if_neg (by omega)]; exact w a (by omega)
theorem XW.nw {x dr : Nat} {S : jST} {ra ba pa : Nat → Nat} (W : XW x S dr ra ba pa h) : XW x S dr ra ba pa (nwL h n) := by
  obtain ⟨w1, ⟨r1, r2, r3, r4⟩, ⟨z, w3⟩, ⟨d0, w4, w4b⟩, w5, w6, w7, w8, w9, w⟩ := W
  exact ⟨w1.nw w, ⟨r1.nw w, r2.nw w, r3.nw w, r4.nw w⟩, ⟨z, w3.nw w⟩, ⟨d0, w4.nw w, w4b⟩, fun i hi => (w5 i hi).nw w, fun i hi => (w6 i hi).nw w, fun i hi => (w7 i hi).nw w, fun k hk => (w8 k hk).nw w, w9, wf_nw w⟩
end LaNw
theorem La.lt {h : jHp} {q n : Nat} {f : Nat → Int32} (H : La h q n f) (w : wf h) : q < h.2.1 := wf_in w H.1
/-- what a helper of the law leaves: all arrays that stood, the script, the object with all that it has -/
def KpL (h h' : jHp) : Prop := (∀ q n f, La h q n f → La h' q n f) ∧ (∀ q n f, Sa h q n f → Sa h' q n f) ∧ (∀ x S dr ra ba pa, XW x S dr ra ba pa h → XW x S dr ra ba pa h') ∧ (wf h → wf h') ∧ h.2.1 ≤ h'.2.1 ∧ h.2.2 ≤ h'.2.2
theorem KpL.id (h : jHp) : KpL h h := ⟨fun _ _ _ H => H, fun _ _ _ H => H, fun _ _ _ _ _ _ W => W, fun w => w, Nat.le_refl _, Nat.le_refl _⟩
theorem KpL.tr {h h1 h2 : jHp} (a : KpL h h1) (b : KpL h1 h2) : KpL h h2 := ⟨fun _ _ _ H => b.1 _ _ _ (a.1 _ _ _ H), fun _ _ _ H => b.2.1 _ _ _ (a.2.1 _ _ _ H), fun _ _ _ _ _ _ W => b.2.2.1 _ _ _ _ _ _ (a.2.2.1 _ _ _ _ _ _ W), fun w => b.2.2.2.1 (a.2.2.2.1 w), Nat.le_trans a.2.2.2.2.1 b.2.2.2.2.1, Nat.le_trans a.2.2.2.2.2 b.2.2.2.2.2⟩
theorem KpL.nw {h : jHp} (n : Nat) (w : wf h) : KpL h (nwL h n) := ⟨fun _ _ _ H => H.nw w, fun _ _ _ H => H.nw w, fun _ _ _ _ _ _ W => W.nw, fun w => wf_nw w, Nat.le_succ _, Nat.le_add_right _ _⟩
