/-! The class's object is made. -/
def frR (t n : Nat) (h : jHp) : jHp := hnew h (cR t n (fun _ => none)) n
section FrR
variable {h : jHp} {t n : Nat}
theorem newR_fr (hn : n ≤ 100000) : newR h t (nI n) = some (frR t n h) := by
  unfold newR frR
  rw [toNat_nI (by omega), if_neg (by rintro (q | q); exact nI_nneg (by omega) q; omega)]
theorem cell_frR {q : Nat} {c : jCl} (e : h.1 q = some c) (w : wf h) : (frR t n h).1 q = some c := by
  have : q < h.2.1 := by
    refine Classical.byContradiction fun z => ?_
    have := w q (by omega)
    rw [this] at e; cases e
  show (if q = h.2.1 then _ else h.1 q) = _
  rw [if_neg (by omega)]; exact e
theorem own_frR : (frR t n h).1 h.2.1 = some (cR t n fun _ => none) := if_pos rfl
theorem wf_frR (w : wf h) : wf (frR t n h) := by
  intro a ha
  have ha : h.2.1 + 1 ≤ a := ha
  show (if a = h.2.1 then _ else h.1 a) = none
  rw [if_neg (by omega)]; exact w a (by omega)
theorem frR_hT : frR t n h = hT (hset h h.2.1 (cR t n fun _ => none)) (h.2.1 + 1) (h.2.2 + n) := rfl
theorem At.mkR {c a : Nat} {F : Nat → Value} {A : Nat → Nat → Int32} (H : At c h a F A) (w : wf h) : At c (frR t n h) a F A := by
  have hl := wf_lt w H (q := a + oN c) (by omega) (Nat.le_refl _)
  have e1 : hX c h a F A = h := H
  show hX c _ a F A = _
  have e3 := hset_out (c := c) (h := h) (b := a) (F := F) (A := A) (a := h.2.1) (cR t n fun _ => none) (Or.inr hl)
  rw [e1] at e3
  rw [frR_hT, ← hT_hX, ← e3]
theorem obj_mkR {a c : Nat} {F : Nat → Value} (e : (frR t n h).1 a = some (cO c F)) : h.1 a = some (cO c F) := by
  have e : (if a = h.2.1 then some (cR t n fun _ => none) else h.1 a) = some (cO c F) := e
  by_cases z : a = h.2.1
  · rw [if_pos z] at e
    exact nomatch (Option.some.inj e : (cR _ _ _ : jCl) = cO _ _)
  · rw [if_neg z] at e; exact e
theorem La.mkR {p k : Nat} {f : Nat → Int32} (H : La h p k f) (w : wf h) : La (frR t n h) p k f := ⟨cell_frR H.1 w, fun b c F e => H.2 b c F (obj_mkR e)⟩
theorem Sa.mkR {p k : Nat} {f : Nat → Int32} (H : Sa h p k f) (w : wf h) : Sa (frR t n h) p k f := ⟨cell_frR H.1 w, fun b c F e => Nat.lt_succ_of_lt (H.2 b c F (obj_mkR e))⟩
theorem KeepP.mkR (w : wf h) : KeepP h (frR t n h) := ⟨fun _ _ _ H => H.mkR w, fun _ _ _ e => e.mkR w⟩
theorem At.pF {c a k : Nat} {F : Nat → Value} {A : Nat → Nat → Int32} (H : At c h a F A) (e : oOff c k = 0) (v : Value) : pF h a c k v = some (hX c h a (updV F k v) A) := by
  have e2 := pF_hX (h := h) (b := a) (F := F) (A := A) v e
  rw [show hX c h a F A = h from H] at e2
  exact e2
end FrR
theorem newO_fr {h : jHp} {c : Nat} (h0 : oN c = 0) (e : ∀ k, oOff c k = 0) : newO h c = fr c h (h.2.2 + fNT c) (dflt c) zA := by
  rw [hB_new, hB_end (F' := dflt c) (m := 0) h0 (fun k => by unfold oF; rw [if_pos (e k)])]
  unfold fr
  rw [h0]
  rfl
theorem c_initShare (h : jHp) : mc 2 [.ref h.2.1] (newO h 5) = some (none, fr 5 h (h.2.2 + 2) (shF (0, 1)) zA) := by
  rw [M2, hB_new, hB_p, obd_some]
  refine congrArg (fun x => some (none, x)) (hB_end (m := 0) rfl (fun k => ?_))
  rcases nat9 k with rfl | rfl | rfl | rfl | rfl | rfl | rfl | rfl | rfl | ⟨t, rfl⟩
  all_goals rfl
def st0 : jST := (0, fun _ => rd0, 1, 0, fun _ => (0, 0, 0, 0, fun _ => 0), fun _ => sd0, 0, 0)
theorem st0_ok : stOk st0 := ⟨by decide, by decide, by decide, by decide, fun i hi => absurd hi (Nat.not_lt_zero i), fun q hq => absurd hq (Nat.not_lt_zero q), fun k _ => ⟨Nat.zero_le _, fun _ => rfl, fun l z => by cases z⟩⟩
/-- the object with so many of its sheets -/
def Ini (x k : Nat) (h : jHp) : Prop := At 7 h x (xF x st0 (x + 6)) zA ∧ TbAt h (x + 1) 4 3 0 (fun _ => 0) ∧ TbAt h (x + 2) 0 3 0 (fun _ => 0) ∧ TbAt h (x + 3) 12 10 0 (fun _ => 0) ∧ TbAt h (x + 4) 6 4 k (fun j => x + 11 + 2 * j) ∧ ShareAt h (x + 5) (0, 1) ∧ RoadAt h (x + 6) rd0 ∧ (∀ j, j < k → SheetAt h (x + 11 + 2 * j) sd0) ∧ wf h ∧ h.2.1 = x + 11 + 2 * k
theorem l_ini {x : Nat} : ∀ m k h, k + m = 4 → Ini x k h → ∃ h', R 2 1 66 [some (.ref x), some (.int (nI k))] [] h = some (none, h') ∧ Ini x 4 h' ∧ KeepP h h' ∧ h'.2.2 = h.2.2 + 123 * m := by
  intro m
  induction m with
  | zero =>
    intro k h hk I
    obtain rfl : k = 4 := hk
    exact ⟨h, by rw [B1_66, if_neg (show ¬ nI 4 < nI 4 by decide)], I, KeepP.id h, rfl⟩
  | succ m ih =>
    intro k h hk I
    obtain ⟨i1, i2, i3, i4, i5, i6, i7, i8, w, i9⟩ := I
    have eA : gA h x 7 3 = some (x + 4) := by rw [i1.eq]; exact gA_hX rfl
    have e1 : hX 6 (hT h (h.2.1 + 2) (h.2.2 + 3 + 120)) h.2.1 (sdF sd0) (sdA sd0) = fr 6 h (h.2.2 + 3 + 120) (sdF sd0) (sdA sd0) := rfl
    rw [B1_66, if_pos (show nI k < nI 4 by rw [nJ_lt (by omega) (by omega)]; omega), eA, obd_some, c_initSheet h, e1]
    simp only [obd_some, obd_none, Option.toList_some, Option.toList_none, List.cons_append, List.nil_append, cond_true, cond_false]
    have f5 : TbAt (fr 6 h (h.2.2 + 3 + 120) (sdF sd0) (sdA sd0)) (x + 4) 6 4 k (fun j => x + 11 + 2 * j) := i5.fr w
    have fN : SheetAt (fr 6 h (h.2.2 + 3 + 120) (sdF sd0) (sdA sd0)) h.2.1 sd0 := fr_own
    have fI : At 7 (fr 6 h (h.2.2 + 3 + 120) (sdF sd0) (sdA sd0)) x (xF x st0 (x + 6)) zA := i1.fr w
    have f2 : TbAt (fr 6 h (h.2.2 + 3 + 120) (sdF sd0) (sdA sd0)) (x + 1) 4 3 0 (fun _ => 0) := i2.fr w
    have f3 : TbAt (fr 6 h (h.2.2 + 3 + 120) (sdF sd0) (sdA sd0)) (x + 2) 0 3 0 (fun _ => 0) := i3.fr w
    have f4 : TbAt (fr 6 h (h.2.2 + 3 + 120) (sdF sd0) (sdA sd0)) (x + 3) 12 10 0 (fun _ => 0) := i4.fr w
    have f6 : ShareAt (fr 6 h (h.2.2 + 3 + 120) (sdF sd0) (sdA sd0)) (x + 5) (0, 1) := i6.fr w
    have f7 : RoadAt (fr 6 h (h.2.2 + 3 + 120) (sdF sd0) (sdA sd0)) (x + 6) rd0 := i7.fr w
    have f8 : ∀ j, j < k → SheetAt (fr 6 h (h.2.2 + 3 + 120) (sdF sd0) (sdA sd0)) (x + 11 + 2 * j) sd0 := fun j hj => (i8 j hj).fr w
    have fw : wf (fr 6 h (h.2.2 + 3 + 120) (sdF sd0) (sdA sd0)) := wf_fr w
    have fP : KeepP h (fr 6 h (h.2.2 + 3 + 120) (sdF sd0) (sdA sd0)) := KeepP.fr w
    have v : (fr 6 h (h.2.2 + 3 + 120) (sdF sd0) (sdA sd0)).2 = (h.2.1 + 2, h.2.2 + 123) := rfl
    generalize fr 6 h (h.2.2 + 3 + 120) (sdF sd0) (sdA sd0) = h1 at f5 fN fI f2 f3 f4 f6 f7 f8 fw fP v ⊢
    obtain ⟨g, e5, k5⟩ := f5
    have a := asR_hs (o := k) e5 fN.cell0 (show k < 4 by omega) (by decide)
    rw [B1_83, a, obd_some, nJ_add]
    have I2 : Ini x (k + 1) (hset h1 (x + 4) (cR 6 4 (va_up g k (some h.2.1)))) := by
      refine ⟨fI.hs e5, f2.hs e5 (Or.inl (by omega)), f3.hs e5 (Or.inl (by omega)), f4.hs e5 (Or.inl (by omega)), ⟨_, cell_own _, fun j hj => ?_⟩, f6.hs e5, f7.hs e5, fun j hj => ?_, wf_hs fw e5, ?_⟩
      · by_cases c : j = k
        · subst c; rw [vaup_s, i9]
        · rw [vaup_n c]; exact k5 j (by omega)
      · by_cases c : j = k
        · subst c; rw [← i9]; exact fN.hs e5
        · exact (f8 j (by omega)).hs e5
      · show h1.2.1 = _
        rw [v]; dsimp only; omega
    obtain ⟨h', q1, q2, q3, q4⟩ := ih (k + 1) _ (by omega) I2
    refine ⟨h', q1, q2, (fP.tr (KeepP.hs e5)).tr q3, ?_⟩
    rw [q4]
    show h1.2.2 + _ = _
    rw [v]; dsimp only; omega
theorem xF_0 (x : Nat) (k : Nat) : updV (updV (updV (updV (updV (updV (updV (dflt 7) 0 (.ref (x + 1))) 1 (.ref (x + 2))) 2 (.ref (x + 3))) 3 (.ref (x + 4))) 4 (.ref (x + 5))) 5 (.ref (x + 6))) 8 (.int (nI 1)) k = xF x st0 (x + 6) k := by
  match k with
  | 0 => rfl
  | 1 => rfl
  | 2 => rfl
  | 3 => rfl
  | 4 => rfl
  | 5 => rfl
  | 6 => rfl
  | 7 => rfl
  | 8 => rfl
  | 9 => rfl
  | 10 => rfl
  | k + 11 => rfl
theorem T_init {h : jHp} (w : wf h) : ∃ h', mc 1 [.ref h.2.1] (newO h 7) = some (none, h') ∧ XW h.2.1 st0 (h.2.1 + 6) (fun _ => 0) (fun _ => 0) (fun _ => 0) h' ∧ KeepP h h' ∧ h'.2 = (h.2.1 + 19, h.2.2 + 574) := by
  have e0 := newO_fr (h := h) (c := 7) rfl (fun _ => rfl)
  have A0 : At 7 (fr 7 h (h.2.2 + fNT 7) (dflt 7) zA) h.2.1 (dflt 7) zA := fr_own
  have w0 : wf (fr 7 h (h.2.2 + fNT 7) (dflt 7) zA) := wf_fr w
  have P0 : KeepP h (fr 7 h (h.2.2 + fNT 7) (dflt 7) zA) := KeepP.fr w
  have v0 : (fr 7 h (h.2.2 + fNT 7) (dflt 7) zA).2 = (h.2.1 + 1, h.2.2 + 11) := rfl
  rw [e0, M1]
  generalize fr 7 h (h.2.2 + fNT 7) (dflt 7) zA = h0 at A0 w0 P0 v0 ⊢
  generalize hx : h.2.1 = x at A0 v0 ⊢
  -- four arrays
  have A1 : At 7 (frR 4 3 h0) x (dflt 7) zA := A0.mkR w0
  have A1' := At.own 7 (frR 4 3 h0) x (updV (dflt 7) 0 (.ref (x + 1))) zA
  have w1 : wf (hX 7 (frR 4 3 h0) x (updV (dflt 7) 0 (.ref (x + 1))) zA) := wf_mv (wf_frR w0) A1 _ _
  have P1 : KeepP h (hX 7 (frR 4 3 h0) x (updV (dflt 7) 0 (.ref (x + 1))) zA) := (P0.tr (KeepP.mkR w0)).tr (Keep0.mv A1 (by decide) _ _).P
  have c1 : (hX 7 (frR 4 3 h0) x (updV (dflt 7) 0 (.ref (x + 1))) zA).1 (x + 1) = some (cR 4 3 fun _ => none) := cR_mv (by rw [show x + 1 = h0.2.1 by rw [v0]]; exact own_frR) A1 _ _
  have v1 : (hX 7 (frR 4 3 h0) x (updV (dflt 7) 0 (.ref (x + 1))) zA).2 = (h0.2.1 + 1, h0.2.2 + 3) := rfl
  rw [newR_fr (by decide), obd_some, show h0.2.1 = x + 1 by rw [v0], A1.pF rfl, obd_some]
  generalize hX 7 (frR 4 3 h0) x (updV (dflt 7) 0 (.ref (x + 1))) zA = h1 at A1' w1 P1 c1 v1 ⊢
  have u1 : h1.2 = (x + 2, h.2.2 + 14) := by rw [v1, v0]
  have A2 : At 7 (frR 0 3 h1) x (updV (dflt 7) 0 (.ref (x + 1))) zA := A1'.mkR w1
  have A2' := At.own 7 (frR 0 3 h1) x (updV (updV (dflt 7) 0 (.ref (x + 1))) 1 (.ref (x + 2))) zA
  have w2 : wf (hX 7 (frR 0 3 h1) x (updV (updV (dflt 7) 0 (.ref (x + 1))) 1 (.ref (x + 2))) zA) := wf_mv (wf_frR w1) A2 _ _
  have P2 : KeepP h (hX 7 (frR 0 3 h1) x (updV (updV (dflt 7) 0 (.ref (x + 1))) 1 (.ref (x + 2))) zA) := (P1.tr (KeepP.mkR w1)).tr (Keep0.mv A2 (by decide) _ _).P
  have c2 : (hX 7 (frR 0 3 h1) x (updV (updV (dflt 7) 0 (.ref (x + 1))) 1 (.ref (x + 2))) zA).1 (x + 2) = some (cR 0 3 fun _ => none) := cR_mv (by rw [show x + 2 = h1.2.1 by rw [u1]]; exact own_frR) A2 _ _
  have d1 : (hX 7 (frR 0 3 h1) x (updV (updV (dflt 7) 0 (.ref (x + 1))) 1 (.ref (x + 2))) zA).1 (x + 1) = some (cR 4 3 fun _ => none) := cR_mv (cell_frR c1 w1) A2 _ _
  have v2 : (hX 7 (frR 0 3 h1) x (updV (updV (dflt 7) 0 (.ref (x + 1))) 1 (.ref (x + 2))) zA).2 = (h1.2.1 + 1, h1.2.2 + 3) := rfl
  rw [newR_fr (by decide), obd_some, show h1.2.1 = x + 2 by rw [u1], A2.pF rfl, obd_some]
  generalize hX 7 (frR 0 3 h1) x (updV (updV (dflt 7) 0 (.ref (x + 1))) 1 (.ref (x + 2))) zA = h2 at A2' w2 P2 c2 d1 v2 ⊢
  have u2 : h2.2 = (x + 3, h.2.2 + 17) := by rw [v2, u1]
  have A3 : At 7 (frR 12 10 h2) x (updV (updV (dflt 7) 0 (.ref (x + 1))) 1 (.ref (x + 2))) zA := A2'.mkR w2
  have A3' := At.own 7 (frR 12 10 h2) x (updV (updV (updV (dflt 7) 0 (.ref (x + 1))) 1 (.ref (x + 2))) 2 (.ref (x + 3))) zA
  have w3 : wf (hX 7 (frR 12 10 h2) x (updV (updV (updV (dflt 7) 0 (.ref (x + 1))) 1 (.ref (x + 2))) 2 (.ref (x + 3))) zA) := wf_mv (wf_frR w2) A3 _ _
  have P3 : KeepP h (hX 7 (frR 12 10 h2) x (updV (updV (updV (dflt 7) 0 (.ref (x + 1))) 1 (.ref (x + 2))) 2 (.ref (x + 3))) zA) := (P2.tr (KeepP.mkR w2)).tr (Keep0.mv A3 (by decide) _ _).P
  have c3 : (hX 7 (frR 12 10 h2) x (updV (updV (updV (dflt 7) 0 (.ref (x + 1))) 1 (.ref (x + 2))) 2 (.ref (x + 3))) zA).1 (x + 3) = some (cR 12 10 fun _ => none) := cR_mv (by rw [show x + 3 = h2.2.1 by rw [u2]]; exact own_frR) A3 _ _
  have d2 : (hX 7 (frR 12 10 h2) x (updV (updV (updV (dflt 7) 0 (.ref (x + 1))) 1 (.ref (x + 2))) 2 (.ref (x + 3))) zA).1 (x + 1) = some (cR 4 3 fun _ => none) := cR_mv (cell_frR d1 w2) A3 _ _
  have d2' : (hX 7 (frR 12 10 h2) x (updV (updV (updV (dflt 7) 0 (.ref (x + 1))) 1 (.ref (x + 2))) 2 (.ref (x + 3))) zA).1 (x + 2) = some (cR 0 3 fun _ => none) := cR_mv (cell_frR c2 w2) A3 _ _
  have v3 : (hX 7 (frR 12 10 h2) x (updV (updV (updV (dflt 7) 0 (.ref (x + 1))) 1 (.ref (x + 2))) 2 (.ref (x + 3))) zA).2 = (h2.2.1 + 1, h2.2.2 + 10) := rfl
  rw [newR_fr (by decide), obd_some, show h2.2.1 = x + 3 by rw [u2], A3.pF rfl, obd_some]
  generalize hX 7 (frR 12 10 h2) x (updV (updV (updV (dflt 7) 0 (.ref (x + 1))) 1 (.ref (x + 2))) 2 (.ref (x + 3))) zA = h3 at A3' w3 P3 c3 d2 d2' v3 ⊢
  have u3 : h3.2 = (x + 4, h.2.2 + 27) := by rw [v3, u2]
  generalize hF3 : updV (updV (updV (dflt 7) 0 (.ref (x + 1))) 1 (.ref (x + 2))) 2 (.ref (x + 3)) = F3 at A3'
  have A4 : At 7 (frR 6 4 h3) x F3 zA := A3'.mkR w3
  have A4' := At.own 7 (frR 6 4 h3) x (updV F3 3 (.ref (x + 4))) zA
  have w4 : wf (hX 7 (frR 6 4 h3) x (updV F3 3 (.ref (x + 4))) zA) := wf_mv (wf_frR w3) A4 _ _
  have P4 : KeepP h (hX 7 (frR 6 4 h3) x (updV F3 3 (.ref (x + 4))) zA) := (P3.tr (KeepP.mkR w3)).tr (Keep0.mv A4 (by decide) _ _).P
  have c4 : (hX 7 (frR 6 4 h3) x (updV F3 3 (.ref (x + 4))) zA).1 (x + 4) = some (cR 6 4 fun _ => none) := cR_mv (by rw [show x + 4 = h3.2.1 by rw [u3]]; exact own_frR) A4 _ _
  have d3 : (hX 7 (frR 6 4 h3) x (updV F3 3 (.ref (x + 4))) zA).1 (x + 1) = some (cR 4 3 fun _ => none) := cR_mv (cell_frR d2 w3) A4 _ _
  have d3' : (hX 7 (frR 6 4 h3) x (updV F3 3 (.ref (x + 4))) zA).1 (x + 2) = some (cR 0 3 fun _ => none) := cR_mv (cell_frR d2' w3) A4 _ _
  have d3'' : (hX 7 (frR 6 4 h3) x (updV F3 3 (.ref (x + 4))) zA).1 (x + 3) = some (cR 12 10 fun _ => none) := cR_mv (cell_frR c3 w3) A4 _ _
  have v4 : (hX 7 (frR 6 4 h3) x (updV F3 3 (.ref (x + 4))) zA).2 = (h3.2.1 + 1, h3.2.2 + 4) := rfl
  rw [newR_fr (by decide), obd_some, show h3.2.1 = x + 4 by rw [u3], A4.pF rfl, obd_some]
  generalize hX 7 (frR 6 4 h3) x (updV F3 3 (.ref (x + 4))) zA = h4 at A4' w4 P4 c4 d3 d3' d3'' v4 ⊢
  have u4 : h4.2 = (x + 5, h.2.2 + 31) := by rw [v4, u3]
  have T1 : TbAt h4 (x + 1) 4 3 0 (fun _ => 0) := ⟨_, d3, fun i hi => absurd hi (Nat.not_lt_zero i)⟩
  have T2 : TbAt h4 (x + 2) 0 3 0 (fun _ => 0) := ⟨_, d3', fun i hi => absurd hi (Nat.not_lt_zero i)⟩
  have T3 : TbAt h4 (x + 3) 12 10 0 (fun _ => 0) := ⟨_, d3'', fun i hi => absurd hi (Nat.not_lt_zero i)⟩
  have T4 : TbAt h4 (x + 4) 6 4 0 (fun j => x + 11 + 2 * j) := ⟨_, c4, fun i hi => absurd hi (Nat.not_lt_zero i)⟩
  -- the share
  rw [B1_41, c_initShare h4]
  simp only [obd_some, obd_none, Option.toList_some, Option.toList_none, List.cons_append, List.nil_append, cond_true, cond_false]
  have A5 : At 7 (fr 5 h4 (h4.2.2 + 2) (shF (0, 1)) zA) x (updV F3 3 (.ref (x + 4))) zA := A4'.fr w4
  have s5 : ShareAt (fr 5 h4 (h4.2.2 + 2) (shF (0, 1)) zA) (x + 5) (0, 1) := by
    have e : ShareAt (fr 5 h4 (h4.2.2 + 2) (shF (0, 1)) zA) h4.2.1 (0, 1) := fr_own
    rw [show h4.2.1 = x + 5 by rw [u4]] at e; exact e
  have A5' := At.own 7 (fr 5 h4 (h4.2.2 + 2) (shF (0, 1)) zA) x (updV (updV F3 3 (.ref (x + 4))) 4 (.ref (x + 5))) zA
  have w5 : wf (hX 7 (fr 5 h4 (h4.2.2 + 2) (shF (0, 1)) zA) x (updV (updV F3 3 (.ref (x + 4))) 4 (.ref (x + 5))) zA) := wf_mv (wf_fr w4) A5 _ _
  have P5 : KeepP h (hX 7 (fr 5 h4 (h4.2.2 + 2) (shF (0, 1)) zA) x (updV (updV F3 3 (.ref (x + 4))) 4 (.ref (x + 5))) zA) := (P4.tr (KeepP.fr w4)).tr (Keep0.mv A5 (by decide) _ _).P
  have s5' : ShareAt (hX 7 (fr 5 h4 (h4.2.2 + 2) (shF (0, 1)) zA) x (updV (updV F3 3 (.ref (x + 4))) 4 (.ref (x + 5))) zA) (x + 5) (0, 1) := s5.mvc A5 (by decide) _ _
  have t1 := tb_mv (T1.fr (d := 5) (s := h4.2.2 + 2) (G := shF (0, 1)) (E := zA) w4) A5 (updV (updV F3 3 (.ref (x + 4))) 4 (.ref (x + 5))) zA
  have t2 := tb_mv (T2.fr (d := 5) (s := h4.2.2 + 2) (G := shF (0, 1)) (E := zA) w4) A5 (updV (updV F3 3 (.ref (x + 4))) 4 (.ref (x + 5))) zA
  have t3 := tb_mv (T3.fr (d := 5) (s := h4.2.2 + 2) (G := shF (0, 1)) (E := zA) w4) A5 (updV (updV F3 3 (.ref (x + 4))) 4 (.ref (x + 5))) zA
  have t4 := tb_mv (T4.fr (d := 5) (s := h4.2.2 + 2) (G := shF (0, 1)) (E := zA) w4) A5 (updV (updV F3 3 (.ref (x + 4))) 4 (.ref (x + 5))) zA
  have v5 : (hX 7 (fr 5 h4 (h4.2.2 + 2) (shF (0, 1)) zA) x (updV (updV F3 3 (.ref (x + 4))) 4 (.ref (x + 5))) zA).2 = (h4.2.1 + 1, h4.2.2 + 2) := rfl
  rw [B1_45, show h4.2.1 = x + 5 by rw [u4], A5.pF rfl, obd_some]
  generalize hX 7 (fr 5 h4 (h4.2.2 + 2) (shF (0, 1)) zA) x (updV (updV F3 3 (.ref (x + 4))) 4 (.ref (x + 5))) zA = h5 at A5' w5 P5 s5' t1 t2 t3 t4 v5 ⊢
  have u5 : h5.2 = (x + 6, h.2.2 + 33) := by rw [v5, u4]
  -- the draft
  rw [c_initRoad h5]
  have e6 : hX 4 (hT h5 (h5.2.1 + 5) (h5.2.2 + 9 + 6 + 6 + 16 + 12)) h5.2.1 (rdF rd0) (roA rd0) = fr 4 h5 (h5.2.2 + 49) (rdF rd0) (roA rd0) := rfl
  rw [e6]
  simp only [obd_some, obd_none, Option.toList_some, Option.toList_none, List.cons_append, List.nil_append, cond_true, cond_false]
  have A6 : At 7 (fr 4 h5 (h5.2.2 + 49) (rdF rd0) (roA rd0)) x (updV (updV F3 3 (.ref (x + 4))) 4 (.ref (x + 5))) zA := A5'.fr w5
  have r6 : RoadAt (fr 4 h5 (h5.2.2 + 49) (rdF rd0) (roA rd0)) (x + 6) rd0 := by
    have e : RoadAt (fr 4 h5 (h5.2.2 + 49) (rdF rd0) (roA rd0)) h5.2.1 rd0 := fr_own
    rw [show h5.2.1 = x + 6 by rw [u5]] at e; exact e
  have s6 : ShareAt (fr 4 h5 (h5.2.2 + 49) (rdF rd0) (roA rd0)) (x + 5) (0, 1) := s5'.fr w5
  have w6 : wf (fr 4 h5 (h5.2.2 + 49) (rdF rd0) (roA rd0)) := wf_fr w5
  have P6 : KeepP h (fr 4 h5 (h5.2.2 + 49) (rdF rd0) (roA rd0)) := P5.tr (KeepP.fr w5)
  have k1 := t1.fr (d := 4) (s := h5.2.2 + 49) (G := rdF rd0) (E := roA rd0) w5
  have k2 := t2.fr (d := 4) (s := h5.2.2 + 49) (G := rdF rd0) (E := roA rd0) w5
  have k3 := t3.fr (d := 4) (s := h5.2.2 + 49) (G := rdF rd0) (E := roA rd0) w5
  have k4 := t4.fr (d := 4) (s := h5.2.2 + 49) (G := rdF rd0) (E := roA rd0) w5
  have v6 : (fr 4 h5 (h5.2.2 + 49) (rdF rd0) (roA rd0)).2 = (h5.2.1 + 5, h5.2.2 + 49) := rfl
  rw [B1_56, show h5.2.1 = x + 6 by rw [u5], A6.pF rfl, obd_some, pF_hX _ rfl, obd_some]
  generalize fr 4 h5 (h5.2.2 + 49) (rdF rd0) (roA rd0) = h6 at A6 r6 s6 w6 P6 k1 k2 k3 k4 v6 ⊢
  have u6 : h6.2 = (x + 11, h.2.2 + 82) := by rw [v6, u5]
  have eF : updV (updV (updV (updV F3 3 (.ref (x + 4))) 4 (.ref (x + 5))) 5 (.ref (x + 6))) 8 (.int (nI 1)) = xF x st0 (x + 6) := by
    rw [← hF3]; exact funext (xF_0 x)
  rw [eF]
  have I0 : Ini x 0 (hX 7 h6 x (xF x st0 (x + 6)) zA) := ⟨At.own _ _ _ _ _, tb_mv k1 A6 _ _, tb_mv k2 A6 _ _, tb_mv k3 A6 _ _, tb_mv k4 A6 _ _, s6.mvc A6 (by decide) _ _, r6.mvc A6 (by decide) _ _, fun j hj => absurd hj (Nat.not_lt_zero j), wf_mv w6 A6 _ _, by show h6.2.1 = _; rw [u6]⟩
  obtain ⟨h', q1, q2, q3, q4⟩ := l_ini 4 0 _ rfl I0
  obtain ⟨i1, i2, i3, i4, i5, i6, i7, i8, iw, i9⟩ := q2
  refine ⟨h', q1, ⟨i1, ⟨i2, i3, i4, i5⟩, ⟨_, i6⟩, ⟨rd0, i7, ⟨by decide, by decide, by decide, fun _ => Nat.zero_le _, fun _ => Nat.zero_le _, fun _ => Nat.zero_le _, fun _ => Nat.zero_le _, fun q z => by cases z⟩, rfl⟩, fun i hi => absurd hi (Nat.not_lt_zero i), fun i hi => absurd hi (Nat.not_lt_zero i), fun i hi => absurd hi (Nat.not_lt_zero i), i8, ⟨fun i j hi => absurd hi (Nat.not_lt_zero i), fun i hi => absurd hi (Nat.not_lt_zero i), fun i j hi => absurd hi (Nat.not_lt_zero i), fun i j hi => absurd hi (Nat.not_lt_zero i)⟩, iw⟩, (P6.tr (Keep0.mv A6 (by decide) _ _).P).tr q3, ?_⟩
  refine Prod.ext i9 ?_
  rw [q4]
  show h6.2.2 + 123 * 4 = _
  rw [u6]
