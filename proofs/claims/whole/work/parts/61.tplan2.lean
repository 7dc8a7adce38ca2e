/-! A new plan. -/
def addP (S : jST) (p : jPD) : jST := (zn S, zD S, zg S, zm S + 1, fun j => if j = zm S then p else zP S j, zS S, zt S, zf S)
abbrev gOk2 (kd g : Int32) (d : jRD) : Prop := (kd < nI 1 ∧ g = nI 0) ∨ (¬ kd < nI 1 ∧ 1 ≤ g.toInt ∧ g.toInt < (rP d : Int))
abbrev mOk2 (kd mn : Int32) : Prop := (kd = nI 2 ∧ 1 ≤ mn.toInt ∧ mn.toInt ≤ 60) ∨ (¬ kd = nI 2 ∧ mn = nI 0)
def pdOf (kd v g mn : Int32) (c : Nat → Int32) (i n : Nat) : jPD := (kd.toNatClampNeg, v.toNatClampNeg, g.toNatClampNeg, mn.toNatClampNeg, fun t => if t < n then (c (i + t)).toNatClampNeg else 0)
def rPlan (S : jST) (kd v g mn k l i n : Int32) : Int32 × jST :=
  if inN k 4 then (if inN v (zn S) then (if inN kd 3 then (if inN l 3 then (if gOk2 kd g (zD S v.toNatClampNeg) then (if mOk2 kd mn then
    (if fCells (zS S k.toNatClampNeg) l i n = 0 then (if n = nI (rP (zD S v.toNatClampNeg) * rE (zD S v.toNatClampNeg)) then
      (if awB (sC (zS S k.toNatClampNeg)) i.toNatClampNeg (rB (zD S v.toNatClampNeg)) n.toNatClampNeg 0 = true then (if zm S < 10 then (nI (zm S), addP (setF S 0) (pdOf kd v g mn (sC (zS S k.toNatClampNeg)) i.toNatClampNeg n.toNatClampNeg)) else (-nI 4, setF S 0)) else (-nI 1, setF S 0))
      else (-nI 2, setF S 0)) else (fI (fCells (zS S k.toNatClampNeg) l i n), setF S (fCells (zS S k.toNatClampNeg) l i n)))
    else (-nI 2, setF S 0)) else (-nI 2, setF S 0)) else (-nI 2, setF S 0)) else (-nI 2, setF S 0)) else (-nI 1, setF S 0)) else (-nI 1, setF S 0)
theorem c_gateAs {h : jHp} {r : Nat} {d : jRD} (R0 : RoadAt h r d) (hd : rdOk d) (kd g : Int32) : mc 45 [.int kd, .int g, .ref r] h = some (some (.int (b2i (gOk2 kd g d))), h) := by
  have h6 := hd.1
  rw [M45]
  unfold b2i
  by_cases a : kd < nI 1
  · rw [if_pos a]
    by_cases b : g = 0
    · rw [if_pos b, if_pos (Or.inl ⟨a, b⟩)]
    · rw [if_neg b, if_neg]
      rintro (⟨_, z⟩ | ⟨z, _⟩)
      · exact b z
      · exact z a
  · rw [if_neg a]
    by_cases b : g < nI 1
    · rw [if_pos b, if_neg]
      rw [lt_int (by decide)] at b
      rintro (⟨z, _⟩ | ⟨_, z, _⟩)
      · exact a z
      · omega
    · rw [if_neg b, rd_0 R0, obd_some]
      rw [lt_int (by decide)] at b
      by_cases c : g < nI (rP d)
      · rw [if_pos c, if_pos]
        rw [lt_int (by omega)] at c
        exact Or.inr ⟨a, by omega, c⟩
      · rw [if_neg c, if_neg]
        rw [lt_int (by omega)] at c
        rintro (⟨z, _⟩ | ⟨_, _, z⟩)
        · exact a z
        · exact c z
theorem c_minAs (kd mn : Int32) (h : jHp) : mc 46 [.int kd, .int mn] h = some (some (.int (b2i (mOk2 kd mn))), h) := by
  rw [M46]
  unfold b2i
  by_cases a : kd = nI 2
  · rw [if_pos a]
    by_cases b : mn < nI 1
    · rw [if_pos b, if_neg]
      rw [lt_int (by decide)] at b
      rintro (⟨_, z, _⟩ | ⟨z, _⟩)
      · omega
      · exact z a
    · rw [if_neg b]
      rw [lt_int (by decide)] at b
      by_cases c : nI 60 < mn
      · rw [if_pos c, if_neg]
        rw [gt_int (by decide)] at c
        rintro (⟨_, _, z⟩ | ⟨z, _⟩)
        · omega
        · exact z a
      · rw [if_neg c, if_pos]
        rw [gt_int (by decide)] at c
        exact Or.inl ⟨a, by omega, by omega⟩
  · rw [if_neg a]
    by_cases b : mn = 0
    · rw [if_pos b, if_pos (Or.inr ⟨a, b⟩)]
    · rw [if_neg b, if_neg]
      rintro (⟨z, _⟩ | ⟨_, z⟩)
      · exact a z
      · exact b z
theorem awB_in {f : Nat → Int32} {i most : Nat} (h31 : most < 2147483648) : ∀ m j, awB f i most m j = true → ∀ t, j ≤ t → t < j + m → f (i + t) = nI (f (i + t)).toNatClampNeg ∧ (f (i + t)).toNatClampNeg ≤ most
  | 0, j, _, t, h1, h2 => absurd h2 (by omega)
  | m + 1, j, h, t, h1, h2 => by
    rw [awB] at h
    by_cases a1 : f (i + j) < 0
    · rw [if_pos a1] at h; cases h
    · rw [if_neg a1] at h
      by_cases a2 : nI most < f (i + j)
      · rw [if_pos a2] at h; cases h
      · rw [if_neg a2] at h
        by_cases c : t = j
        · subst c
          rw [lt0_int] at a1
          rw [gt_int h31] at a2
          obtain ⟨u, hu, e⟩ := inN_nI (k := f (i + t)) (n := most + 1) ⟨by omega, by omega⟩
          rw [e, toNat_nI (by omega)]
          exact ⟨rfl, by omega⟩
        · exact awB_in h31 m (j + 1) h t (by omega) (by omega)
theorem xF_P (x : Nat) (S : jST) (p : jPD) (dr : Nat) : updV (xF x S dr) 7 (.int (nI (zm S + 1))) = xF x (addP S p) dr := by
  funext k; unfold updV
  by_cases e : k = 7
  · subst e; rfl
  · rw [if_neg e]
    match k, e with
    | 0, _ => rfl
    | 1, _ => rfl
    | 2, _ => rfl
    | 3, _ => rfl
    | 4, _ => rfl
    | 5, _ => rfl
    | 6, _ => rfl
    | 8, _ => rfl
    | 9, _ => rfl
    | 10, _ => rfl
    | k + 11, _ => rfl
theorem stOk_P {S : jST} (hS : stOk S) (hm : zm S < 10) {p : jPD} (h1 : pX p < zn S) (h2 : plOk (zD S (pX p)) p) : stOk (addP S p) := by
  obtain ⟨s1, s2, s3, s4, s5, s6, s7⟩ := hS
  refine ⟨s1, hm, s3, s4, s5, fun q hq => ?_, s7⟩
  have hq : q < zm S + 1 := hq
  show pX (if q = zm S then p else zP S q) < zn S ∧ plOk (zD S (pX (if q = zm S then p else zP S q))) (if q = zm S then p else zP S q)
  by_cases c : q = zm S
  · rw [if_pos c]; exact ⟨h1, h2⟩
  · rw [if_neg c]; exact s6 q (by omega)
section TPlan2
variable {x dr : Nat} {S : jST} {ra ba pa : Nat → Nat} {h : jHp}
theorem XW.mv2 (W : XW x S dr ra ba pa h) {a : Nat} {G G' : Nat → Value} {E E' : Nat → Nat → Int32} (B : At 2 h a G E) (hn : ∀ q, q < zm S → pa q ≠ a) : XW x S dr ra ba pa (hX 2 h a G' E') := by
  obtain ⟨w1, ⟨r1, r2, r3, r4⟩, ⟨q, w3⟩, ⟨d0, w4, w4b⟩, w5, w6, w7, w8, w9, w⟩ := W
  refine ⟨w1.mvc B (by decide) _ _, ⟨tb_mv r1 B _ _, tb_mv r2 B _ _, tb_mv r3 B _ _, tb_mv r4 B _ _⟩, ⟨q, w3.mvc B (by decide) _ _⟩, ⟨d0, w4.mvc B (by decide) _ _, w4b⟩, fun i hi => (w5 i hi).mvc B (by decide) _ _, fun i hi => (w6 i hi).mvc B (by decide) (by decide), fun i hi => ?_, fun k hk => (w8 k hk).mvc B (by decide) _ _, w9, wf_mv w B _ _⟩
  obtain ⟨e1, AJ, e2, e3⟩ := w7 i hi
  exact ⟨e1.mv B (hn i hi) _ _, AJ, e2.mvc B (by decide) _ _, e3⟩
theorem XW.addPlan (W : XW x S dr ra ba pa h) {g3 : Nat → Option Nat} {p0 : Nat} {p : jPD} (e3 : h.1 (x + 3) = some (cR 2 10 g3)) (k3 : g3 (zm S) = some p0) (P : PlanAt h p0 (ra (pX p)) p) (n3 : ∀ i, i < zm S → pa i ≠ p0) :
    XW x (addP S p) dr ra ba (fun j => if j = zm S then p0 else pa j) (hX 7 h x (xF x (addP S p) dr) zA) := by
  obtain ⟨w1, ⟨r1, r2, ⟨q3, t3, u3⟩, r4⟩, ⟨q, w3⟩, ⟨d0, w4, w4b⟩, w5, w6, w7, w8, w9, w⟩ := W
  have a3 : q3 = g3 := by
    have e5 : (cR 2 10 q3) = cR 2 10 g3 := Option.some.inj (t3.symm.trans e3)
    have e4 : (2, 10, q3) = (2, 10, g3) := Sum.inl.inj (Sum.inr.inj (Sum.inr.inj e5))
    exact congrArg (fun z => z.2.2) e4
  subst a3
  have lt : ∀ i, i < zm (addP S p) → ¬ i = zm S → i < zm S := fun i hi c => by have hi : i < zm S + 1 := hi; omega
  refine ⟨At.own _ _ _ _ _, ⟨tb_mv r1 w1 _ _, tb_mv r2 w1 _ _, ⟨q3, cR_mv t3 w1 _ _, fun i hi => ?_⟩, tb_mv r4 w1 _ _⟩, ⟨q, w3.mvc w1 (by decide) _ _⟩, ⟨d0, w4.mvc w1 (by decide) _ _, w4b⟩, fun i hi => (w5 i hi).mvc w1 (by decide) _ _, fun i hi => (w6 i hi).mvc w1 (by decide) (by decide), fun i hi => ?_, fun k hk => (w8 k hk).mvc w1 (by decide) _ _, ⟨w9.1, w9.2.1, w9.2.2.1, fun i j hi hj => ?_⟩, wf_mv w w1 _ _⟩
  · dsimp only
    by_cases c : i = zm S
    · subst c; rw [if_pos rfl]; exact k3
    · rw [if_neg c]; exact u3 i (lt i hi c)
  · show PlanAt _ (if i = zm S then p0 else pa i) (ra (pX (if i = zm S then p else zP S i))) (if i = zm S then p else zP S i)
    by_cases c : i = zm S
    · rw [if_pos c, if_pos c]; exact P.mvc w1 (by decide) (by decide)
    · rw [if_neg c, if_neg c]; exact (w7 i (lt i hi c)).mvc w1 (by decide) (by decide)
  · dsimp only
    by_cases c : i = zm S
    · rw [if_pos c]
      by_cases c2 : j = zm S
      · rw [if_pos c2]; exact fun _ => c.trans c2.symm
      · rw [if_neg c2]; exact fun z => absurd z.symm (n3 j (lt j hj c2))
    · rw [if_neg c]
      by_cases c2 : j = zm S
      · rw [if_pos c2]; exact fun z => absurd z (n3 i (lt i hi c))
      · rw [if_neg c2]; exact w9.2.2.2 i j (lt i hi c) (lt j hj c2)
theorem l_plan129 (W : XW x S dr ra ba pa h) (hS : stOk S) (hm : zm S < 10) {a kd v g mn i : Nat} {l : Int32} (ha : a < 4) (hv : v < zn S) (hp : plOk (zD S v) (pdOf (nI kd) (nI v) (nI g) (nI mn) (sC (zS S a)) i (rP (zD S v) * rE (zD S v)))) (h1 : kd < 100) (h2 : g < 100) (h3 : mn < 100) (hin : i + rP (zD S v) * rE (zD S v) ≤ sN (zS S a))
    (hc : ∀ t, t < rP (zD S v) * rE (zD S v) → sC (zS S a) (i + t) = nI (sC (zS S a) (i + t)).toNatClampNeg) :
    ∃ h' pa', R 3 44 129 [some (.ref x), some (.int (nI kd)), some (.int (nI v)), some (.int (nI g)), some (.int (nI mn)), some (.int (nI a)), some (.int l), some (.int (nI i)), some (.int (nI (rP (zD S v) * rE (zD S v)))), some (.ref (x + 11 + 2 * a)), some (.ref (ra v)), some (.int (nI 0)), none] [.int (nI 1)] h = some (some (.int (nI (zm S))), h') ∧ XW x (addP S (pdOf (nI kd) (nI v) (nI g) (nI mn) (sC (zS S a)) i (rP (zD S v) * rE (zD S v)))) dr ra ba pa' h' ∧ KeepP h h' ∧ h'.2 = (h.2.1 + 11, h.2.2 + 180) := by
  have hz3 := hS.1
  have hd := (hS.2.2.2.2.1 v hv).1
  have h24 := cells_le hd
  have w0 := xw_wf W
  rw [B44_129rr, if_neg (show ¬ nI 1 = 0 by decide), xw_7 W, obd_some, if_pos (show nI (zm S) < nI 10 by rw [nJ_lt (by omega) (by omega)]; exact hm), B44_152rr, c_initPlan h kd v (ra v) g mn]
  have e1 : jJ (hX 2 (hT h (h.2.1 + 11) (h.2.2 + 7 + 24 + 9 + 28 + 28 + 28 + 14 + 14 + 14 + 7 + 7)) h.2.1 (pnF h.2.1 kd v (ra v) g mn) zA) (h.2.1 + 2) (ra v) zA = fr 1 (fr 2 h 0 (pnF h.2.1 kd v (ra v) g mn) zA) (h.2.2 + 7 + 24 + 9 + 28 + 28 + 28 + 14 + 14 + 14 + 7 + 7) (jF (ra v)) zA := rfl
  rw [e1]
  have W1a : XW x S dr ra ba pa (fr 2 h 0 (pnF h.2.1 kd v (ra v) g mn) zA) := W.fr
  have w1a := xw_wf W1a
  have W1 : XW x S dr ra ba pa (fr 1 (fr 2 h 0 (pnF h.2.1 kd v (ra v) g mn) zA) (h.2.2 + 7 + 24 + 9 + 28 + 28 + 28 + 14 + 14 + 14 + 7 + 7) (jF (ra v)) zA) := W1a.fr
  have P1 : At 2 (fr 1 (fr 2 h 0 (pnF h.2.1 kd v (ra v) g mn) zA) (h.2.2 + 7 + 24 + 9 + 28 + 28 + 28 + 14 + 14 + 14 + 7 + 7) (jF (ra v)) zA) h.2.1 (pnF h.2.1 kd v (ra v) g mn) zA := At.fr (fr_own (d := 2) (h := h) (s := 0)) w1a
  have J1 : At 1 (fr 1 (fr 2 h 0 (pnF h.2.1 kd v (ra v) g mn) zA) (h.2.2 + 7 + 24 + 9 + 28 + 28 + 28 + 14 + 14 + 14 + 7 + 7) (jF (ra v)) zA) (h.2.1 + 2) (jF (ra v)) zA := fr_own
  have Q1 : KeepP h (fr 1 (fr 2 h 0 (pnF h.2.1 kd v (ra v) g mn) zA) (h.2.2 + 7 + 24 + 9 + 28 + 28 + 28 + 14 + 14 + 14 + 7 + 7) (jF (ra v)) zA) := (KeepP.fr w0).tr (KeepP.fr w1a)
  have v1 : (fr 1 (fr 2 h 0 (pnF h.2.1 kd v (ra v) g mn) zA) (h.2.2 + 7 + 24 + 9 + 28 + 28 + 28 + 14 + 14 + 14 + 7 + 7) (jF (ra v)) zA).2 = (h.2.1 + 11, h.2.2 + 180) := rfl
  have n1 : ∀ i, i < zm S → pa i ≠ h.2.1 := fun i hi => wf_ne w0 (xw_plan W hi).1
  simp only [obd_some, obd_none, Option.toList_some, Option.toList_none, List.cons_append, List.nil_append, cond_true, cond_false]
  generalize fr 1 (fr 2 h 0 (pnF h.2.1 kd v (ra v) g mn) zA) (h.2.2 + 7 + 24 + 9 + 28 + 28 + 28 + 14 + 14 + 14 + 7 + 7) (jF (ra v)) zA = h1 at W1 P1 J1 Q1 v1 ⊢
  have H1 := xw_sheet W1 ha
  have hsd := hS.2.2.2.2.2.2 a ha
  have g5 : gA h1 h.2.1 2 5 = some (h.2.1 + 1) := by rw [P1.eq]; exact x2_5
  rw [B44_160rr, g5, obd_some, sh_o H1, obd_some, c_copyTo H1 hsd P1 hin h24]
  have eA : cpA zA (sC (zS S a)) i (rP (zD S v) * rE (zD S v)) = cA (pC (pdOf (nI kd) (nI v) (nI g) (nI mn) (sC (zS S a)) i (rP (zD S v) * rE (zD S v)))) := by
    funext b t
    unfold cpA cA
    match b with
    | 0 => rw [if_neg (by omega)]; rfl
    | 1 =>
      by_cases ht : t < rP (zD S v) * rE (zD S v)
      · rw [if_pos ⟨rfl, ht⟩, hc t ht]
        show nI _ = nI (if t < rP (zD S v) * rE (zD S v) then (sC (zS S a) (i + t)).toNatClampNeg else 0)
        rw [if_pos ht]
      · rw [if_neg (fun z => ht z.2)]
        show (0 : Int32) = nI (if t < rP (zD S v) * rE (zD S v) then (sC (zS S a) (i + t)).toNatClampNeg else 0)
        rw [if_neg ht]; rfl
    | b + 2 => rw [if_neg (by omega)]; rfl
  have eF : pnF h.2.1 kd v (ra v) g mn = pnF h.2.1 (pK (pdOf (nI kd) (nI v) (nI g) (nI mn) (sC (zS S a)) i (rP (zD S v) * rE (zD S v)))) (pX (pdOf (nI kd) (nI v) (nI g) (nI mn) (sC (zS S a)) i (rP (zD S v) * rE (zD S v)))) (ra v) (pG (pdOf (nI kd) (nI v) (nI g) (nI mn) (sC (zS S a)) i (rP (zD S v) * rE (zD S v)))) (pM (pdOf (nI kd) (nI v) (nI g) (nI mn) (sC (zS S a)) i (rP (zD S v) * rE (zD S v)))) := by
    show _ = pnF h.2.1 (nI kd).toNatClampNeg (nI v).toNatClampNeg (ra v) (nI g).toNatClampNeg (nI mn).toNatClampNeg
    rw [toNat_nI (by omega), toNat_nI (by omega), toNat_nI (by omega), toNat_nI (by omega)]
  have eX : pX (pdOf (nI kd) (nI v) (nI g) (nI mn) (sC (zS S a)) i (rP (zD S v) * rE (zD S v))) = v := toNat_nI (by omega)
  have W2 : XW x S dr ra ba pa (hX 2 h1 h.2.1 (pnF h.2.1 kd v (ra v) g mn) (cpA zA (sC (zS S a)) i (rP (zD S v) * rE (zD S v)))) := W1.mv2 P1 n1
  have P2 : PlanAt (hX 2 h1 h.2.1 (pnF h.2.1 kd v (ra v) g mn) (cpA zA (sC (zS S a)) i (rP (zD S v) * rE (zD S v)))) h.2.1 (ra v) (pdOf (nI kd) (nI v) (nI g) (nI mn) (sC (zS S a)) i (rP (zD S v) * rE (zD S v))) := by
    refine ⟨?_, zA, J1.mvc P1 (by decide) _ _, Z0_zA⟩
    rw [← eF, ← eA]
    exact At.own _ _ _ _ _
  have Q2 : KeepP h1 (hX 2 h1 h.2.1 (pnF h.2.1 kd v (ra v) g mn) (cpA zA (sC (zS S a)) i (rP (zD S v) * rE (zD S v)))) := (Keep0.mv P1 (by decide) _ _).P
  have v2 : (hX 2 h1 h.2.1 (pnF h.2.1 kd v (ra v) g mn) (cpA zA (sC (zS S a)) i (rP (zD S v) * rE (zD S v)))).2 = h1.2 := rfl
  simp only [obd_some, obd_none, Option.toList_some, Option.toList_none, List.cons_append, List.nil_append, cond_true, cond_false]
  generalize hX 2 h1 h.2.1 (pnF h.2.1 kd v (ra v) g mn) (cpA zA (sC (zS S a)) i (rP (zD S v) * rE (zD S v))) = h2 at W2 P2 Q2 v2 ⊢
  obtain ⟨g3, e3, k3⟩ := W2.2.1.2.2.1
  have a3 := asR_hs (o := zm S) e3 P2.1.cell0 hm (by decide)
  rw [B44_176rr, xw_2 W2, obd_some, xw_7 W2, obd_some, a3, obd_some]
  have W3 : XW x S dr ra ba pa (hset h2 (x + 3) (cR 2 10 (va_up g3 (zm S) (some h.2.1)))) := W2.hs e3 (Or.inl (by omega)) (Or.inl (by omega)) (Or.inr fun i hi => vaup_n (by omega)) (by omega)
  have P3 : PlanAt (hset h2 (x + 3) (cR 2 10 (va_up g3 (zm S) (some h.2.1)))) h.2.1 (ra v) (pdOf (nI kd) (nI v) (nI g) (nI mn) (sC (zS S a)) i (rP (zD S v) * rE (zD S v))) := P2.hs e3
  have Q3 : KeepP h2 (hset h2 (x + 3) (cR 2 10 (va_up g3 (zm S) (some h.2.1)))) := KeepP.hs e3
  have c3 : (hset h2 (x + 3) (cR 2 10 (va_up g3 (zm S) (some h.2.1)))).1 (x + 3) = some (cR 2 10 (va_up g3 (zm S) (some h.2.1))) := cell_own _
  have v3 : (hset h2 (x + 3) (cR 2 10 (va_up g3 (zm S) (some h.2.1)))).2 = h2.2 := rfl
  generalize hset h2 (x + 3) (cR 2 10 (va_up g3 (zm S) (some h.2.1))) = h3 at W3 P3 Q3 c3 v3 ⊢
  have W4 := W3.addPlan (p := pdOf (nI kd) (nI v) (nI g) (nI mn) (sC (zS S a)) i (rP (zD S v) * rE (zD S v))) c3 (vaup_s _ _ _) (by rw [eX]; exact P3) n1
  have q7 : ∀ F : Nat → Value, gI (hX 7 h3 x F zA) x 7 7 = vI (F 7) := fun F => gI_hX rfl
  rw [xw_7 W3, obd_some, B44_192rr, nJ_add, xw_p W3, obd_some, xF_P x S (pdOf (nI kd) (nI v) (nI g) (nI mn) (sC (zS S a)) i (rP (zD S v) * rE (zD S v))) dr, q7, show ∀ p, vI (xF x (addP S p) dr 7) = some (nI (zm S + 1)) from fun p => rfl, obd_some, nI_sub (by omega), Nat.add_sub_cancel]
  refine ⟨_, _, rfl, W4, ((Q1.tr Q2).tr Q3).tr (W3.keep _).P, ?_⟩
  show h3.2 = _
  rw [v3, v2, v1]
end TPlan2
