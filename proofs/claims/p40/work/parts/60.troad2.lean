section TRoad2
variable {x dr : Nat} {S : jST} {ra ba pa : Nat → Nat} {h : jHp}
theorem wf_ne {d a : Nat} {F : Nat → Value} {A : Nat → Nat → Int32} (w : wf h) (B : At d h a F A) : a ≠ h.2.1 := by
  have := wf_lt w B (q := a) (Nat.le_refl _) (by omega)
  omega
/-- a road is taken from the draft -/
theorem l_road73 (W : XW x S dr ra ba pa h) (hS : stOk S) (h3 : zn S < 3) {d : jRD} (D : RoadAt h dr d) (b : Nat) (l1 l2 l3 l4 l6 : Int32) :
    ∃ h' dr' ra' ba', R 8 5 73 [some (.ref x), some (.int l1), some (.int l2), some (.int l3), some (.int l4), some (.ref b), some (.int l6), none] [.int (-nI 9)] h = some (some (.int (nI (zn S))), h') ∧ XW x (addR S d) dr' ra' ba' pa h' ∧ KeepP h h' ∧ h'.2 = (h.2.1 + 18, h.2.2 + 401) := by
  obtain ⟨g1, e1, k1⟩ := W.2.1.1
  have W3 : XW x S dr ra ba pa (hset h (x + 1) (cR 4 3 (va_up g1 (zn S) (some dr)))) := W.hs e1 (Or.inr fun i hi => vaup_n (by omega)) (Or.inl (by omega)) (Or.inl (by omega)) (by omega)
  have D3 : RoadAt (hset h (x + 1) (cR 4 3 (va_up g1 (zn S) (some dr)))) dr d := D.hs e1
  have P3 : KeepP h (hset h (x + 1) (cR 4 3 (va_up g1 (zn S) (some dr)))) := KeepP.hs e1
  have c3 : (hset h (x + 1) (cR 4 3 (va_up g1 (zn S) (some dr)))).1 (x + 1) = some (cR 4 3 (va_up g1 (zn S) (some dr))) := cell_own _
  have a3 := asR_hs (o := zn S) e1 D.cell0 h3 (by decide)
  have v3 : (hset h (x + 1) (cR 4 3 (va_up g1 (zn S) (some dr)))).2 = h.2 := rfl
  rw [B5_73r, if_pos rfl, xw_6 W, obd_some, if_pos (show nI (zn S) < nI 3 by rw [nJ_lt (by omega) (by omega)]; exact h3), xw_0 W, obd_some, obd_some, xw_5 W, obd_some, a3, obd_some]
  generalize hh3 : hset h (x + 1) (cR 4 3 (va_up g1 (zn S) (some dr))) = h3' at W3 D3 P3 c3 v3 ⊢
  rw [xw_1 W3, obd_some, xw_6 W3, obd_some, B5_123r, gA_new (wf_ne (xw_wf W3) W3.1), xw_5 W3, obd_some, c_initBest h3' dr]
  have w3 := xw_wf W3
  have e4 : jJ (hX 0 (hT h3' (h3'.2.1 + 13) (h3'.2.2 + 9 + 165 + 5 + 24 + 9 + 28 + 28 + 28 + 14 + 14 + 14 + 7 + 7)) h3'.2.1 (bF dr h3'.2.1 0 0 0 0) zA) (h3'.2.1 + 4) dr zA = fr 1 (fr 0 h3' 0 (bF dr h3'.2.1 0 0 0 0) zA) (h3'.2.2 + 9 + 165 + 5 + 24 + 9 + 28 + 28 + 28 + 14 + 14 + 14 + 7 + 7) (jF dr) zA := rfl
  rw [e4]
  have W4a : XW x S dr ra ba pa (fr 0 h3' 0 (bF dr h3'.2.1 0 0 0 0) zA) := W3.fr
  have w4a := xw_wf W4a
  have W4 : XW x S dr ra ba pa (fr 1 (fr 0 h3' 0 (bF dr h3'.2.1 0 0 0 0) zA) (h3'.2.2 + 9 + 165 + 5 + 24 + 9 + 28 + 28 + 28 + 14 + 14 + 14 + 7 + 7) (jF dr) zA) := W4a.fr
  have D4 : RoadAt (fr 1 (fr 0 h3' 0 (bF dr h3'.2.1 0 0 0 0) zA) (h3'.2.2 + 9 + 165 + 5 + 24 + 9 + 28 + 28 + 28 + 14 + 14 + 14 + 7 + 7) (jF dr) zA) dr d := (D3.fr w3).fr w4a
  have B4 : BestAt (fr 1 (fr 0 h3' 0 (bF dr h3'.2.1 0 0 0 0) zA) (h3'.2.2 + 9 + 165 + 5 + 24 + 9 + 28 + 28 + 28 + 14 + 14 + 14 + 7 + 7) (jF dr) zA) h3'.2.1 dr d := ⟨0, 0, 0, 0, zA, zA, At.fr (fr_own (d := 0) (h := h3') (s := 0)) w4a, fr_own, ⟨⟨fun p _ => ⟨rfl, rfl⟩, fun b _ => ⟨rfl, fun _ => ⟨rfl, rfl⟩⟩, rfl, rfl⟩, Or.inl rfl⟩⟩
  have n4 : ∀ i, i < zn S → h3'.2.1 ≠ ba i := by
    intro i hi z
    obtain ⟨rr, ws, lp, lf, A, AJ, b1, b2, b3⟩ := xw_best W3 hi
    exact wf_ne w3 b1 z.symm
  have P4 : KeepP h3' (fr 1 (fr 0 h3' 0 (bF dr h3'.2.1 0 0 0 0) zA) (h3'.2.2 + 9 + 165 + 5 + 24 + 9 + 28 + 28 + 28 + 14 + 14 + 14 + 7 + 7) (jF dr) zA) := (KeepP.fr w3).tr (KeepP.fr w4a)
  have c4 := cell_fr (d := 1) (s := h3'.2.2 + 9 + 165 + 5 + 24 + 9 + 28 + 28 + 28 + 14 + 14 + 14 + 7 + 7) (G := jF dr) (E := zA) (cell_fr (d := 0) (s := 0) (G := bF dr h3'.2.1 0 0 0 0) (E := zA) c3 w3) w4a
  have v4 : (fr 1 (fr 0 h3' 0 (bF dr h3'.2.1 0 0 0 0) zA) (h3'.2.2 + 9 + 165 + 5 + 24 + 9 + 28 + 28 + 28 + 14 + 14 + 14 + 7 + 7) (jF dr) zA).2 = (h3'.2.1 + 13, h3'.2.2 + 352) := rfl
  simp only [obd_some, obd_none, Option.toList_some, Option.toList_none, List.cons_append, List.nil_append, cond_true, cond_false]
  generalize fr 1 (fr 0 h3' 0 (bF dr h3'.2.1 0 0 0 0) zA) (h3'.2.2 + 9 + 165 + 5 + 24 + 9 + 28 + 28 + 28 + 14 + 14 + 14 + 7 + 7) (jF dr) zA = h4 at W4 D4 B4 P4 c4 v4 ⊢
  obtain ⟨g2, e2, k2⟩ := W4.2.1.2.1
  have b4 : ∃ F, h4.1 h3'.2.1 = some (cO 0 F) := by
    obtain ⟨rr, ws, lp, lf, A, AJ, b1, b2, b3⟩ := B4
    exact ⟨_, b1.cell0⟩
  obtain ⟨F4, b4⟩ := b4
  have a5 := asR_hs (o := zn S) e2 b4 h3 (by decide)
  rw [B5_131r, a5, obd_some]
  have W5 : XW x S dr ra ba pa (hset h4 (x + 2) (cR 0 3 (va_up g2 (zn S) (some h3'.2.1)))) := W4.hs e2 (Or.inl (by omega)) (Or.inr fun i hi => vaup_n (by omega)) (Or.inl (by omega)) (by omega)
  have D5 : RoadAt (hset h4 (x + 2) (cR 0 3 (va_up g2 (zn S) (some h3'.2.1)))) dr d := D4.hs e2
  have B5 : BestAt (hset h4 (x + 2) (cR 0 3 (va_up g2 (zn S) (some h3'.2.1)))) h3'.2.1 dr d := B4.hs e2
  have P5 : KeepP h4 (hset h4 (x + 2) (cR 0 3 (va_up g2 (zn S) (some h3'.2.1)))) := KeepP.hs e2
  have c5 : (hset h4 (x + 2) (cR 0 3 (va_up g2 (zn S) (some h3'.2.1)))).1 (x + 1) = some (cR 4 3 (va_up g1 (zn S) (some dr))) := cell_hs c4 (by omega) _
  have c5b : (hset h4 (x + 2) (cR 0 3 (va_up g2 (zn S) (some h3'.2.1)))).1 (x + 2) = some (cR 0 3 (va_up g2 (zn S) (some h3'.2.1))) := cell_own _
  have v5 : (hset h4 (x + 2) (cR 0 3 (va_up g2 (zn S) (some h3'.2.1)))).2 = h4.2 := rfl
  generalize hset h4 (x + 2) (cR 0 3 (va_up g2 (zn S) (some h3'.2.1))) = h5 at W5 D5 B5 P5 c5 c5b v5 ⊢
  have w5 := xw_wf W5
  rw [c_initRoad h5]
  have e6 : hX 4 (hT h5 (h5.2.1 + 5) (h5.2.2 + 9 + 6 + 6 + 16 + 12)) h5.2.1 (rdF rd0) (roA rd0) = fr 4 h5 (h5.2.2 + 9 + 6 + 6 + 16 + 12) (rdF rd0) (roA rd0) := rfl
  rw [e6]
  have W6 : XW x S dr ra ba pa (fr 4 h5 (h5.2.2 + 9 + 6 + 6 + 16 + 12) (rdF rd0) (roA rd0)) := W5.fr
  have D6 : RoadAt (fr 4 h5 (h5.2.2 + 9 + 6 + 6 + 16 + 12) (rdF rd0) (roA rd0)) dr d := D5.fr w5
  have N6 : RoadAt (fr 4 h5 (h5.2.2 + 9 + 6 + 6 + 16 + 12) (rdF rd0) (roA rd0)) h5.2.1 rd0 := fr_own
  have B6 : BestAt (fr 4 h5 (h5.2.2 + 9 + 6 + 6 + 16 + 12) (rdF rd0) (roA rd0)) h3'.2.1 dr d := B5.fr w5
  have P6 : KeepP h5 (fr 4 h5 (h5.2.2 + 9 + 6 + 6 + 16 + 12) (rdF rd0) (roA rd0)) := KeepP.fr w5
  have c6 := cell_fr (d := 4) (s := h5.2.2 + 9 + 6 + 6 + 16 + 12) (G := rdF rd0) (E := roA rd0) c5 w5
  have c6b := cell_fr (d := 4) (s := h5.2.2 + 9 + 6 + 6 + 16 + 12) (G := rdF rd0) (E := roA rd0) c5b w5
  have v6 : (fr 4 h5 (h5.2.2 + 9 + 6 + 6 + 16 + 12) (rdF rd0) (roA rd0)).2 = (h5.2.1 + 5, h5.2.2 + 49) := rfl
  have n1 : h5.2.1 ≠ dr := fun z => wf_ne w5 D5 z.symm
  have n2 : ∀ i, i < zn S → h5.2.1 ≠ ra i := fun i hi z => wf_ne w5 (xw_road W5 hi) z.symm
  simp only [obd_some, obd_none, Option.toList_some, Option.toList_none, List.cons_append, List.nil_append, cond_true, cond_false]
  generalize fr 4 h5 (h5.2.2 + 9 + 6 + 6 + 16 + 12) (rdF rd0) (roA rd0) = h6 at W6 D6 N6 B6 P6 c6 c6b v6 ⊢
  have W7 := W6.addRoad hS c6 (vaup_s _ _ _) c6b (vaup_s _ _ _) B6 D6 N6 n1 n2 n4
  have p7 : ∀ v : Value, pF (hX 7 h6 x (updV (xF x S dr) 5 (.ref h5.2.1)) zA) x 7 6 v = some (hX 7 h6 x (updV (updV (xF x S dr) 5 (.ref h5.2.1)) 6 v) zA) := fun v => pF_hX v rfl
  have q7 : ∀ F : Nat → Value, gI (hX 7 h6 x F zA) x 7 6 = vI (F 6) := fun F => gI_hX rfl
  rw [B5_140r, xw_p W6, obd_some, q7, show vI (updV (xF x S dr) 5 (.ref h5.2.1) 6) = some (nI (zn S)) from rfl, obd_some, p7, obd_some, q7, nJ_add, xF_R x S d dr h5.2.1, show vI (xF x (addR S d) h5.2.1 6) = some (nI (zn S + 1)) from rfl, obd_some, nI_sub (by omega), Nat.add_sub_cancel]
  refine ⟨_, _, _, _, rfl, W7, ((((P3.tr P4).tr P5).tr P6).tr (W6.keep _).P), ?_⟩
  show h6.2 = _
  rw [v6, v5, v4, v3]
theorem T_road (W : XW x S dr ra ba pa h) (hS : stOk S) (k l i n : Int32) : ∃ d0, rdOk d0 ∧ rL d0 = none ∧ stOk (rRoad S d0 k l i n).2 ∧ Gw x (rRoad S d0 k l i n).2 h (mc 5 [.ref x, .int k, .int l, .int i, .int n] h) (.int (rRoad S d0 k l i n).1) := by
  have W0 := W.ownF 0
  have S0 := stOk_F hS (f := 0) (by omega)
  have K0 := W.keep (xF x (setF S 0) dr)
  obtain ⟨d0, D0, hd0, hL0⟩ := W0.2.2.2.1
  refine ⟨d0, hd0, hL0, ?_⟩
  rw [M5, xw_f W 0, obd_some, xw_o W0, obd_some]
  unfold rRoad
  have fin : ∀ {r : jRs} {v : Value}, r = some (some v, hX 7 h x (xF x (setF S 0) dr) zA) → stOk (setF S 0) ∧ Gw x (setF S 0) h r v := fun e => ⟨S0, _, _, _, _, _, e, W0, K0.keep⟩
  by_cases hk : inN k 4
  · obtain ⟨a, ha, rfl⟩ := inN_nI hk
    have H0 := xw_sheet W0 ha
    have hd : sdOk (zS S a) := hS.2.2.2.2.2.2 a ha
    rw [if_pos hk, c_sheetOf W0 ha, toNat_nI (by omega)]
    simp only [obd_some, obd_none, Option.toList_some, Option.toList_none, List.cons_append, List.nil_append, cond_true, cond_false, B5_10r]
    rw [ite_in (by decide)]
    by_cases hl : inN l 3
    · rw [if_pos hl, if_pos hl, sh_o H0, obd_some, c_faultOfCells (show SheetAt _ _ (zS S a) from H0) hd]
      simp only [obd_some, obd_none, Option.toList_some, Option.toList_none, List.cons_append, List.nil_append, cond_true, cond_false, B5_40r]
      have hf4 := fCells_le (zS S a) l i n
      by_cases hf : fCells (zS S a) l i n = 0
      · obtain ⟨hc, _⟩ := fCells_0 hf
        obtain ⟨ui, un, rfl, rfl, hun⟩ := inCs_nI hd hc
        have h120 := hd.1
        rw [if_pos (show nI (fCells (zS S a) l (nI ui) (nI un)) = 0 by rw [hf]; rfl), if_pos hf, toNat_nI (by omega), toNat_nI (by omega), hf]
        have w0 := xw_wf W0
        rw [gA_new (wf_ne w0 W0.1), xw_5 W0, obd_some, c_initReader]
        generalize hh0 : hX 7 h x (xF x (setF S 0) dr) zA = h0 at W0 K0 D0 H0 w0 fin ⊢
        have eT : hX 3 (hT h0 (h0.2.1 + 1) (h0.2.2 + 5)) h0.2.1 (rrF (x + 11 + 2 * a) ui un dr 0) zA = rH (hT h0 (h0.2.1 + 1) (h0.2.2 + 5)) (x + 11 + 2 * a) ui un dr 0 h0.2.1 d0 := by
          unfold rH
          rw [show hX 4 (hT h0 (h0.2.1 + 1) (h0.2.2 + 5)) dr (rdF d0) (roA d0) = hT h0 (h0.2.1 + 1) (h0.2.2 + 5) from D0.mkT _ _]
        have hb := wf_lt w0 H0 (q := x + 11 + 2 * a + 1) (by omega) (by simp only [oN]; omega)
        have hr := wf_lt w0 D0 (q := dr + 4) (by omega) (by simp only [oN]; omega)
        have hap := D0.apart H0 (D0.nc H0 (by decide))
        have hR : rOk (hT h0 (h0.2.1 + 1) (h0.2.2 + 5)) (x + 11 + 2 * a) ui un dr h0.2.1 (zS S a) := ⟨H0.mkT _ _, hd, hun, by simp only [oN] at hap; omega, by omega, by omega⟩
        have rd := c_read hR hd0
        have oR : ∀ t' d', ∃ F, gO (rH (hT h0 (h0.2.1 + 1) (h0.2.2 + 5)) (x + 11 + 2 * a) ui un dr t' h0.2.1 d') h0.2.1 3 = some F := fun t' d' => ⟨_, rr_o⟩
        obtain ⟨FR, eFR⟩ := oR 0 d0
        have WR : ∀ t' d', rdOk d' → rL d' = none → XW x (setF S 0) dr ra ba pa (rH (hT h0 (h0.2.1 + 1) (h0.2.2 + 5)) (x + 11 + 2 * a) ui un dr t' h0.2.1 d') ∧ KeepP h0 (rH (hT h0 (h0.2.1 + 1) (h0.2.2 + 5)) (x + 11 + 2 * a) ui un dr t' h0.2.1 d') ∧ RoadAt (rH (hT h0 (h0.2.1 + 1) (h0.2.2 + 5)) (x + 11 + 2 * a) ui un dr t' h0.2.1 d') dr d' := by
          intro t' d' g1 g2
          obtain ⟨f1, f2⟩ := W0.draft g1 g2
          have e : rH (hT h0 (h0.2.1 + 1) (h0.2.2 + 5)) (x + 11 + 2 * a) ui un dr t' h0.2.1 d' = fr 3 (hX 4 h0 dr (rdF d') (roA d')) (h0.2.2 + 5) (rrF (x + 11 + 2 * a) ui un dr t') zA := rfl
          rw [e]
          exact ⟨f1.fr, f2.tr (KeepP.fr (xw_wf f1)), At.fr (At.own 4 h0 dr (rdF d') (roA d')) (xw_wf f1)⟩
        rw [eT]
        simp only [obd_some, obd_none, Option.toList_some, Option.toList_none, List.cons_append, List.nil_append, cond_true, cond_false, B5_70r]
        rw [eFR, obd_some]
        have K0P := K0.P
        have h02 : h0.2 = h.2 := K0.2.2
        cases hs : sText (cdOf (sC (zS S a)) ui un) un with
        | inl f =>
          rw [hs] at rd
          obtain ⟨f1, t', d', f2, f3, f4, f5⟩ := rd
          obtain ⟨W2, P2, _⟩ := WR t' d' f3 (f5.trans hL0)
          rw [f4]
          simp only [obd_some, obd_none, Option.toList_some, Option.toList_none, List.cons_append, List.nil_append, cond_true, cond_false, B5_73r]
          rw [if_neg (show ¬ nI f = -nI 9 by rw [neg9_ne (by omega)]; exact id)]
          refine ⟨S0, _, _, _, _, _, rfl, W2, (K0P.tr P2).keep ?_ ?_ ?_ ?_⟩
          · show h.2.1 ≤ h0.2.1 + 1; rw [h02]; omega
          · show h0.2.1 + 1 ≤ _; rw [h02]; omega
          · show h.2.2 ≤ h0.2.2 + 5; rw [h02]; omega
          · show h0.2.2 + 5 ≤ _; rw [h02]; omega
        | inr w =>
          rw [hs] at rd
          obtain ⟨t', d', f2, f3, f4, rfl⟩ := rd
          have g3 := rdOf_go hs f3
          obtain ⟨W2, P2, D2⟩ := WR t' (rdOf d0 w) f3 ((rdOf_n d0 w).2.2.2.trans hL0)
          rw [f4]
          simp only [obd_some, obd_none, Option.toList_some, Option.toList_none, List.cons_append, List.nil_append, cond_true, cond_false]
          have h3 := hS.1
          by_cases hn : zn S < 3
          · rw [if_pos hn]
            obtain ⟨h', dr', ra', ba', q1, q2, q3, q4⟩ := l_road73 W2 S0 hn D2 (x + 11 + 2 * a) (nI a) l (nI ui) (nI un) (nI 0)
            refine ⟨stOk_R S0 hn g3, h', dr', ra', ba', pa, q1, q2, ((K0P.tr P2).tr q3).keep ?_ ?_ ?_ ?_⟩
            · rw [q4]; show h.2.1 ≤ h0.2.1 + 1 + 18; rw [h02]; omega
            · rw [q4]; show h0.2.1 + 1 + 18 ≤ _; rw [h02]; omega
            · rw [q4]; show h.2.2 ≤ h0.2.2 + 5 + 401; rw [h02]; omega
            · rw [q4]; show h0.2.2 + 5 + 401 ≤ _; rw [h02]; omega
          · rw [if_neg hn, B5_73r, if_pos rfl, xw_6 W2, obd_some, if_neg (show ¬ nI (zn (setF S 0)) < nI 3 by show ¬ nI (zn S) < nI 3; rw [nJ_lt (by omega) (by omega)]; omega)]
            refine ⟨S0, _, _, _, _, _, rfl, W2, (K0P.tr P2).keep ?_ ?_ ?_ ?_⟩
            · show h.2.1 ≤ h0.2.1 + 1; rw [h02]; omega
            · show h0.2.1 + 1 ≤ _; rw [h02]; omega
            · show h.2.2 ≤ h0.2.2 + 5; rw [h02]; omega
            · show h0.2.2 + 5 ≤ _; rw [h02]; omega
      · rw [if_neg (show ¬ nI (fCells (zS S a) l i n) = 0 by rw [nI_eq0 (by omega)]; exact hf), if_neg hf, xw_o W0, obd_some, c_failed W0]
        simp only [obd_some, obd_none, Option.toList_some, Option.toList_none, List.cons_append, List.nil_append, cond_true, cond_false, B5_53r]
        exact ⟨stOk_F hS hf4, _, _, _, _, _, rfl, W0.own rfl rfl rfl rfl rfl, (K0.tr (W0.keep _)).keep⟩
    · rw [if_neg hl, if_neg hl, B5_28, B5_30]
      exact fin rfl
  · rw [if_neg hk, c_sheetNo hk]
    simp only [obd_some, obd_none, Option.toList_some, Option.toList_none, List.cons_append, List.nil_append, cond_true, cond_false, B5_10n, B5_28, B5_30]
    exact fin rfl
end TRoad2
