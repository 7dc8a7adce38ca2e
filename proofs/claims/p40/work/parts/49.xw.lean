/-! The class's object: its rows, and what a change leaves of it. -/
def setF (S : jST) (f : Nat) : jST := (zn S, zD S, zg S, zm S, zP S, zS S, zt S, f)
def setG (S : jST) (g : Nat) : jST := (zn S, zD S, g, zm S, zP S, zS S, zt S, zf S)
def setT (S : jST) (t : Int32) : jST := (zn S, zD S, zg S, zm S, zP S, zS S, t, zf S)
def setS (S : jST) (k : Nat) (d : jSD) : jST := (zn S, zD S, zg S, zm S, zP S, fun j => if j = k then d else zS S j, zt S, zf S)
def setD (S : jST) (i : Nat) (d : jRD) : jST := (zn S, fun j => if j = i then d else zD S j, zg S, zm S, zP S, zS S, zt S, zf S)
theorem xF_f (x : Nat) (S : jST) (dr f : Nat) : updV (xF x S dr) 10 (.int (nI f)) = xF x (setF S f) dr := by
  funext k; unfold updV
  by_cases e : k = 10
  · subst e; rfl
  · rw [if_neg e]
    match k, e with
    | 0, _ => rfl
    | 1, _ => rfl
    | 2, _ => rfl
    | 3, _ => rfl
    | 4, _ => rfl
    | 5, _ => rfl
    | 6, _ => rfl
    | 7, _ => rfl
    | 8, _ => rfl
    | 9, _ => rfl
    | k + 11, _ => rfl
theorem xF_t (x : Nat) (S : jST) (dr : Nat) (t : Int32) : updV (xF x S dr) 9 (.int t) = xF x (setT S t) dr := by
  funext k; unfold updV
  by_cases e : k = 9
  · subst e; rfl
  · rw [if_neg e]
    match k, e with
    | 0, _ => rfl
    | 1, _ => rfl
    | 2, _ => rfl
    | 3, _ => rfl
    | 4, _ => rfl
    | 5, _ => rfl
    | 6, _ => rfl
    | 7, _ => rfl
    | 8, _ => rfl
    | 10, _ => rfl
    | k + 11, _ => rfl
theorem xF_g (x : Nat) (S : jST) (dr g : Nat) : updV (xF x S dr) 8 (.int (nI g)) = xF x (setG S g) dr := by
  funext k; unfold updV
  by_cases e : k = 8
  · subst e; rfl
  · rw [if_neg e]
    match k, e with
    | 0, _ => rfl
    | 1, _ => rfl
    | 2, _ => rfl
    | 3, _ => rfl
    | 4, _ => rfl
    | 5, _ => rfl
    | 6, _ => rfl
    | 7, _ => rfl
    | 9, _ => rfl
    | 10, _ => rfl
    | k + 11, _ => rfl
section XRows
variable {x dr : Nat} {S : jST} {ra ba pa : Nat → Nat} {h : jHp}
theorem xw_o (W : XW x S dr ra ba pa h) : gO h x 7 = some (oF 7 x (xF x S dr)) := by rw [W.1.eq]; exact gO_hX _ _ _ _ _
theorem xw_A (W : XW x S dr ra ba pa h) (k : Nat) : gA h x 7 k = vA (xF x S dr k) := by rw [W.1.eq]; exact gA_hX rfl
theorem xw_I (W : XW x S dr ra ba pa h) (k : Nat) : gI h x 7 k = vI (xF x S dr k) := by rw [W.1.eq]; exact gI_hX rfl
theorem xw_p (W : XW x S dr ra ba pa h) (k : Nat) (v : Value) : pF h x 7 k v = some (hX 7 h x (updV (xF x S dr) k v) zA) := by
  have e := pF_hX (c := 7) (k := k) (h := h) (b := x) (F := xF x S dr) (A := zA) v rfl
  rw [show hX 7 h x (xF x S dr) zA = h from W.1] at e
  exact e
theorem xw_0 (W : XW x S dr ra ba pa h) : gA h x 7 0 = some (x + 1) := xw_A W 0
theorem xw_1 (W : XW x S dr ra ba pa h) : gA h x 7 1 = some (x + 2) := xw_A W 1
theorem xw_2 (W : XW x S dr ra ba pa h) : gA h x 7 2 = some (x + 3) := xw_A W 2
theorem xw_3 (W : XW x S dr ra ba pa h) : gA h x 7 3 = some (x + 4) := xw_A W 3
theorem xw_4 (W : XW x S dr ra ba pa h) : gA h x 7 4 = some (x + 5) := xw_A W 4
theorem xw_5 (W : XW x S dr ra ba pa h) : gA h x 7 5 = some dr := xw_A W 5
theorem xw_6 (W : XW x S dr ra ba pa h) : gI h x 7 6 = some (nI (zn S)) := xw_I W 6
theorem xw_7 (W : XW x S dr ra ba pa h) : gI h x 7 7 = some (nI (zm S)) := xw_I W 7
theorem xw_8 (W : XW x S dr ra ba pa h) : gI h x 7 8 = some (nI (zg S)) := xw_I W 8
theorem xw_9 (W : XW x S dr ra ba pa h) : gI h x 7 9 = some (zt S) := xw_I W 9
theorem xw_10 (W : XW x S dr ra ba pa h) : gI h x 7 10 = some (nI (zf S)) := xw_I W 10
theorem alR_tb {a t n m : Nat} {f : Nat → Nat} (e : TbAt h a t n m f) {i : Nat} (hi : i < m) (hm : m ≤ n) (hn : n < 1000) : alR h a (nI i) = some (f i) := by
  obtain ⟨g, e1, e2⟩ := e
  unfold alR gR
  rw [e1]
  show (if nI i < 0 ∨ n ≤ (nI i).toNatClampNeg then none else g (nI i).toNatClampNeg) = _
  rw [toNat_nI (by omega), if_neg]
  · exact e2 i hi
  · rintro (z | z)
    · exact nI_nneg (by omega) z
    · omega
theorem xw_roads (W : XW x S dr ra ba pa h) (hS : stOk S) {i : Nat} (hi : i < zn S) : alR h (x + 1) (nI i) = some (ra i) := alR_tb W.2.1.1 hi hS.1 (by decide)
theorem xw_bests (W : XW x S dr ra ba pa h) (hS : stOk S) {i : Nat} (hi : i < zn S) : alR h (x + 2) (nI i) = some (ba i) := alR_tb W.2.1.2.1 hi hS.1 (by decide)
theorem xw_plans (W : XW x S dr ra ba pa h) (hS : stOk S) {i : Nat} (hi : i < zm S) : alR h (x + 3) (nI i) = some (pa i) := alR_tb W.2.1.2.2.1 hi hS.2.1 (by decide)
theorem xw_sheets (W : XW x S dr ra ba pa h) {i : Nat} (hi : i < 4) : alR h (x + 4) (nI i) = some (x + 11 + 2 * i) := alR_tb W.2.1.2.2.2 hi (by decide) (by decide)
theorem xw_road (W : XW x S dr ra ba pa h) {i : Nat} (hi : i < zn S) : RoadAt h (ra i) (zD S i) := W.2.2.2.2.1 i hi
theorem xw_best (W : XW x S dr ra ba pa h) {i : Nat} (hi : i < zn S) : BestAt h (ba i) (ra i) (zD S i) := W.2.2.2.2.2.1 i hi
theorem xw_plan (W : XW x S dr ra ba pa h) {i : Nat} (hi : i < zm S) : PlanAt h (pa i) (ra (pX (zP S i))) (zP S i) := W.2.2.2.2.2.2.1 i hi
theorem xw_sheet (W : XW x S dr ra ba pa h) {k : Nat} (hk : k < 4) : SheetAt h (x + 11 + 2 * k) (zS S k) := W.2.2.2.2.2.2.2.1 k hk
theorem xw_wf (W : XW x S dr ra ba pa h) : wf h := W.2.2.2.2.2.2.2.2.2
theorem xw_inj (W : XW x S dr ra ba pa h) : inj (zn S) ra ∧ (∀ i, i < zn S → ra i ≠ dr) ∧ inj (zn S) ba ∧ inj (zm S) pa := W.2.2.2.2.2.2.2.2.1
theorem out_N {v : Int32} {n : Nat} (hn : n < 2147483648) (ho : ¬ inN v n) (a : ¬ v < 0) : ¬ v < nI n := by
  intro z
  rw [lt_int hn] at z
  rw [lt0_int] at a
  exact ho ⟨by omega, z⟩
theorem c_roadOf (W : XW x S dr ra ba pa h) (hS : stOk S) {i : Nat} (hi : i < zn S) : mc 26 [.ref x, .int (nI i)] h = some (some (.ref (ra i)), h) := by
  have h3 := hS.1
  rw [M26, if_neg (nI_nneg (by omega)), xw_6 W, obd_some, if_pos (show nI i < nI (zn S) by rw [nJ_lt (by omega) (by omega)]; exact hi), if_pos (show nI i < nI 3 by rw [nJ_lt (by omega) (by omega)]; omega), xw_0 W, obd_some, xw_roads W hS hi, obd_some]
theorem c_roadNo (W : XW x S dr ra ba pa h) (hS : stOk S) {v : Int32} (hv : ¬ inN v (zn S)) : mc 26 [.ref x, .int v] h = some (some .null, h) := by
  have h3 := hS.1
  rw [M26]
  by_cases a : v < 0
  · rw [if_pos a]
  · rw [if_neg a, xw_6 W, obd_some, if_neg (out_N (by omega) hv a)]
theorem c_bestOf (W : XW x S dr ra ba pa h) (hS : stOk S) {i : Nat} (hi : i < zn S) : mc 32 [.ref x, .int (nI i)] h = some (some (.ref (ba i)), h) := by
  have h3 := hS.1
  rw [M32, if_neg (nI_nneg (by omega)), xw_6 W, obd_some, if_pos (show nI i < nI (zn S) by rw [nJ_lt (by omega) (by omega)]; exact hi), if_pos (show nI i < nI 3 by rw [nJ_lt (by omega) (by omega)]; omega), xw_1 W, obd_some, xw_bests W hS hi, obd_some]
theorem c_bestNo (W : XW x S dr ra ba pa h) (hS : stOk S) {v : Int32} (hv : ¬ inN v (zn S)) : mc 32 [.ref x, .int v] h = some (some .null, h) := by
  have h3 := hS.1
  rw [M32]
  by_cases a : v < 0
  · rw [if_pos a]
  · rw [if_neg a, xw_6 W, obd_some, if_neg (out_N (by omega) hv a)]
theorem c_sheetOf (W : XW x S dr ra ba pa h) {i : Nat} (hi : i < 4) : mc 6 [.ref x, .int (nI i)] h = some (some (.ref (x + 11 + 2 * i)), h) := by
  rw [M6, if_neg (nI_nneg (by omega)), if_pos (show nI i < nI 4 by rw [nJ_lt (by omega) (by omega)]; exact hi), xw_3 W, obd_some, xw_sheets W hi, obd_some]
theorem c_sheetNo {v : Int32} (hv : ¬ inN v 4) : mc 6 [.ref x, .int v] h = some (some .null, h) := by
  rw [M6]
  by_cases a : v < 0
  · rw [if_pos a]
  · rw [if_neg a, if_neg (out_N (by omega) hv a)]
/-! what a change leaves -/
theorem BestAt.mv {b r d a : Nat} {D : jRD} {G G' : Nat → Value} {E E' : Nat → Nat → Int32} (H : BestAt h b r D) (B : At d h a G E) (h1 : d ≠ 0) (h2 : a ≠ b + 4) : BestAt (hX d h a G' E') b r D := by
  obtain ⟨rr, ws, lp, lf, A, AJ, e1, e2, e3⟩ := H
  exact ⟨rr, ws, lp, lf, A, AJ, e1.mvc B (fun z => h1 z.symm) _ _, e2.mv B (fun z => h2 z.symm) _ _, e3⟩
theorem PlanAt.mv {b r d a : Nat} {D : jPD} {G G' : Nat → Value} {E E' : Nat → Nat → Int32} (H : PlanAt h b r D) (B : At d h a G E) (h1 : d ≠ 2) (h2 : a ≠ b + 2) : PlanAt (hX d h a G' E') b r D := by
  obtain ⟨e1, AJ, e2, e3⟩ := H
  exact ⟨e1.mvc B (fun z => h1 z.symm) _ _, AJ, e2.mv B (fun z => h2 z.symm) _ _, e3⟩
theorem BestAt.ne {b r d a : Nat} {D : jRD} {G : Nat → Value} {E : Nat → Nat → Int32} (H : BestAt h b r D) (B : At d h a G E) (h1 : d ≠ 1) : a ≠ b + 4 := by
  obtain ⟨rr, ws, lp, lf, A, AJ, e1, e2, e3⟩ := H
  exact B.nc e2 h1
theorem PlanAt.ne {b r d a : Nat} {D : jPD} {G : Nat → Value} {E : Nat → Nat → Int32} (H : PlanAt h b r D) (B : At d h a G E) (h1 : d ≠ 1) : a ≠ b + 2 := by
  obtain ⟨e1, AJ, e2, e3⟩ := H
  exact B.nc e2 h1
theorem BestAt.mvc {b r d a : Nat} {D : jRD} {G G' : Nat → Value} {E E' : Nat → Nat → Int32} (H : BestAt h b r D) (B : At d h a G E) (h1 : d ≠ 0) (h2 : d ≠ 1) : BestAt (hX d h a G' E') b r D := H.mv B h1 (H.ne B h2)
theorem PlanAt.mvc {b r d a : Nat} {D : jPD} {G G' : Nat → Value} {E E' : Nat → Nat → Int32} (H : PlanAt h b r D) (B : At d h a G E) (h1 : d ≠ 2) (h2 : d ≠ 1) : PlanAt (hX d h a G' E') b r D := H.mv B h1 (H.ne B h2)
/-- the object's own numbers change -/
theorem XW.own (W : XW x S dr ra ba pa h) {S' : jST} (h1 : zn S' = zn S) (h2 : zD S' = zD S) (h3 : zm S' = zm S) (h4 : zP S' = zP S) (h5 : zS S' = zS S) : XW x S' dr ra ba pa (hX 7 h x (xF x S' dr) zA) := by
  obtain ⟨w1, ⟨r1, r2, r3, r4⟩, ⟨q, w3⟩, ⟨d0, w4, w4b⟩, w5, w6, w7, w8, w9, w10⟩ := W
  refine ⟨At.own _ _ _ _ _, ⟨?_, ?_, ?_, ?_⟩, ⟨q, w3.mvc w1 (by decide) _ _⟩, ⟨d0, w4.mvc w1 (by decide) _ _, w4b⟩, ?_, ?_, ?_, ?_, ?_, wf_mv w10 w1 _ _⟩
  · rw [h1]; exact tb_mv r1 w1 _ _
  · rw [h1]; exact tb_mv r2 w1 _ _
  · rw [h3]; exact tb_mv r3 w1 _ _
  · exact tb_mv r4 w1 _ _
  · rw [h1, h2]; exact fun i hi => (w5 i hi).mvc w1 (by decide) _ _
  · rw [h1, h2]; exact fun i hi => (w6 i hi).mvc w1 (by decide) (by decide)
  · rw [h3, h4]; exact fun i hi => (w7 i hi).mvc w1 (by decide) (by decide)
  · rw [h5]; exact fun k hk => (w8 k hk).mvc w1 (by decide) _ _
  · rw [h1, h3]; exact w9
theorem XW.ownF (W : XW x S dr ra ba pa h) (f : Nat) : XW x (setF S f) dr ra ba pa (hX 7 h x (xF x (setF S f) dr) zA) := W.own rfl rfl rfl rfl rfl
theorem XW.keep (W : XW x S dr ra ba pa h) (F : Nat → Value) : Keep0 h (hX 7 h x F zA) := Keep0.mv W.1 (by decide) _ _
/-- a block of another kind changes -/
theorem XW.other (W : XW x S dr ra ba pa h) {d a : Nat} {G G' : Nat → Value} {E E' : Nat → Nat → Int32} (B : At d h a G E) (hd : d = 3 ∨ 8 ≤ d) : XW x S dr ra ba pa (hX d h a G' E') := by
  obtain ⟨w1, ⟨r1, r2, r3, r4⟩, ⟨q, w3⟩, ⟨d0, w4, w4b⟩, w5, w6, w7, w8, w9, w10⟩ := W
  exact ⟨w1.mvc B (by omega) _ _, ⟨tb_mv r1 B _ _, tb_mv r2 B _ _, tb_mv r3 B _ _, tb_mv r4 B _ _⟩, ⟨q, w3.mvc B (by omega) _ _⟩, ⟨d0, w4.mvc B (by omega) _ _, w4b⟩, fun i hi => (w5 i hi).mvc B (by omega) _ _, fun i hi => (w6 i hi).mvc B (by omega) (by omega), fun i hi => (w7 i hi).mvc B (by omega) (by omega), fun k hk => (w8 k hk).mvc B (by omega) _ _, w9, wf_mv w10 B _ _⟩
theorem XW.share (W : XW x S dr ra ba pa h) (q : Nat × Nat) : XW x S dr ra ba pa (hX 5 h (x + 5) (shF q) zA) := by
  obtain ⟨w1, ⟨r1, r2, r3, r4⟩, ⟨q0, B⟩, ⟨d0, w4, w4b⟩, w5, w6, w7, w8, w9, w10⟩ := W
  exact ⟨w1.mvc B (by decide) _ _, ⟨tb_mv r1 B _ _, tb_mv r2 B _ _, tb_mv r3 B _ _, tb_mv r4 B _ _⟩, ⟨q, At.own _ _ _ _ _⟩, ⟨d0, w4.mvc B (by decide) _ _, w4b⟩, fun i hi => (w5 i hi).mvc B (by decide) _ _, fun i hi => (w6 i hi).mvc B (by decide) (by decide), fun i hi => (w7 i hi).mvc B (by decide) (by decide), fun k hk => (w8 k hk).mvc B (by decide) _ _, w9, wf_mv w10 B _ _⟩
theorem XW.sheet (W : XW x S dr ra ba pa h) {k : Nat} (hk : k < 4) (d : jSD) : XW x (setS S k d) dr ra ba pa (hX 6 h (x + 11 + 2 * k) (sdF d) (sdA d)) := by
  obtain ⟨w1, ⟨r1, r2, r3, r4⟩, ⟨q0, w3⟩, ⟨d0, w4, w4b⟩, w5, w6, w7, w8, w9, w10⟩ := W
  have B := w8 k hk
  refine ⟨w1.mvc B (by decide) _ _, ⟨tb_mv r1 B _ _, tb_mv r2 B _ _, tb_mv r3 B _ _, tb_mv r4 B _ _⟩, ⟨q0, w3.mvc B (by decide) _ _⟩, ⟨d0, w4.mvc B (by decide) _ _, w4b⟩, fun i hi => (w5 i hi).mvc B (by decide) _ _, fun i hi => (w6 i hi).mvc B (by decide) (by decide), fun i hi => (w7 i hi).mvc B (by decide) (by decide), fun j hj => ?_, w9, wf_mv w10 B _ _⟩
  show SheetAt _ _ (if j = k then d else zS S j)
  by_cases e : j = k
  · subst e; rw [if_pos rfl]; exact At.own _ _ _ _ _
  · rw [if_neg e]; exact (w8 j hj).mv B (by omega) _ _
theorem setL_setL (d : jRD) (q w : Option (Nat × Nat)) : setL (setL d q) w = setL d w := rfl
theorem BestOk_L {d : jRD} {rr ws lp lf : Int32} {A AJ : Nat → Nat → Int32} (q : Option (Nat × Nat)) (H : BestOk d rr ws lp lf A AJ) : BestOk (setL d q) rr ws lp lf A AJ := H
theorem XW.lame (W : XW x S dr ra ba pa h) {i : Nat} (hi : i < zn S) (q : Option (Nat × Nat)) : XW x (setD S i (setL (zD S i) q)) dr ra ba pa (hX 4 h (ra i) (rdF (setL (zD S i) q)) (roA (zD S i))) := by
  obtain ⟨w1, ⟨r1, r2, r3, r4⟩, ⟨q0, w3⟩, ⟨d0, w4, w4b⟩, w5, w6, w7, w8, w9, w10⟩ := W
  have B := w5 i hi
  refine ⟨w1.mvc B (by decide) _ _, ⟨tb_mv r1 B _ _, tb_mv r2 B _ _, tb_mv r3 B _ _, tb_mv r4 B _ _⟩, ⟨q0, w3.mvc B (by decide) _ _⟩, ⟨d0, w4.mv B (fun z => w9.2.1 i hi z.symm) _ _, w4b⟩, fun j hj => ?_, fun j hj => ?_, fun j hj => (w7 j hj).mvc B (by decide) (by decide), fun k hk => (w8 k hk).mvc B (by decide) _ _, w9, wf_mv w10 B _ _⟩
  · show RoadAt _ _ (if j = i then setL (zD S i) q else zD S j)
    by_cases e : j = i
    · subst e; rw [if_pos rfl]; exact At.own _ _ _ _ _
    · rw [if_neg e]; exact (w5 j hj).mv B (fun z => e (w9.1 j i hj hi z)) _ _
  · show BestAt _ _ _ (if j = i then setL (zD S i) q else zD S j)
    have g := (w6 j hj).mvc (G' := rdF (setL (zD S i) q)) (E' := roA (zD S i)) B (by decide) (by decide)
    by_cases e : j = i
    · subst e; rw [if_pos rfl]
      obtain ⟨rr, ws, lp, lf, A, AJ, e1, e2, e3⟩ := g
      exact ⟨rr, ws, lp, lf, A, AJ, e1, e2, BestOk_L q e3⟩
    · rw [if_neg e]; exact g
/-- a plan's journey is gone through -/
theorem XW.jour (W : XW x S dr ra ba pa h) {q : Nat} (hq : q < zm S) {AJ : Nat → Nat → Int32} (hZ : Z0 AJ) : XW x S dr ra ba pa (jJ h (pa q + 2) (ra (pX (zP S q))) AJ) := by
  obtain ⟨w1, ⟨r1, r2, r3, r4⟩, ⟨q0, w3⟩, ⟨d0, w4, w4b⟩, w5, w6, w7, w8, w9, w10⟩ := W
  obtain ⟨p1, AJ0, B, p3⟩ := w7 q hq
  refine ⟨w1.mvc B (by decide) _ _, ⟨tb_mv r1 B _ _, tb_mv r2 B _ _, tb_mv r3 B _ _, tb_mv r4 B _ _⟩, ⟨q0, w3.mvc B (by decide) _ _⟩, ⟨d0, w4.mvc B (by decide) _ _, w4b⟩, fun j hj => (w5 j hj).mvc B (by decide) _ _, fun j hj => ?_, fun j hj => ?_, fun k hk => (w8 k hk).mvc B (by decide) _ _, w9, wf_mv w10 B _ _⟩
  · refine (w6 j hj).mv B (by decide) (fun z => ?_)
    obtain ⟨rr, ws, lp, lf, A, AJ, e1, e2, e3⟩ := w6 j hj
    have := p1.apart e1 (p1.nc e1 (by decide))
    simp only [oN] at this
    omega
  · by_cases e : j = q
    · subst e
      exact ⟨p1.mvc B (by decide) _ _, AJ, At.own _ _ _ _ _, hZ⟩
    · exact (w7 j hj).mv B (by decide) (fun z => e (w9.2.2.2 j q hj hq (by omega)))
/-- a Best remembers other things -/
theorem XW.best (W : XW x S dr ra ba pa h) {i : Nat} (hi : i < zn S) {rr ws lp lf : Int32} {A AJ : Nat → Nat → Int32} (hO : BestOk (zD S i) rr ws lp lf A AJ) : XW x S dr ra ba pa (bJ h (ba i) (ra i) rr ws lp lf A AJ) ∧ Keep0 h (bJ h (ba i) (ra i) rr ws lp lf A AJ) := by
  obtain ⟨w1, ⟨r1, r2, r3, r4⟩, ⟨q0, w3⟩, ⟨d0, w4, w4b⟩, w5, w6, w7, w8, w9, w10⟩ := W
  obtain ⟨rr0, ws0, lp0, lf0, A0, AJ0, B0, B1, hO0⟩ := w6 i hi
  have B0' : At 0 (jJ h (ba i + 4) (ra i) AJ) (ba i) (bF (ra i) (ba i) rr0 ws0 lp0 lf0) A0 := B0.mvc B1 (by decide) _ _
  refine ⟨⟨(w1.mvc B1 (by decide) _ _).mvc B0' (by decide) _ _, ⟨tb_mv (tb_mv r1 B1 _ _) B0' _ _, tb_mv (tb_mv r2 B1 _ _) B0' _ _, tb_mv (tb_mv r3 B1 _ _) B0' _ _, tb_mv (tb_mv r4 B1 _ _) B0' _ _⟩, ⟨q0, (w3.mvc B1 (by decide) _ _).mvc B0' (by decide) _ _⟩, ⟨d0, (w4.mvc B1 (by decide) _ _).mvc B0' (by decide) _ _, w4b⟩, fun j hj => ((w5 j hj).mvc B1 (by decide) _ _).mvc B0' (by decide) _ _, fun j hj => ?_, fun j hj => ?_, fun k hk => ((w8 k hk).mvc B1 (by decide) _ _).mvc B0' (by decide) _ _, w9, wf_mv (wf_mv w10 B1 _ _) B0' _ _⟩, (Keep0.mv B1 (by decide) _ _).tr (Keep0.mv B0' (by decide) _ _)⟩
  · by_cases e : j = i
    · subst e
      exact ⟨rr, ws, lp, lf, A, AJ, At.own _ _ _ _ _, At.mvc (At.own 1 h (ba j + 4) (jF (ra j)) AJ) B0' (by decide) _ _, hO⟩
    · obtain ⟨rr1, ws1, lp1, lf1, A1, AJ1, C0, C1, hO1⟩ := w6 j hj
      have hne : ba j ≠ ba i := fun z => e (w9.2.2.1 j i hj hi z)
      exact ⟨rr1, ws1, lp1, lf1, A1, AJ1, (C0.mvc B1 (by decide) _ _).mv B0' hne _ _, (C1.mv B1 (by omega) _ _).mvc B0' (by decide) _ _, hO1⟩
  · obtain ⟨p1, AJ2, p2, p3⟩ := w7 j hj
    have hne : pa j + 2 ≠ ba i + 4 := by
      intro z
      have := p1.apart B0 (p1.nc B0 (by decide))
      simp only [oN] at this
      omega
    exact ⟨(p1.mvc B1 (by decide) _ _).mvc B0' (by decide) _ _, AJ2, (p2.mv B1 hne _ _).mvc B0' (by decide) _ _, p3⟩
end XRows
