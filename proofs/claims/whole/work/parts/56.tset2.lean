def lv (t n : Int32) : Int32 := nI 31 * t + n
def tellT (p : jPD) (t : Int32) : Int32 := if pK p = 2 then lv (lv (lv (lv t (nI 3)) (nI 2)) (nI 1)) (nI 1) else if pK p = 1 then lv (lv t (nI 2)) (nI 1) else lv t (nI 1)
def tellA (p : jPD) : Nat := if pK p = 2 then rdn (pC p) 24 + 100 + rdn (pC p) 24 else if pK p = 1 then rdn (pC p) 24 + 100 else rdn (pC p) 24
def rTell (S : jST) (v : Int32) : Int32 × jST := if inN v (zm S) then (nI (tellA (zP S v.toNatClampNeg)), setT S (tellT (zP S v.toNatClampNeg) (zt S))) else (-nI 1, S)
def rCall (S : jST) (v : Int32) : Int32 × jST := if inN v (zm S) then (if pK (zP S v.toNatClampNeg) = 2 then (nI 60, setT S (lv (zt S) (nI 5))) else (v, setT S (lv (zt S) (nI 4)))) else (-nI 1, S)
def rAs (S : jST) (v k : Int32) : Int32 × jST := if inN v (zm S) then (if inN k 3 then (if nI (pK (zP S v.toNatClampNeg)) < k then (fI 2, setF S 2) else (nI 1, setF S 0)) else (-nI 2, setF S 0)) else (-nI 1, setF S 0)
def manyN (S : jST) : Nat → Nat
  | 0 => zn S | 1 => zm S | 2 => sumN (fun i => rE (zD S i)) (zn S) | _ => sumN (fun i => rB (zD S i)) (zn S)
def aMany (S : jST) (w : Int32) : Int32 := if inN w 4 then nI (manyN S w.toNatClampNeg) else -nI 2
theorem lane_eq {a b : jSD} (ha : sdOk a) (hb : sdOk b) (h0 : ¬ sL a = none) (h1 : ¬ sL b = none) : (laneI (sL a) = laneI (sL b)) = (sL a = sL b) := by
  cases ea : sL a with
  | none => exact absurd ea h0
  | some l =>
    cases eb : sL b with
    | none => exact absurd eb h1
    | some l' =>
      have h2 := ha.2.2 l ea
      have h3 := hb.2.2 l' eb
      show (nI l = nI l') = _
      rw [nI_inj (by omega) (by omega), Option.some.injEq]
theorem sh_wI {h : jHp} {b : Nat} {d : jSD} (H : SheetAt h b d) : wI h (b + 1) = some (120, sC d) := by
  unfold wI
  rw [H.celli (i := 1) (by decide) (by decide)]
  rfl
theorem sdA_cp (a b : jSD) (i j n : Nat) : updA (sdA b) 1 (va_cpy (sC a) (sC b) i j n) = sdA (cpD a b i j n) := by
  funext k t
  unfold updA
  by_cases e : k = 1
  · subst e; rfl
  · rw [if_neg e]
    match k, e with
    | 0, _ => rfl
    | k + 2, _ => rfl
theorem c_acpy {h : jHp} {b b' : Nat} {d d' : jSD} (H : SheetAt h b d) (H' : SheetAt h b' d') (hd : sdOk d) (hd' : sdOk d') {i j n : Int32} (h1 : inCs i n (sN d)) (h2 : inCs j n (sN d')) : acpy h (b + 1) i (b' + 1) j n = some (hX 6 h b' (sdF d') (sdA (cpD d d' i.toNatClampNeg j.toNatClampNeg n.toNatClampNeg))) := by
  have g1 := hd.1
  have g2 := hd'.1
  have ei : i.toNatClampNeg = i.toInt.toNat := rfl
  have ej : j.toNatClampNeg = j.toInt.toNat := rfl
  have en : n.toNatClampNeg = n.toInt.toNat := rfl
  obtain ⟨a1, a2, a3⟩ := h1
  obtain ⟨b1, b2, b3⟩ := h2
  unfold acpy
  rw [sh_wI H, sh_wI H', Option.bind_some, Option.bind_some, if_neg]
  · have e := hset_hXi (c := 6) (h := h) (b := b') (i := 1) (F := sdF d') (A := sdA d') (by decide) (by decide) (va_cpy (sC d) (sC d') i.toNatClampNeg j.toNatClampNeg n.toNatClampNeg)
    rw [show hX 6 h b' (sdF d') (sdA d') = h from H', sdA_cp] at e
    exact congrArg some e
  · simp only [lt0_int]
    omega
section TSet2
variable {x dr : Nat} {S : jST} {ra ba pa : Nat → Nat} {h : jHp}
theorem T_copy (W : XW x S dr ra ba pa h) (hS : stOk S) (k i o j n : Int32) : Gv x dr ra ba pa (rCopy S k i o j n).2 h (mc 127 [.ref x, .int k, .int i, .int o, .int j, .int n] h) (.int (rCopy S k i o j n).1) := by
  have W0 := W.ownF 0
  have K0 := W.keep (xF x (setF S 0) dr)
  rw [M127, xw_f W 0, obd_some, xw_o W0, obd_some]
  unfold rCopy
  have fl : ∀ f, XW x (setF S f) dr ra ba pa (hX 7 (hX 7 h x (xF x (setF S 0) dr) zA) x (xF x (setF (setF S 0) f) dr) zA) ∧ Keep0 h (hX 7 (hX 7 h x (xF x (setF S 0) dr) zA) x (xF x (setF (setF S 0) f) dr) zA) := fun f => ⟨W0.own rfl rfl rfl rfl rfl, K0.tr (W0.keep _)⟩
  have e29 : ∀ o0 o1 o2 o3 o4 o5 o6 o7 (h : jHp), R 2 127 29 [o0, o1, o2, o3, o4, o5, o6, o7] [] h = some (some (.int (-nI 1)), h) := by
    intro o0 o1 o2 o3 o4 o5 o6 o7 h
    rw [B127_29, B127_30]
  have e47 : ∀ o1 o2 o3 o4 o5 o6 o7, R 2 127 47 [some (.ref x), o1, o2, o3, o4, o5, o6, o7] [] (hX 7 h x (xF x (setF S 0) dr) zA) = some (some (.int (fI 1)), hX 7 (hX 7 h x (xF x (setF S 0) dr) zA) x (xF x (setF (setF S 0) 1) dr) zA) := by
    intro o1 o2 o3 o4 o5 o6 o7
    rw [B127_47, B127_48, xw_o W0, obd_some, c_failed W0 1]
    simp only [obd_some, obd_none, Option.toList_some, Option.toList_none, List.cons_append, List.nil_append, cond_true, cond_false, B127_52]
  have e95 : ∀ o1 o2 o3 o4 o5 o6 o7, R 2 127 95 [some (.ref x), o1, o2, o3, o4, o5, o6, o7] [] (hX 7 h x (xF x (setF S 0) dr) zA) = some (some (.int (fI 3)), hX 7 (hX 7 h x (xF x (setF S 0) dr) zA) x (xF x (setF (setF S 0) 3) dr) zA) := by
    intro o1 o2 o3 o4 o5 o6 o7
    rw [B127_95, B127_96, xw_o W0, obd_some, c_failed W0 3]
    simp only [obd_some, obd_none, Option.toList_some, Option.toList_none, List.cons_append, List.nil_append, cond_true, cond_false, B127_100]
  by_cases hk : inN k 4
  · obtain ⟨a, ha, rfl⟩ := inN_nI hk
    have H0 := xw_sheet W0 ha
    have hd := hS.2.2.2.2.2.2 a ha
    rw [if_pos hk, c_sheetOf W0 ha, toNat_nI (by omega)]
    simp only [obd_some, obd_none, Option.toList_some, Option.toList_none, List.cons_append, List.nil_append, cond_true, cond_false, B127_10r, xw_o W0]
    by_cases ho : inN o 4
    · obtain ⟨b, hb, rfl⟩ := inN_nI ho
      have H1 := xw_sheet W0 hb
      have hd' := hS.2.2.2.2.2.2 b hb
      rw [if_pos ho, c_sheetOf W0 hb, toNat_nI (by omega)]
      simp only [obd_some, obd_none, Option.toList_some, Option.toList_none, List.cons_append, List.nil_append, cond_true, cond_false, B127_17rr, sh_o H0, c_isNothing H0 hd, B127_36rr, b2i_0]
      by_cases l0 : sL (zS S a) = none
      · rw [if_neg (show ¬ ¬ sL (zS (setF S 0) a) = none from not_not_intro l0), if_pos (Or.inl l0), e47]
        exact ⟨_, rfl, fl 1⟩
      · rw [if_pos (show ¬ sL (zS (setF S 0) a) = none from l0), sh_o H1, obd_some, c_isNothing H1 hd']
        simp only [obd_some, obd_none, Option.toList_some, Option.toList_none, List.cons_append, List.nil_append, cond_true, cond_false, B127_44rr, b2i_0]
        by_cases l1 : sL (zS S b) = none
        · rw [if_neg (show ¬ ¬ sL (zS (setF S 0) b) = none from not_not_intro l1), if_pos (Or.inr l1), e47]
          exact ⟨_, rfl, fl 1⟩
        · rw [if_pos (show ¬ sL (zS (setF S 0) b) = none from l1), if_neg (fun z => z.elim l0 l1), sh_1 H0, obd_some, sh_1 H1, obd_some]
          have el := lane_eq hd hd' l0 l1
          by_cases c : sL (zS S a) = sL (zS S b)
          · rw [if_pos (show laneI (sL (zS (setF S 0) a)) = laneI (sL (zS (setF S 0) b)) from el ▸ c), if_neg (not_not_intro c), sh_o H0, obd_some, c_hasCells H0 hd]
            simp only [obd_some, obd_none, Option.toList_some, Option.toList_none, List.cons_append, List.nil_append, cond_true, cond_false, B127_80rr, b2i_0]
            by_cases i1 : inCs i n (sN (zS S a))
            · rw [if_neg (show ¬ ¬ inCs i n (sN (zS (setF S 0) a)) from not_not_intro i1), sh_o H1, obd_some, c_hasCells H1 hd']
              simp only [obd_some, obd_none, Option.toList_some, Option.toList_none, List.cons_append, List.nil_append, cond_true, cond_false, B127_92rr, b2i_0]
              by_cases i2 : inCs j n (sN (zS S b))
              · rw [if_neg (show ¬ ¬ inCs j n (sN (zS (setF S 0) b)) from not_not_intro i2), if_pos ⟨i1, i2⟩, sh_0 H0, obd_some, sh_0 H1, obd_some, c_acpy H0 H1 hd hd' i1 i2, obd_some]
                exact ⟨_, rfl, W0.sheet hb (cpD (zS S a) (zS S b) i.toNatClampNeg j.toNatClampNeg n.toNatClampNeg), K0.tr (Keep0.mv H1 (by decide) _ _)⟩
              · rw [if_pos (show ¬ inCs j n (sN (zS (setF S 0) b)) from i2), if_neg (fun z => i2 z.2), e95]
                exact ⟨_, rfl, fl 3⟩
            · rw [if_pos (show ¬ inCs i n (sN (zS (setF S 0) a)) from i1), if_neg (fun z => i1 z.1), e95]
              exact ⟨_, rfl, fl 3⟩
          · rw [if_neg (show ¬ laneI (sL (zS (setF S 0) a)) = laneI (sL (zS (setF S 0) b)) from fun z => c (el ▸ z)), if_pos c, xw_o W0, obd_some, c_failed W0 2]
            simp only [obd_some, obd_none, Option.toList_some, Option.toList_none, List.cons_append, List.nil_append, cond_true, cond_false, B127_71rr]
            exact ⟨_, rfl, fl 2⟩
    · rw [if_neg ho, c_sheetNo ho]
      simp only [obd_some, obd_none, Option.toList_some, Option.toList_none, List.cons_append, List.nil_append, cond_true, cond_false, B127_17rn, e29]
      exact ⟨_, rfl, W0, K0⟩
  · rw [if_neg hk, c_sheetNo hk]
    simp only [obd_some, obd_none, Option.toList_some, Option.toList_none, List.cons_append, List.nil_append, cond_true, cond_false, B127_10n, xw_o W0]
    by_cases ho : inN o 4
    · obtain ⟨b, hb, rfl⟩ := inN_nI ho
      rw [c_sheetOf W0 hb]
      simp only [obd_some, obd_none, Option.toList_some, Option.toList_none, List.cons_append, List.nil_append, cond_true, cond_false, B127_17nr, e29]
      exact ⟨_, rfl, W0, K0⟩
    · rw [c_sheetNo ho]
      simp only [obd_some, obd_none, Option.toList_some, Option.toList_none, List.cons_append, List.nil_append, cond_true, cond_false, B127_17nn, e29]
      exact ⟨_, rfl, W0, K0⟩
theorem c_leave (W : XW x S dr ra ba pa h) (n : Int32) : mc 130 [.ref x, .int n] h = some (none, hX 7 h x (xF x (setT S (lv (zt S) n)) dr) zA) := by
  rw [M130, xw_9 W, obd_some, xw_p W, obd_some, xF_t]
  rfl
theorem XW.ownT (W : XW x S dr ra ba pa h) (t : Int32) : XW x (setT S t) dr ra ba pa (hX 7 h x (xF x (setT S t) dr) zA) := W.own rfl rfl rfl rfl rfl
theorem c_planBody (W : XW x S dr ra ba pa h) (hS : stOk S) {i : Nat} (hi : i < zm S) : ∃ h', mc 132 [.ref x, .ref (pa i)] h = some (some (.int (nI (rdn (pC (zP S i)) 24))), h') ∧ XW x (setT S (lv (zt S) (nI 1))) dr ra ba pa h' ∧ Keep0 h h' := by
  have W1 := W.ownT (lv (zt S) (nI 1))
  have P1 := (xw_plan W1 hi).1
  obtain ⟨hx, hp⟩ := hS.2.2.2.2.2.1 i hi
  have hd := (hS.2.2.2.2.1 _ hx).1
  refine ⟨_, ?_, W1, W.keep _⟩
  rw [M132, xw_o W, obd_some, c_leave W]
  simp only [obd_some, obd_none, Option.toList_some, Option.toList_none, List.cons_append, List.nil_append, cond_true, cond_false, B132_5]
  rw [pn_o P1, obd_some, c_ridden P1 (fun c => Nat.le_trans (hp.2.2.2.1 c) hd.2.2.1)]
  simp only [obd_some, obd_none, Option.toList_some, Option.toList_none, List.cons_append, List.nil_append, cond_true, cond_false, B132_9]
  rfl
theorem c_meetBody (W : XW x S dr ra ba pa h) (hS : stOk S) {i : Nat} (hi : i < zm S) : ∃ h', mc 131 [.ref x, .ref (pa i)] h = some (some (.int (nI (rdn (pC (zP S i)) 24 + 100))), h') ∧ XW x (setT S (lv (lv (zt S) (nI 2)) (nI 1))) dr ra ba pa h' ∧ Keep0 h h' := by
  have W1 := W.ownT (lv (zt S) (nI 2))
  obtain ⟨h2, e2, W2, K2⟩ := c_planBody W1 (stOk_T hS _) hi
  refine ⟨h2, ?_, W2, (W.keep _).tr K2⟩
  rw [M131, xw_o W, obd_some, c_leave W]
  simp only [obd_some, obd_none, Option.toList_some, Option.toList_none, List.cons_append, List.nil_append, cond_true, cond_false, B131_5]
  rw [xw_o W1, obd_some, e2]
  simp only [obd_some, obd_none, Option.toList_some, Option.toList_none, List.cons_append, List.nil_append, cond_true, cond_false, B131_10, nJ_add]
  rfl
theorem c_restBody (W : XW x S dr ra ba pa h) (hS : stOk S) {i : Nat} (hi : i < zm S) : ∃ h', mc 129 [.ref x, .ref (pa i)] h = some (some (.int (nI (rdn (pC (zP S i)) 24 + 100 + rdn (pC (zP S i)) 24))), h') ∧ XW x (setT S (lv (lv (lv (lv (zt S) (nI 3)) (nI 2)) (nI 1)) (nI 1))) dr ra ba pa h' ∧ Keep0 h h' := by
  have W1 := W.ownT (lv (zt S) (nI 3))
  obtain ⟨h2, e2, W2, K2⟩ := c_meetBody W1 (stOk_T hS _) hi
  obtain ⟨h3, e3, W3, K3⟩ := c_planBody W2 (stOk_T (stOk_T hS _) _) hi
  refine ⟨h3, ?_, W3, ((W.keep _).tr K2).tr K3⟩
  rw [M129, xw_o W, obd_some, c_leave W]
  simp only [obd_some, obd_none, Option.toList_some, Option.toList_none, List.cons_append, List.nil_append, cond_true, cond_false, B129_5]
  rw [xw_o W1, obd_some, e2]
  simp only [obd_some, obd_none, Option.toList_some, Option.toList_none, List.cons_append, List.nil_append, cond_true, cond_false, B129_10]
  rw [xw_o W2, obd_some, e3]
  simp only [obd_some, obd_none, Option.toList_some, Option.toList_none, List.cons_append, List.nil_append, cond_true, cond_false, B129_17, nJ_add]
  rfl
theorem T_tell (W : XW x S dr ra ba pa h) (hS : stOk S) (v : Int32) : Gv x dr ra ba pa (rTell S v).2 h (mc 128 [.ref x, .int v] h) (.int (rTell S v).1) := by
  have h3 := hS.2.1
  rw [M128, xw_o W, obd_some]
  unfold rTell
  by_cases hv : inN v (zm S)
  · obtain ⟨i, hi, rfl⟩ := inN_nI hv
    have P0 := (xw_plan W hi).1
    have hk := (hS.2.2.2.2.2.1 i hi).2.1
    rw [if_pos hv, c_planOf W hS hi, toNat_nI (by omega)]
    simp only [obd_some, obd_none, Option.toList_some, Option.toList_none, List.cons_append, List.nil_append, cond_true, cond_false, B128_5r, pn_0 P0, B128_16r]
    unfold tellA tellT
    rcases (by omega : pK (zP S i) = 0 ∨ pK (zP S i) = 1 ∨ pK (zP S i) = 2) with e | e | e
    · obtain ⟨h2, e2, W2, K2⟩ := c_planBody W hS hi
      simp only [e]
      refine ⟨h2, (B128_56r _ _ _ _).trans ?_, W2, K2⟩
      rw [xw_o W, obd_some, e2]
      simp only [obd_some, obd_none, Option.toList_some, Option.toList_none, List.cons_append, List.nil_append, cond_true, cond_false, B128_61r]
      rfl
    · obtain ⟨h2, e2, W2, K2⟩ := c_meetBody W hS hi
      simp only [e]
      refine ⟨h2, (B128_50r _ _ _ _).trans ?_, W2, K2⟩
      rw [xw_o W, obd_some, e2]
      simp only [obd_some, obd_none, Option.toList_some, Option.toList_none, List.cons_append, List.nil_append, cond_true, cond_false, B128_55r]
      rfl
    · obtain ⟨h2, e2, W2, K2⟩ := c_restBody W hS hi
      simp only [e]
      refine ⟨h2, (B128_44r _ _ _ _).trans ?_, W2, K2⟩
      rw [xw_o W, obd_some, e2]
      simp only [obd_some, obd_none, Option.toList_some, Option.toList_none, List.cons_append, List.nil_append, cond_true, cond_false, B128_49r]
      rfl
  · rw [if_neg hv, c_planNo W hS hv]
    simp only [obd_some, obd_none, Option.toList_some, Option.toList_none, List.cons_append, List.nil_append, cond_true, cond_false, B128_5n]
    exact Gv.same W rfl
theorem T_call (W : XW x S dr ra ba pa h) (hS : stOk S) (v : Int32) : Gv x dr ra ba pa (rCall S v).2 h (mc 134 [.ref x, .int v] h) (.int (rCall S v).1) := by
  have h3 := hS.2.1
  rw [M134, xw_o W, obd_some]
  unfold rCall
  by_cases hv : inN v (zm S)
  · obtain ⟨i, hi, rfl⟩ := inN_nI hv
    have P0 := (xw_plan W hi).1
    have hk := (hS.2.2.2.2.2.1 i hi).2.1
    rw [if_pos hv, c_planOf W hS hi, toNat_nI (by omega)]
    simp only [obd_some, obd_none, Option.toList_some, Option.toList_none, List.cons_append, List.nil_append, cond_true, cond_false, B134_5r, pn_0 P0]
    by_cases e : pK (zP S i) = 2
    · have W1 := W.ownT (lv (zt S) (nI 5))
      rw [if_pos (show nI (pK (zP S i)) = nI 2 by rw [e]), if_pos e, xw_o W, obd_some, c_leave W]
      simp only [obd_some, obd_none, Option.toList_some, Option.toList_none, List.cons_append, List.nil_append, cond_true, cond_false, B134_29r]
      rw [pn_0 (xw_plan W1 hi).1, obd_some, if_pos (show nI (pK (zP (setT S (lv (zt S) (nI 5))) i)) = nI 2 by show nI (pK (zP S i)) = nI 2; rw [e])]
      exact ⟨_, rfl, W1, W.keep _⟩
    · have W1 := W.ownT (lv (zt S) (nI 4))
      have ne : ¬ nI (pK (zP S i)) = nI 2 := by rw [nI_inj (by omega) (by omega)]; exact e
      rw [if_neg ne, if_neg e, xw_o W, obd_some, c_leave W]
      simp only [obd_some, obd_none, Option.toList_some, Option.toList_none, List.cons_append, List.nil_append, cond_true, cond_false, B134_29r]
      rw [pn_0 (xw_plan W1 hi).1, obd_some, if_neg (show ¬ nI (pK (zP (setT S (lv (zt S) (nI 4))) i)) = nI 2 from ne)]
      exact ⟨_, rfl, W1, W.keep _⟩
  · rw [if_neg hv, c_planNo W hS hv]
    simp only [obd_some, obd_none, Option.toList_some, Option.toList_none, List.cons_append, List.nil_append, cond_true, cond_false, B134_5n]
    exact Gv.same W rfl
theorem T_as (W : XW x S dr ra ba pa h) (hS : stOk S) (v k : Int32) : Gv x dr ra ba pa (rAs S v k).2 h (mc 135 [.ref x, .int v, .int k] h) (.int (rAs S v k).1) := by
  have h3 := hS.2.1
  have W0 := W.ownF 0
  have S0 := stOk_F hS (f := 0) (by omega)
  have K0 := W.keep (xF x (setF S 0) dr)
  rw [M135, xw_f W 0, obd_some, xw_o W0, obd_some]
  unfold rAs
  by_cases hv : inN v (zm S)
  · obtain ⟨i, hi, rfl⟩ := inN_nI hv
    have P0 := (xw_plan W0 hi).1
    rw [if_pos hv, c_planOf W0 S0 hi, toNat_nI (by omega)]
    simp only [obd_some, obd_none, Option.toList_some, Option.toList_none, List.cons_append, List.nil_append, cond_true, cond_false, B135_10r]
    rw [ite_in (by decide)]
    by_cases hk : inN k 3
    · rw [if_pos hk, if_pos hk, pn_0 P0, obd_some]
      by_cases c : nI (pK (zP S i)) < k
      · rw [if_pos (show nI (pK (zP (setF S 0) i)) < k from c), if_pos c, xw_o W0, obd_some, c_failed W0 2]
        simp only [obd_some, obd_none, Option.toList_some, Option.toList_none, List.cons_append, List.nil_append, cond_true, cond_false, B135_42r]
        exact ⟨_, rfl, W0.own rfl rfl rfl rfl rfl, K0.tr (W0.keep _)⟩
      · rw [if_neg (show ¬ nI (pK (zP (setF S 0) i)) < k from c), if_neg c]
        exact ⟨_, rfl, W0, K0⟩
    · rw [if_neg hk, if_neg hk]
      exact ⟨_, rfl, W0, K0⟩
  · rw [if_neg hv, c_planNo W0 S0 hv]
    simp only [obd_some, obd_none, Option.toList_some, Option.toList_none, List.cons_append, List.nil_append, cond_true, cond_false, B135_10n]
    exact ⟨_, rfl, W0, K0⟩
theorem T_trace (W : XW x S dr ra ba pa h) : mc 136 [.ref x] h = some (some (.int (zt S)), h) := by
  rw [M136, xw_9 W, obd_some]
theorem T_fault (W : XW x S dr ra ba pa h) : mc 137 [.ref x] h = some (some (.int (nI (zf S))), h) := by
  rw [M137, xw_10 W, obd_some]
theorem l_people (W : XW x S dr ra ba pa h) (hS : stOk S) : ∀ m i (o3 : Option Value), i + m = zn S → R 2 139 4 [some (.ref x), some (.int (nI (sumN (fun i => rE (zD S i)) i))), some (.int (nI i)), o3] [] h = some (some (.int (nI (sumN (fun i => rE (zD S i)) (zn S)))), h) := by
  have h3 := hS.1
  intro m
  induction m with
  | zero =>
    intro i o3 hi
    obtain rfl : i = zn S := hi
    rw [B139_4, xw_6 W, obd_some, if_neg (show ¬ nI (zn S) < nI (zn S) from Int32.lt_irrefl)]
  | succ m ih =>
    intro i o3 him
    have hi : i < zn S := by omega
    rw [B139_4, xw_6 W, obd_some, if_pos (show nI i < nI (zn S) by rw [nJ_lt (by omega) (by omega)]; exact hi), xw_o W, obd_some, c_roadOf W hS hi]
    simp only [obd_some, obd_none, Option.toList_some, Option.toList_none, List.cons_append, List.nil_append, cond_true, cond_false, B139_17r]
    rw [rd_1 (xw_road W hi), obd_some, nJ_add, nJ_add]
    exact ih (i + 1) none (by omega)
theorem l_beasts (W : XW x S dr ra ba pa h) (hS : stOk S) : ∀ m i (o3 : Option Value), i + m = zn S → R 2 140 4 [some (.ref x), some (.int (nI (sumN (fun i => rB (zD S i)) i))), some (.int (nI i)), o3] [] h = some (some (.int (nI (sumN (fun i => rB (zD S i)) (zn S)))), h) := by
  have h3 := hS.1
  intro m
  induction m with
  | zero =>
    intro i o3 hi
    obtain rfl : i = zn S := hi
    rw [B140_4, xw_6 W, obd_some, if_neg (show ¬ nI (zn S) < nI (zn S) from Int32.lt_irrefl)]
  | succ m ih =>
    intro i o3 him
    have hi : i < zn S := by omega
    rw [B140_4, xw_6 W, obd_some, if_pos (show nI i < nI (zn S) by rw [nJ_lt (by omega) (by omega)]; exact hi), xw_o W, obd_some, c_roadOf W hS hi]
    simp only [obd_some, obd_none, Option.toList_some, Option.toList_none, List.cons_append, List.nil_append, cond_true, cond_false, B140_17r]
    rw [rd_2 (xw_road W hi), obd_some, nJ_add, nJ_add]
    exact ih (i + 1) none (by omega)
theorem T_many (W : XW x S dr ra ba pa h) (hS : stOk S) (w : Int32) : mc 138 [.ref x, .int w] h = some (some (.int (aMany S w)), h) := by
  rw [M138, B138_1]
  unfold aMany
  by_cases hw : inN w 4
  · obtain ⟨t, ht, rfl⟩ := inN_nI hw
    rw [if_pos hw, toNat_nI (by omega), swT_in (by omega) (by omega)]
    rcases (by omega : t = 0 ∨ t = 1 ∨ t = 2 ∨ t = 3) with rfl | rfl | rfl | rfl
    · exact (B138_32 _ _ _).trans (by rw [xw_6 W]; rfl)
    · exact (B138_37 _ _ _).trans (by rw [xw_7 W]; rfl)
    · refine (B138_42 _ _ _).trans ?_
      have e := l_people W hS (zn S) 0 none (Nat.zero_add _)
      rw [xw_o W, obd_some, M139, show some (Value.int (nI 0)) = some (.int (nI (sumN (fun i => rE (zD S i)) 0))) from rfl]
      rw [show R 2 139 4 [some (.ref x), some (.int (nI (sumN (fun i => rE (zD S i)) 0))), some (.int (nI (sumN (fun i => rE (zD S i)) 0))), none] [] h = _ from e]
      simp only [obd_some, obd_none, Option.toList_some, Option.toList_none, List.cons_append, List.nil_append, cond_true, cond_false, B138_46]
      rfl
    · refine (B138_47 _ _ _).trans ?_
      have e := l_beasts W hS (zn S) 0 none (Nat.zero_add _)
      rw [xw_o W, obd_some, M140, show some (Value.int (nI 0)) = some (.int (nI (sumN (fun i => rB (zD S i)) 0))) from rfl]
      rw [show R 2 140 4 [some (.ref x), some (.int (nI (sumN (fun i => rB (zD S i)) 0))), some (.int (nI (sumN (fun i => rB (zD S i)) 0))), none] [] h = _ from e]
      simp only [obd_some, obd_none, Option.toList_some, Option.toList_none, List.cons_append, List.nil_append, cond_true, cond_false, B138_51]
      rfl
  · rw [if_neg hw, swT_out (fun z => hw ⟨z.1, by omega⟩)]
    exact B138_52 _ _ _
end TSet2
