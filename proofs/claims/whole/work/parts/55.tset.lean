/-! Calls that change what there is. -/
def rGone (S : jST) (v : Int32) : Int32 × jST := if inN v 13 then (nI (zg S), setG S v.toNatClampNeg) else (-nI 2, S)
def rLame (S : jST) (v p k : Int32) : Int32 × jST := if inN v (zn S) then (if p = -nI 9 then (b2i (¬ rL (zD S v.toNatClampNeg) = none), setD S v.toNatClampNeg (setL (zD S v.toNatClampNeg) none)) else if inN p (rE (zD S v.toNatClampNeg)) then (if inN k (rP (zD S v.toNatClampNeg)) then (b2i (¬ rL (zD S v.toNatClampNeg) = some (p.toNatClampNeg, k.toNatClampNeg)), setD S v.toNatClampNeg (setL (zD S v.toNatClampNeg) (some (p.toNatClampNeg, k.toNatClampNeg)))) else (-nI 1, S)) else (-nI 1, S)) else (-nI 1, S)
def fI (f : Nat) : Int32 := -nI 10 - nI f
def rSheet (S : jST) (k l n : Int32) : Int32 × jST := if inN k 4 then (if inN l 3 then (if nI 120 < n then (-nI 2, setF S 0) else if n < 0 then (fI 4, setF S 4) else (nI 1, setS (setF S 0) k.toNatClampNeg (rnw (zS S k.toNatClampNeg) (some l.toNatClampNeg) n.toNatClampNeg 120))) else (-nI 2, setF S 0)) else (-nI 1, setF S 0)
def rLose (S : jST) (k : Int32) : Int32 × jST := if inN k 4 then (if sL (zS S k.toNatClampNeg) = none then (nI 0, S) else (nI 1, setS S k.toNatClampNeg (rnw (zS S k.toNatClampNeg) none 0 120))) else (-nI 1, S)
def rPut (S : jST) (k i v : Int32) : Int32 × jST := if inN k 4 then (if sL (zS S k.toNatClampNeg) = none then (fI 1, setF S 1) else if inN i (sN (zS S k.toNatClampNeg)) then (nI 1, setS (setF S 0) k.toNatClampNeg (setC (zS S k.toNatClampNeg) i.toNatClampNeg (cutL (sL (zS S k.toNatClampNeg)) v))) else (fI 3, setF S 3)) else (-nI 1, setF S 0)
def rCell (S : jST) (k i l : Int32) : Int64 × jST := if inN k 4 then (if inN l 3 then (if fCell (zS S k.toNatClampNeg) l i = 0 then ((sC (zS S k.toNatClampNeg) i.toNatClampNeg).toInt64, setF S 0) else (lostJ, setF S (fCell (zS S k.toNatClampNeg) l i))) else (lostJ, setF S 0)) else (lostJ, setF S 0)
def cpD (a b : jSD) (i j n : Nat) : jSD := (sL b, sN b, va_cpy (sC a) (sC b) i j n)
def rCopy (S : jST) (k i o j n : Int32) : Int32 × jST := if inN k 4 then (if inN o 4 then (if sL (zS S k.toNatClampNeg) = none ∨ sL (zS S o.toNatClampNeg) = none then (fI 1, setF S 1) else if ¬ sL (zS S k.toNatClampNeg) = sL (zS S o.toNatClampNeg) then (fI 2, setF S 2) else if inCs i n (sN (zS S k.toNatClampNeg)) ∧ inCs j n (sN (zS S o.toNatClampNeg)) then (n, setS (setF S 0) o.toNatClampNeg (cpD (zS S k.toNatClampNeg) (zS S o.toNatClampNeg) i.toNatClampNeg j.toNatClampNeg n.toNatClampNeg)) else (fI 3, setF S 3)) else (-nI 1, setF S 0)) else (-nI 1, setF S 0)
theorem stOk_F {S : jST} (hS : stOk S) {f : Nat} (hf : f ≤ 4) : stOk (setF S f) := ⟨hS.1, hS.2.1, hS.2.2.1, hf, hS.2.2.2.2⟩
theorem stOk_G {S : jST} (hS : stOk S) {g : Nat} (hg : g ≤ 12) : stOk (setG S g) := ⟨hS.1, hS.2.1, hg, hS.2.2.2⟩
theorem stOk_T {S : jST} (hS : stOk S) (t : Int32) : stOk (setT S t) := hS
theorem stOk_S {S : jST} (hS : stOk S) {k : Nat} {d : jSD} (hd : sdOk d) : stOk (setS S k d) := by
  obtain ⟨s1, s2, s3, s4, s5, s6, s7⟩ := hS
  refine ⟨s1, s2, s3, s4, s5, s6, fun j hj => ?_⟩
  show sdOk (if j = k then d else zS S j)
  split
  · exact hd
  · exact s7 j hj
theorem stOk_L {S : jST} (hS : stOk S) {i : Nat} {q : Option (Nat × Nat)} (hq : ∀ x, q = some x → x.1 < 4 ∧ x.2 < 6) : stOk (setD S i (setL (zD S i) q)) := by
  obtain ⟨s1, s2, s3, s4, s5, s6, s7⟩ := hS
  have e : ∀ j, j < zn S → rdGo (if j = i then setL (zD S i) q else zD S j) := by
    intro j hj
    by_cases c : j = i
    · subst c
      rw [if_pos rfl]
      obtain ⟨⟨d1, d2, d3, d4, d5, d6, d7, d8⟩, g2, g3, g4⟩ := s5 j hj
      exact ⟨⟨d1, d2, d3, d4, d5, d6, d7, hq⟩, g2, g3, g4⟩
    · rw [if_neg c]; exact s5 j hj
  refine ⟨s1, s2, s3, s4, e, fun q' hq' => ?_, s7⟩
  obtain ⟨g1, g2⟩ := s6 q' hq'
  refine ⟨g1, ?_⟩
  show plOk (if pX (zP S q') = i then setL (zD S i) q else zD S (pX (zP S q'))) (zP S q')
  by_cases c : pX (zP S q') = i
  · rw [if_pos c]; rw [c] at g2; exact g2
  · rw [if_neg c]; exact g2
theorem sdOk_rnw {d : jSD} {q : Option Nat} {n : Nat} (hn : n ≤ 120) (h0 : q = none → n = 0) (hq : ∀ l, q = some l → l < 3) (i : Nat) : sdOk (rnw d q n i) := ⟨hn, h0, hq⟩
theorem fCell_le (d : jSD) (l i : Int32) : fCell d l i ≤ 3 := by
  unfold fCell
  by_cases a : sL d = none
  · rw [if_pos a]; omega
  · rw [if_neg a]
    by_cases b : laneI (sL d) = l
    · rw [if_neg (not_not_intro b)]
      by_cases c : inN i (sN d)
      · rw [if_pos c]; omega
      · rw [if_neg c]; omega
    · rw [if_pos b]; omega
section TSet
variable {x dr : Nat} {S : jST} {ra ba pa : Nat → Nat} {h : jHp}
theorem xw_f (W : XW x S dr ra ba pa h) (f : Nat) : pF h x 7 10 (.int (nI f)) = some (hX 7 h x (xF x (setF S f) dr) zA) := (xw_p W 10 _).trans (by rw [xF_f])
theorem c_failed (W : XW x S dr ra ba pa h) (f : Nat) : mc 10 [.ref x, .int (nI f)] h = some (some (.int (fI f)), hX 7 h x (xF x (setF S f) dr) zA) := by
  rw [M10, xw_f W f, obd_some]; rfl
theorem T_gone (W : XW x S dr ra ba pa h) (hS : stOk S) (v : Int32) : Gv x dr ra ba pa (rGone S v).2 h (mc 43 [.ref x, .int v] h) (.int (rGone S v).1) := by
  rw [M43]
  unfold rGone
  by_cases hv : inN v 13
  · obtain ⟨t, ht, rfl⟩ := inN_nI hv
    rw [if_pos hv, if_neg (nI_nneg (by omega)), if_neg (show ¬ nI 12 < nI t by rw [nJ_lt (by omega) (by omega)]; omega), xw_8 W, obd_some, xw_p W, obd_some, xF_g, toNat_nI (by omega)]
    exact ⟨_, rfl, W.own rfl rfl rfl rfl rfl, W.keep _⟩
  · rw [if_neg hv]
    by_cases a : v < 0
    · rw [if_pos a]; exact Gv.same W rfl
    · rw [if_neg a, if_pos (show nI 12 < v by rw [gt_int (by omega)]; rw [lt0_int] at a; exact Classical.byContradiction fun z => hv ⟨by omega, by omega⟩)]
      exact Gv.same W rfl
theorem T_lame (W : XW x S dr ra ba pa h) (hS : stOk S) (v p k : Int32) : Gv x dr ra ba pa (rLame S v p k).2 h (mc 36 [.ref x, .int v, .int p, .int k] h) (.int (rLame S v p k).1) := by
  have h3 := hS.1
  rw [M36, xw_o W, obd_some]
  unfold rLame
  by_cases hv : inN v (zn S)
  · obtain ⟨i, hi, rfl⟩ := inN_nI hv
    have R0 := xw_road W hi
    have hd := (hS.2.2.2.2.1 i hi).1
    have h4 := hd.2.1
    have h6 := hd.1
    rw [if_pos hv, c_roadOf W hS hi, toNat_nI (by omega)]
    simp only [obd_some, obd_none, Option.toList_some, Option.toList_none, List.cons_append, List.nil_append, cond_true, cond_false, B36_5r]
    by_cases p9 : p = -nI 9
    · have e := c_becomeLame (q := none) R0 hd (fun x z => by cases z)
      rw [if_pos p9, if_pos p9, rd_o R0, obd_some, show (Value.int (-nI 9)) = .int (lwho none) from rfl]
      rw [show [Value.ref (ra i), Value.int (lwho none), Value.int (lwho none)] = [Value.ref (ra i), Value.int (lwho none), Value.int (lfro none)] from rfl, e]
      simp only [obd_some, obd_none, Option.toList_some, Option.toList_none, List.cons_append, List.nil_append, cond_true, cond_false, B36_29r, b2i_0]
      refine ⟨_, ?_, W.lame hi none, Keep0.mv R0 (by decide) _ _⟩
      unfold b2i
      by_cases c : rL (zD S i) = none
      · rw [if_pos (not_not_intro c), if_neg (not_not_intro c), B36_37]
      · rw [if_neg (fun z => z c), if_pos c, B36_37]
    · rw [if_neg p9, if_neg p9, rd_o R0, obd_some, c_hasPerson R0 hd]
      simp only [obd_some, obd_none, Option.toList_some, Option.toList_none, List.cons_append, List.nil_append, cond_true, cond_false, B36_44r, b2i_0]
      by_cases hp : inN p (rE (zD S i))
      · obtain ⟨u, hu, rfl⟩ := inN_nI hp
        rw [if_neg (not_not_intro hp), if_pos hp, toNat_nI (by omega), rd_o R0, obd_some, c_hasPiece R0 hd]
        simp only [obd_some, obd_none, Option.toList_some, Option.toList_none, List.cons_append, List.nil_append, cond_true, cond_false, B36_53r, b2i_0]
        by_cases hk : inN k (rP (zD S i))
        · obtain ⟨w, hw, rfl⟩ := inN_nI hk
          have e := c_becomeLame (q := some (u, w)) R0 hd (fun x z => by cases z; exact ⟨by omega, by omega⟩)
          rw [if_neg (not_not_intro hk), if_pos hk, toNat_nI (by omega), rd_o R0, obd_some]
          rw [show [Value.ref (ra i), Value.int (nI u), Value.int (nI w)] = [Value.ref (ra i), Value.int (lwho (some (u, w))), Value.int (lfro (some (u, w)))] from rfl, e]
          simp only [obd_some, obd_none, Option.toList_some, Option.toList_none, List.cons_append, List.nil_append, cond_true, cond_false, B36_65r, b2i_0]
          refine ⟨_, ?_, W.lame hi (some (u, w)), Keep0.mv R0 (by decide) _ _⟩
          unfold b2i
          by_cases c : rL (zD S i) = some (u, w)
          · rw [if_pos (not_not_intro c), if_neg (not_not_intro c), B36_73]
          · rw [if_neg (fun z => z c), if_pos c, B36_73]
        · rw [if_pos hk, if_neg hk, B36_56, B36_57]
          exact Gv.same W rfl
      · rw [if_pos hp, if_neg hp, B36_56, B36_57]
        exact Gv.same W rfl
  · rw [if_neg hv, c_roadNo W hS hv]
    simp only [obd_some, obd_none, Option.toList_some, Option.toList_none, List.cons_append, List.nil_append, cond_true, cond_false, B36_5n]
    exact Gv.same W rfl
theorem T_sheet (W : XW x S dr ra ba pa h) (hS : stOk S) (k l n : Int32) : Gv x dr ra ba pa (rSheet S k l n).2 h (mc 119 [.ref x, .int k, .int l, .int n] h) (.int (rSheet S k l n).1) := by
  have W0 := W.ownF 0
  have K0 := W.keep (xF x (setF S 0) dr)
  rw [M119, xw_f W 0, obd_some, xw_o W0, obd_some]
  unfold rSheet
  have e34 : ∀ o0 o1 o2 o3 o4 (h : jHp), R 2 119 34 [o0, o1, o2, o3, o4] [] h = some (some (.int (-nI 2)), h) := by
    intro o0 o1 o2 o3 o4 h
    rw [B119_34, B119_36]
  by_cases hk : inN k 4
  · obtain ⟨i, hi, rfl⟩ := inN_nI hk
    have H0 := xw_sheet W0 hi
    rw [if_pos hk, c_sheetOf W0 hi, toNat_nI (by omega)]
    simp only [obd_some, obd_none, Option.toList_some, Option.toList_none, List.cons_append, List.nil_append, cond_true, cond_false, B119_10r]
    rw [ite_in (by decide)]
    by_cases hl : inN l 3
    · obtain ⟨u, hu, rfl⟩ := inN_nI hl
      rw [if_pos hl, if_pos hl, toNat_nI (by omega)]
      by_cases n1 : nI 120 < n
      · rw [if_pos n1, if_pos n1, e34]
        exact ⟨_, rfl, W0, K0⟩
      · rw [if_neg n1, if_neg n1]
        by_cases n0 : n < 0
        · rw [if_pos n0, if_pos n0, xw_o W0, obd_some, c_failed W0 4]
          simp only [obd_some, obd_none, Option.toList_some, Option.toList_none, List.cons_append, List.nil_append, cond_true, cond_false, B119_46r]
          exact ⟨_, rfl, W0.own rfl rfl rfl rfl rfl, K0.tr (W0.keep _)⟩
        · rw [if_neg n0, if_neg n0, sh_o H0, obd_some]
          rw [gt_int (by decide)] at n1
          rw [lt0_int] at n0
          obtain ⟨w, hw, rfl⟩ := inN_nI (k := n) (n := 121) ⟨by omega, by omega⟩
          rw [show (Value.int (nI u)) = .int (laneI (some u)) from rfl, c_renew H0, toNat_nI (by omega)]
          simp only [obd_some, obd_none, Option.toList_some, Option.toList_none, List.cons_append, List.nil_append, cond_true, cond_false, show ∀ l1 l2 l3 l4 h, R 2 119 54 [some (.ref x), some (.int l1), some (.int l2), some (.int l3), some (.ref l4)] [] h = some (some (.int (nI 1)), h) from fun l1 l2 l3 l4 h => B119_54r x l1 l2 l3 l4 h]
          exact ⟨_, rfl, W0.sheet hi _, K0.tr (Keep0.mv H0 (by decide) _ _)⟩
    · rw [if_neg hl, if_neg hl, e34]
      exact ⟨_, rfl, W0, K0⟩
  · rw [if_neg hk, c_sheetNo hk]
    simp only [obd_some, obd_none, Option.toList_some, Option.toList_none, List.cons_append, List.nil_append, cond_true, cond_false, B119_10n]
    exact ⟨_, rfl, W0, K0⟩
theorem T_lose (W : XW x S dr ra ba pa h) (hS : stOk S) (k : Int32) : Gv x dr ra ba pa (rLose S k).2 h (mc 121 [.ref x, .int k] h) (.int (rLose S k).1) := by
  rw [M121, xw_o W, obd_some]
  unfold rLose
  by_cases hk : inN k 4
  · obtain ⟨i, hi, rfl⟩ := inN_nI hk
    have H0 := xw_sheet W hi
    have hd := hS.2.2.2.2.2.2 i hi
    rw [if_pos hk, c_sheetOf W hi, toNat_nI (by omega)]
    simp only [obd_some, obd_none, Option.toList_some, Option.toList_none, List.cons_append, List.nil_append, cond_true, cond_false, B121_5r, sh_o H0, c_isNothing H0 hd, B121_16r, b2i_0]
    by_cases hl : sL (zS S i) = none
    · rw [if_neg (not_not_intro hl), if_pos hl]
      exact Gv.same W rfl
    · rw [if_pos hl, if_neg hl, show (Value.int (-nI 9)) = .int (laneI none) from rfl, c_renew H0]
      simp only [obd_some, obd_none, Option.toList_some, Option.toList_none, List.cons_append, List.nil_append, cond_true, cond_false, B121_28r]
      exact ⟨_, rfl, W.sheet hi _, Keep0.mv H0 (by decide) _ _⟩
  · rw [if_neg hk, c_sheetNo hk]
    simp only [obd_some, obd_none, Option.toList_some, Option.toList_none, List.cons_append, List.nil_append, cond_true, cond_false, B121_5n]
    exact Gv.same W rfl
theorem T_put (W : XW x S dr ra ba pa h) (hS : stOk S) (k i v : Int32) : Gv x dr ra ba pa (rPut S k i v).2 h (mc 122 [.ref x, .int k, .int i, .int v] h) (.int (rPut S k i v).1) := by
  have W0 := W.ownF 0
  have K0 := W.keep (xF x (setF S 0) dr)
  rw [M122, xw_f W 0, obd_some, xw_o W0, obd_some]
  unfold rPut
  by_cases hk : inN k 4
  · obtain ⟨a, ha, rfl⟩ := inN_nI hk
    have H0 := xw_sheet W0 ha
    have hd := hS.2.2.2.2.2.2 a ha
    have h1 := hd.1
    rw [if_pos hk, c_sheetOf W0 ha, toNat_nI (by omega)]
    simp only [obd_some, obd_none, Option.toList_some, Option.toList_none, List.cons_append, List.nil_append, cond_true, cond_false, B122_10r, sh_o H0, c_isNothing H0 hd, B122_24r, b2i_0]
    by_cases hl : sL (zS S a) = none
    · rw [if_neg (show ¬ ¬ sL (zS (setF S 0) a) = none from not_not_intro hl), if_pos hl, xw_o W0, obd_some, c_failed W0 1]
      simp only [obd_some, obd_none, Option.toList_some, Option.toList_none, List.cons_append, List.nil_append, cond_true, cond_false, B122_32r]
      exact ⟨_, rfl, W0.own rfl rfl rfl rfl rfl, K0.tr (W0.keep _)⟩
    · rw [if_pos (show ¬ sL (zS (setF S 0) a) = none from hl), if_neg hl, c_hasCell H0 hd]
      simp only [obd_some, obd_none, Option.toList_some, Option.toList_none, List.cons_append, List.nil_append, cond_true, cond_false, B122_39r, b2i_0]
      by_cases hi : inN i (sN (zS S a))
      · obtain ⟨t, ht, rfl⟩ := inN_nI hi
        rw [if_neg (show ¬ ¬ inN (nI t) (sN (zS (setF S 0) a)) from not_not_intro hi), if_pos hi, sh_o H0, obd_some, c_write H0 hd ht, toNat_nI (by omega)]
        simp only [obd_some, obd_none, Option.toList_some, Option.toList_none, List.cons_append, List.nil_append, cond_true, cond_false, B122_55r]
        exact ⟨_, rfl, W0.sheet ha (setC (zS S a) t (cutL (sL (zS S a)) v)), K0.tr (Keep0.mv H0 (by decide) _ _)⟩
      · rw [if_pos (show ¬ inN i (sN (zS (setF S 0) a)) from hi), if_neg hi, xw_o W0, obd_some, c_failed W0 3]
        simp only [obd_some, obd_none, Option.toList_some, Option.toList_none, List.cons_append, List.nil_append, cond_true, cond_false, B122_47r]
        exact ⟨_, rfl, W0.own rfl rfl rfl rfl rfl, K0.tr (W0.keep _)⟩
  · rw [if_neg hk, c_sheetNo hk]
    simp only [obd_some, obd_none, Option.toList_some, Option.toList_none, List.cons_append, List.nil_append, cond_true, cond_false, B122_10n]
    exact ⟨_, rfl, W0, K0⟩
theorem T_cell (W : XW x S dr ra ba pa h) (hS : stOk S) (k i l : Int32) : Gv x dr ra ba pa (rCell S k i l).2 h (mc 125 [.ref x, .int k, .int i, .int l] h) (.long (rCell S k i l).1) := by
  have W0 := W.ownF 0
  have K0 := W.keep (xF x (setF S 0) dr)
  rw [M125, xw_f W 0, obd_some, xw_o W0, obd_some]
  unfold rCell
  have e26 : ∀ o0 o1 o2 o3 o4 (h : jHp), R 3 125 26 [o0, o1, o2, o3, o4] [] h = some (some (.long lostJ), h) := by
    intro o0 o1 o2 o3 o4 h
    rw [B125_26, B125_29]; rfl
  by_cases hk : inN k 4
  · obtain ⟨a, ha, rfl⟩ := inN_nI hk
    have H0 := xw_sheet W0 ha
    have hd := hS.2.2.2.2.2.2 a ha
    have h1 := hd.1
    rw [if_pos hk, c_sheetOf W0 ha, toNat_nI (by omega)]
    simp only [obd_some, obd_none, Option.toList_some, Option.toList_none, List.cons_append, List.nil_append, cond_true, cond_false, B125_10r]
    rw [ite_in (by decide)]
    by_cases hl : inN l 3
    · rw [if_pos hl, if_pos hl, sh_o H0, obd_some, c_faultOfCell H0 hd]
      simp only [obd_some, obd_none, Option.toList_some, Option.toList_none, List.cons_append, List.nil_append, cond_true, cond_false, B125_38r]
      have hf4 : fCell (zS S a) l i ≤ 3 := fCell_le _ _ _
      have W1 := W0.ownF (fCell (zS S a) l i)
      have H1 := xw_sheet W1 ha
      have K1 := K0.tr (W0.keep (xF x (setF (setF S 0) (fCell (zS S a) l i)) dr))
      rw [show zS (setF S 0) a = zS S a from rfl, xw_f W0, obd_some, xw_10 W1, obd_some]
      by_cases hf : fCell (zS S a) l i = 0
      · have hc : inN i (sN (zS S a)) := by
          unfold fCell at hf
          refine Classical.byContradiction fun z => ?_
          rw [if_neg z] at hf
          split at hf
          · omega
          · split at hf <;> omega
        obtain ⟨t, ht, rfl⟩ := inN_nI hc
        rw [if_pos (show nI (zf (setF (setF S 0) (fCell (zS S a) l (nI t)))) = 0 by show nI (fCell (zS S a) l (nI t)) = 0; rw [hf]; rfl), if_pos hf, sh_o H1, obd_some, c_at H1 hd ht, toNat_nI (by omega)]
        simp only [obd_some, obd_none, Option.toList_some, Option.toList_none, List.cons_append, List.nil_append, cond_true, cond_false, B125_60r, B125_61]
        rw [hf] at W1 K1 ⊢
        exact ⟨_, rfl, W1, K1⟩
      · rw [if_neg (show ¬ nI (zf (setF (setF S 0) (fCell (zS S a) l i))) = 0 by show ¬ nI (fCell (zS S a) l i) = 0; rw [nI_eq0 (by omega)]; exact hf), if_neg hf, B125_61]
        exact ⟨_, rfl, W1, K1⟩
    · rw [if_neg hl, if_neg hl, e26]
      exact ⟨_, rfl, W0, K0⟩
  · rw [if_neg hk, c_sheetNo hk]
    simp only [obd_some, obd_none, Option.toList_some, Option.toList_none, List.cons_append, List.nil_append, cond_true, cond_false, B125_10n, e26]
    exact ⟨_, rfl, W0, K0⟩
end TSet
