/-! Calls that change what there is. -/
def rGone (S : jST) (v : Int32) : Int32 × jST := if inN v 13 then (nI (zg S), setG S v.toNatClampNeg) else (-nI 2, S)
def rLame (S : jST) (v p k : Int32) : Int32 × jST := if inN v (zn S) then (if p = -nI 9 then (b2i (¬ rL (zD S v.toNatClampNeg) = none), setD S v.toNatClampNeg (setL (zD S v.toNatClampNeg) none)) else if inN p (rE (zD S v.toNatClampNeg)) then (if inN k (rP (zD S v.toNatClampNeg)) then (b2i (¬ rL (zD S v.toNatClampNeg) = some (p.toNatClampNeg, k.toNatClampNeg)), setD S v.toNatClampNeg (setL (zD S v.toNatClampNeg) (some (p.toNatClampNeg, k.toNatClampNeg)))) else (-nI 1, S)) else (-nI 1, S)) else (-nI 1, S)
def fI (f : Nat) : Int32 := -nI 10 - nI f
def rSheet (S : jST) (k l n : Int32) : Int32 × jST := if inN k 4 then (if inN l 3 then (if nI 120 < n then (-nI 2, setF S 0) else if n < 0 then (fI 4, setF S 4) else (nI 1, setS (setF S 0) k.toNatClampNeg (rnw (zS S k.toNatClampNeg) (some l.toNatClampNeg) n.toNatClampNeg 120))) else (-nI 2, setF S 0)) else (-nI 1, setF S 0)
def rLose (S : jST) (k : Int32) : Int32 × jST := if inN k 4 then (if sL (zS S k.toNatClampNeg) = none then (nI 0, S) else (nI 1, setS S k.toNatClampNeg (rnw (zS S k.toNatClampNeg) none 0 120))) else (-nI 1, S)
def rPut (S : jST) (k i v : Int32) : Int32 × jST := if inN k 4 then (if sL (zS S k.toNatClampNeg) = none then (fI 1, setF S 1) else if inN i (sN (zS S k.toNatClampNeg)) then (nI 1, setS (setF S 0) k.toNatClampNeg (setC (zS S k.toNatClampNeg) i.toNatClampNeg (cutL (sL (zS S k.toNatClampNeg)) v))) else (fI 3, setF S 3)) else (-nI 1, setF S 0)
def rCell (S : jST) (k i l : Int32) : Int64 × jST := if inN k 4 then (if inN l 3 then (if fCell (zS S k.toNatClampNeg) l i = 0 then ((sC (zS S k.toNatClampNeg) i.toNatClampNeg).toInt64, setF S 0) else (lostJ, setF S (fCell (zS S k.toNatClampNeg) l i))) else (lostJ, setF S 0)) else (lostJ, setF S 0)
def cpD (a b : jSD) (i j n : Nat) : jSD := (sL b, sN b, va_cpy (sC a) (sC b) i j n)
def rCopy (S : jST) (k i o j n : Int32) : Int32 × jST := if inN k 4 then (if inN o 4 then (if sL (zS S k.toNatClampNeg) = none ∨ sL (zS S o.toNatClampNeg) = none then (fI 1, setF S 1) else if ¬ sL (zS S k.toNatClampNeg) = sL (zS S o.toNatClampNeg) then (fI 2, setF S 2) else if inCs i n (sN (zS S k.toNatClampNeg)) ∧ inCs j n (sN (zS S o.toNatClampNeg)) then (n, setS (setF S 0) o.toNatClampNeg (cpD (zS S k.toNatClampNeg) (zS S o.toNatClampNeg) i.toNatClampNeg j.toNatClampNeg n.toNatClampNeg)) else (fI 3, setF S 3)) else (-nI 1, setF S 0)) else (-nI 1, setF S 0)
theorem stOk_F {S : jST} (hS : stOk S) {f : Nat} (hf : f ≤ 4) : stOk (setF S f) := ⟨hS.1, hS.2.1, hS.2.2.1, hf, hS.2.2.2.2⟩
theorem stOk_G {S : jST} (hS : stOk S) {g : Nat} (hg : g ≤ 12) : stOk (setG S g) := ⟨hS.1, hS.2.1, hg, hS.2.2.2⟩
theorem stOk_T {S : jST} (hS : stOk S) (t : Int32) : stOk (setT S t) := hS
theorem stOk_S {S : jST} (hS : stOk S) {k : Nat} {d : jSD} (hd : sdOk d) : stOk (setS S k d) := by
  obtain ⟨s1, s2, s3, s4, s5, s6, s7⟩ := hS
  refine ⟨s1, s2, s3, s4, s5, s6, fun j hj => ?_⟩
  show sdOk (if j = k then d else zS S j)
  split
  · exact hd
  · exact s7 j hj
theorem stOk_L {S : jST} (hS : stOk S) {i : Nat} {q : Option (Nat × Nat)} (hq : ∀ x, q = some x → x.1 < 4 ∧ x.2 < 6) : stOk (setD S i (setL (zD S i) q)) := by
  obtain ⟨s1, s2, s3, s4, s5, s6, s7⟩ := hS
  have e : ∀ j, j < zn S → rdGo (if j = i then setL (zD S i) q else zD S j) := by
    intro j hj
    by_cases c : j = i
    · subst c
      rw [if_pos rfl]
      obtain ⟨⟨d1, d2, d3, d4, d5, d6, d7, d8⟩, g2, g3, g4⟩ := s5 j hj
      exact ⟨⟨d1, d2, d3, d4, d5, d6, d7, hq⟩, g2, g3, g4⟩
    · rw [if_neg c]; exact s5 j hj
  refine ⟨s1, s2, s3, s4, e, fun q' hq' => ?_, s7⟩
  obtain ⟨g1, g2⟩ := s6 q' hq'
  refine ⟨g1, ?_⟩
  show plOk (if pX (zP S q') = i then setL (zD S i) q else zD S (pX (zP S q'))) (zP S q')
  by_cases c : pX (zP S q') = i
  · rw [if_pos c]; rw [c] at g2; exact g2
  · rw [if_neg c]; exact g2
theorem sdOk_rnw {d : jSD} {q : Option Nat} {n : Nat} (hn : n ≤ 120) (h0 : q = none → n = 0) (hq : ∀ l, q = some l → l < 3) (i : Nat) : sdOk (rnw d q n i) := ⟨hn, h0, hq⟩
theorem fCell_le (d : jSD) (l i : Int32) : fCell d l i ≤ 3 := by
  unfold fCell
  by_cases a : sL d = none
  · rw [if_pos a]; omega
  · rw [if_neg a]
    by_cases b : laneI (sL d) = l
    · rw [if_neg (not_not_intro b)]
      by_cases c : inN i (sN d)
      · rw [if_pos c]; omega
      · rw [if_neg c]; omega
    · rw [if_pos b]; omega
section TSet
variable {x dr : Nat} {S : jST} {ra ba pa : Nat → Nat} {h : jHp}
theorem xw_f (W : XW x S dr ra ba pa h) (f : Nat) : pF h x 7 10 (.int (nI f)) = some (hX 7 h x (xF x (setF S f) dr) zA) := (xw_p W 10 _).trans (by rw [xF_f])
theorem c_failed (W : XW x S dr ra ba pa h) (f : Nat) : mc 10 [.ref x, .int (nI f)] h = some (some (.int (fI f)), hX 7 h x (xF x (setF S f) dr) zA) := by
  rw [M10, xw_f W f, obd_some]; rfl
theorem T_lame (W : XW x S dr ra ba pa h) (hS : stOk S) (v p k : Int32) : Gv x dr ra ba pa (rLame S v p k).2 h (mc 25 [.ref x, .int v, .int p, .int k] h) (.int (rLame S v p k).1) := by
  have h3 := hS.1
  rw [M25, xw_o W, obd_some]
  unfold rLame
  by_cases hv : inN v (zn S)
  · obtain ⟨i, hi, rfl⟩ := inN_nI hv
    have R0 := xw_road W hi
    have hd := (hS.2.2.2.2.1 i hi).1
    have h4 := hd.2.1
    have h6 := hd.1
    rw [if_pos hv, c_roadOf W hS hi, toNat_nI (by omega)]
    simp only [obd_some, obd_none, Option.toList_some, Option.toList_none, List.cons_append, List.nil_append, cond_true, cond_false, B25_5r]
    by_cases p9 : p = -nI 9
    · have e := c_becomeLame (q := none) R0 hd (fun x z => by cases z)
      rw [if_pos p9, if_pos p9, rd_o R0, obd_some, show (Value.int (-nI 9)) = .int (lwho none) from rfl]
      rw [show [Value.ref (ra i), Value.int (lwho none), Value.int (lwho none)] = [Value.ref (ra i), Value.int (lwho none), Value.int (lfro none)] from rfl, e]
      simp only [obd_some, obd_none, Option.toList_some, Option.toList_none, List.cons_append, List.nil_append, cond_true, cond_false, B25_29r, b2i_0]
      refine ⟨_, ?_, W.lame hi none, Keep0.mv R0 (by decide) _ _⟩
      unfold b2i
      by_cases c : rL (zD S i) = none
      · rw [if_pos (not_not_intro c), if_neg (not_not_intro c), B25_37]
      · rw [if_neg (fun z => z c), if_pos c, B25_37]
    · rw [if_neg p9, if_neg p9, rd_o R0, obd_some, c_hasPerson R0 hd]
      simp only [obd_some, obd_none, Option.toList_some, Option.toList_none, List.cons_append, List.nil_append, cond_true, cond_false, B25_44r, b2i_0]
      by_cases hp : inN p (rE (zD S i))
      · obtain ⟨u, hu, rfl⟩ := inN_nI hp
        rw [if_neg (not_not_intro hp), if_pos hp, toNat_nI (by omega), rd_o R0, obd_some, c_hasPiece R0 hd]
        simp only [obd_some, obd_none, Option.toList_some, Option.toList_none, List.cons_append, List.nil_append, cond_true, cond_false, B25_53r, b2i_0]
        by_cases hk : inN k (rP (zD S i))
        · obtain ⟨w, hw, rfl⟩ := inN_nI hk
          have e := c_becomeLame (q := some (u, w)) R0 hd (fun x z => by cases z; exact ⟨by omega, by omega⟩)
          rw [if_neg (not_not_intro hk), if_pos hk, toNat_nI (by omega), rd_o R0, obd_some]
          rw [show [Value.ref (ra i), Value.int (nI u), Value.int (nI w)] = [Value.ref (ra i), Value.int (lwho (some (u, w))), Value.int (lfro (some (u, w)))] from rfl, e]
          simp only [obd_some, obd_none, Option.toList_some, Option.toList_none, List.cons_append, List.nil_append, cond_true, cond_false, B25_65r, b2i_0]
          refine ⟨_, ?_, W.lame hi (some (u, w)), Keep0.mv R0 (by decide) _ _⟩
          unfold b2i
          by_cases c : rL (zD S i) = some (u, w)
          · rw [if_pos (not_not_intro c), if_neg (not_not_intro c), B25_73]
          · rw [if_neg (fun z => z c), if_pos c, B25_73]
        · rw [if_pos hk, if_neg hk, B25_56, B25_57]
          exact Gv.same W rfl
      · rw [if_pos hp, if_neg hp, B25_56, B25_57]
        exact Gv.same W rfl
  · rw [if_neg hv, c_roadNo W hS hv]
    simp only [obd_some, obd_none, Option.toList_some, Option.toList_none, List.cons_append, List.nil_append, cond_true, cond_false, B25_5n]
    exact Gv.same W rfl
theorem T_sheet (W : XW x S dr ra ba pa h) (hS : stOk S) (k l n : Int32) : Gv x dr ra ba pa (rSheet S k l n).2 h (mc 89 [.ref x, .int k, .int l, .int n] h) (.int (rSheet S k l n).1) := by
  have W0 := W.ownF 0
  have K0 := W.keep (xF x (setF S 0) dr)
  rw [M89, xw_f W 0, obd_some, xw_o W0, obd_some]
  unfold rSheet
  have e34 : ∀ o0 o1 o2 o3 o4 (h : jHp), R 2 89 34 [o0, o1, o2, o3, o4] [] h = some (some (.int (-nI 2)), h) := by
    intro o0 o1 o2 o3 o4 h
    rw [B89_34, B89_36]
  by_cases hk : inN k 4
  · obtain ⟨i, hi, rfl⟩ := inN_nI hk
    have H0 := xw_sheet W0 hi
    rw [if_pos hk, c_sheetOf W0 hi, toNat_nI (by omega)]
    simp only [obd_some, obd_none, Option.toList_some, Option.toList_none, List.cons_append, List.nil_append, cond_true, cond_false, B89_10r]
    rw [ite_in (by decide)]
    by_cases hl : inN l 3
    · obtain ⟨u, hu, rfl⟩ := inN_nI hl
      rw [if_pos hl, if_pos hl, toNat_nI (by omega)]
      by_cases n1 : nI 120 < n
      · rw [if_pos n1, if_pos n1, e34]
        exact ⟨_, rfl, W0, K0⟩
      · rw [if_neg n1, if_neg n1]
        by_cases n0 : n < 0
        · rw [if_pos n0, if_pos n0, xw_o W0, obd_some, c_failed W0 4]
          simp only [obd_some, obd_none, Option.toList_some, Option.toList_none, List.cons_append, List.nil_append, cond_true, cond_false, B89_46r]
          exact ⟨_, rfl, W0.own rfl rfl rfl rfl rfl, K0.tr (W0.keep _)⟩
        · rw [if_neg n0, if_neg n0, sh_o H0, obd_some]
          rw [gt_int (by decide)] at n1
          rw [lt0_int] at n0
          obtain ⟨w, hw, rfl⟩ := inN_nI (k := n) (n := 121) ⟨by omega, by omega⟩
          rw [show (Value.int (nI u)) = .int (laneI (some u)) from rfl, c_renew H0, toNat_nI (by omega)]
          simp only [obd_some, obd_none, Option.toList_some, Option.toList_none, List.cons_append, List.nil_append, cond_true, cond_false, show ∀ l1 l2 l3 l4 h, R 2 89 54 [some (.ref x), some (.int l1), some (.int l2), some (.int l3), some (.ref l4)] [] h = some (some (.int (nI 1)), h) from fun l1 l2 l3 l4 h => B89_54r x l1 l2 l3 l4 h]
          exact ⟨_, rfl, W0.sheet hi _, K0.tr (Keep0.mv H0 (by decide) _ _)⟩
    · rw [if_neg hl, if_neg hl, e34]
      exact ⟨_, rfl, W0, K0⟩
  · rw [if_neg hk, c_sheetNo hk]
    simp only [obd_some, obd_none, Option.toList_some, Option.toList_none, List.cons_append, List.nil_append, cond_true, cond_false, B89_10n]
    exact ⟨_, rfl, W0, K0⟩
theorem T_put (W : XW x S dr ra ba pa h) (hS : stOk S) (k i v : Int32) : Gv x dr ra ba pa (rPut S k i v).2 h (mc 102 [.ref x, .int k, .int i, .int v] h) (.int (rPut S k i v).1) := by
  have W0 := W.ownF 0
  have K0 := W.keep (xF x (setF S 0) dr)
  rw [M102, xw_f W 0, obd_some, xw_o W0, obd_some]
  unfold rPut
  by_cases hk : inN k 4
  · obtain ⟨a, ha, rfl⟩ := inN_nI hk
    have H0 := xw_sheet W0 ha
    have hd := hS.2.2.2.2.2.2 a ha
    have h1 := hd.1
    rw [if_pos hk, c_sheetOf W0 ha, toNat_nI (by omega)]
    simp only [obd_some, obd_none, Option.toList_some, Option.toList_none, List.cons_append, List.nil_append, cond_true, cond_false, B102_10r, sh_o H0, c_isNothing H0 hd, B102_24r, b2i_0]
    by_cases hl : sL (zS S a) = none
    · rw [if_neg (show ¬ ¬ sL (zS (setF S 0) a) = none from not_not_intro hl), if_pos hl, xw_o W0, obd_some, c_failed W0 1]
      simp only [obd_some, obd_none, Option.toList_some, Option.toList_none, List.cons_append, List.nil_append, cond_true, cond_false, B102_32r]
      exact ⟨_, rfl, W0.own rfl rfl rfl rfl rfl, K0.tr (W0.keep _)⟩
    · rw [if_pos (show ¬ sL (zS (setF S 0) a) = none from hl), if_neg hl, c_hasCell H0 hd]
      simp only [obd_some, obd_none, Option.toList_some, Option.toList_none, List.cons_append, List.nil_append, cond_true, cond_false, B102_39r, b2i_0]
      by_cases hi : inN i (sN (zS S a))
      · obtain ⟨t, ht, rfl⟩ := inN_nI hi
        rw [if_neg (show ¬ ¬ inN (nI t) (sN (zS (setF S 0) a)) from not_not_intro hi), if_pos hi, sh_o H0, obd_some, c_write H0 hd ht, toNat_nI (by omega)]
        simp only [obd_some, obd_none, Option.toList_some, Option.toList_none, List.cons_append, List.nil_append, cond_true, cond_false, B102_55r]
        exact ⟨_, rfl, W0.sheet ha (setC (zS S a) t (cutL (sL (zS S a)) v)), K0.tr (Keep0.mv H0 (by decide) _ _)⟩
      · rw [if_pos (show ¬ inN i (sN (zS (setF S 0) a)) from hi), if_neg hi, xw_o W0, obd_some, c_failed W0 3]
        simp only [obd_some, obd_none, Option.toList_some, Option.toList_none, List.cons_append, List.nil_append, cond_true, cond_false, B102_47r]
        exact ⟨_, rfl, W0.own rfl rfl rfl rfl rfl, K0.tr (W0.keep _)⟩
  · rw [if_neg hk, c_sheetNo hk]
    simp only [obd_some, obd_none, Option.toList_some, Option.toList_none, List.cons_append, List.nil_append, cond_true, cond_false, B102_10n]
    exact ⟨_, rfl, W0, K0⟩
end TSet
