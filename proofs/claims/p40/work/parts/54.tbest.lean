/-! Calls about the best. -/
abbrev aimOk (a t : Int32) : Prop := inN a 3 ∧ (t = -nI 9 ∨ inN t 13)
def tOf (t : Int32) : Option Nat := if t = -nI 9 then none else some t.toNatClampNeg
theorem tOf_ok {a t : Int32} (h : aimOk a t) : cmI (tOf t) = t ∧ ∀ m, tOf t = some m → m ≤ 12 := by
  unfold tOf
  by_cases e : t = -nI 9
  · rw [if_pos e]
    exact ⟨e.symm, fun m q => by cases q⟩
  · rw [if_neg e]
    obtain ⟨u, hu, rfl⟩ := inN_nI (h.2.resolve_left e)
    rw [toNat_nI (by omega)]
    exact ⟨rfl, fun m q => by cases q; omega⟩
def bstA (o : Option (Nat × (Nat → Nat))) (w : Nat) : Int32 := match o with | none => -nI 9 | some c => nI (c.2 w)
def aBest (S : jST) (v a t w : Int32) : Int32 := if inN v (zn S) then (if aimOk a t then (if inN w 4 then (if many (zD S v.toNatClampNeg) then -nI 3 else bstA (pkO (zD S v.toNatClampNeg) a.toNatClampNeg (tOf t)) w.toNatClampNeg) else -nI 2) else -nI 2) else -nI 1
def rowA (d : jRD) (o : Option (Nat × (Nat → Nat))) (i : Nat) : Int32 := match o with | none => -nI 9 | some c => nI (dg d (c.2 4) i)
def aRow (S : jST) (v a t k p : Int32) : Int32 := if inN v (zn S) then (if inN k (rP (zD S v.toNatClampNeg)) then (if inN p (rE (zD S v.toNatClampNeg)) then (if aimOk a t then (if many (zD S v.toNatClampNeg) then -nI 3 else rowA (zD S v.toNatClampNeg) (pkO (zD S v.toNatClampNeg) a.toNatClampNeg (tOf t)) (k.toNatClampNeg * rE (zD S v.toNatClampNeg) + p.toNatClampNeg)) else -nI 2) else -nI 1) else -nI 1) else -nI 1
def costA (d : jRD) : Int32 := match pkO d 2 none with | none => -nI 9 | some c => nI (c.2 0) - bstA (pkO d 0 none) 0
def aCost (S : jST) (v : Int32) : Int32 := if inN v (zn S) then (if many (zD S v.toNatClampNeg) then -nI 3 else costA (zD S v.toNatClampNeg)) else -nI 1
def fewO (d : jRD) : Option Nat := match pkO d 0 none with | none => none | some c => fwT (acc d (nRows d)).1 (c.2 0) 11 0
def aFewest (S : jST) (v : Int32) : Int32 := if inN v (zn S) then (if many (zD S v.toNatClampNeg) then -nI 3 else cmI (fewO (zD S v.toNatClampNeg))) else -nI 1
def aRows (S : jST) (v : Int32) : Int32 := if inN v (zn S) then (if many (zD S v.toNatClampNeg) then -nI 3 else bR (zD S v.toNatClampNeg) (nRows (zD S v.toNatClampNeg))) else -nI 1
theorem c_aim (a t : Int32) (h : jHp) : mc 33 [.int a, .int t] h = some (some (.int (b2i (aimOk a t))), h) := by
  rw [M33]
  unfold b2i
  by_cases ha : inN a 3
  · obtain ⟨u, hu, rfl⟩ := inN_nI ha
    rw [if_neg (nI_nneg (by omega)), if_pos (show nI u < nI 3 by rw [nJ_lt (by omega) (by omega)]; exact hu)]
    by_cases t9 : t = -nI 9
    · rw [if_pos t9, if_pos ⟨ha, Or.inl t9⟩]
    · rw [if_neg t9]
      by_cases t0 : t < 0
      · rw [if_pos t0, if_neg]
        rintro ⟨_, z | z⟩
        · exact t9 z
        · rw [lt0_int] at t0; have := z.1; omega
      · rw [if_neg t0]
        by_cases t1 : nI 12 < t
        · rw [if_pos t1, if_neg]
          rintro ⟨_, z | z⟩
          · exact t9 z
          · rw [gt_int (by omega)] at t1; have := z.2; omega
        · rw [if_neg t1, if_pos]
          rw [gt_int (by omega)] at t1
          rw [lt0_int] at t0
          exact ⟨ha, Or.inr ⟨by omega, by omega⟩⟩
  · rw [if_neg (show ¬ aimOk a t from fun z => ha z.1)]
    by_cases a0 : a < 0
    · rw [if_pos a0]
    · rw [if_neg a0, if_neg (out_N (by decide) ha a0)]
theorem c_numPk {h : jHp} {b r : Nat} {rr ws lp lf : Int32} {A AJ : Nat → Nat → Int32} {d : jRD} (hd : rdOk d) (hE : 0 < rE d) (hN : nRows d ≤ 65536) (hT : TabIs A (acc d (nRows d)).1) {aim w : Nat} (ha : aim < 3) (hw : w < 5) {t : Option Nat} :
    mc 69 [.ref b, .int (pkI aim (pkO d aim t)), .int (nI w)] (bJ h b r rr ws lp lf A AJ) = some (some (.int (bstA (pkO d aim t) w)), bJ h b r rr ws lp lf A AJ) := by
  have hO := acc_ok hd hE (nRows d) (by omega)
  cases e : pkO d aim t with
  | none => exact c_numberNone w
  | some c =>
    obtain ⟨h1, h2⟩ := pkIn _ c e
    have h11 : mostT t ≤ 10 := by unfold mostT; split; exact Nat.le_refl _; split <;> omega
    exact c_numberOf hT hO ha (by omega) hw h2
theorem pkO_lt {d : jRD} {aim : Nat} (ha : aim < 3) {t : Option Nat} {c : Nat × (Nat → Nat)} (e : pkO d aim t = some c) : c.2 4 < nRows d := by
  obtain ⟨h1, h2⟩ := pkIn _ c e
  obtain ⟨m, g1, g2, g3, g4⟩ := acc_in _ aim _ _ ha h2
  rw [g3]; exact g1
section TBest
variable {x dr : Nat} {S : jST} {ra ba pa : Nat → Nat} {h : jHp}
theorem best_env (W : XW x S dr ra ba pa h) (hS : stOk S) {i : Nat} (hi : i < zn S) : bEnv h (ba i) (ra i) (zD S i) := by
  have R0 := xw_road W hi
  obtain ⟨rr, ws, lp, lf, A, AJ, e1, e2, e3⟩ := xw_best W hi
  refine ⟨R0, (hS.2.2.2.2.1 i hi).1, ?_⟩
  have a := R0.apart e1 (R0.nc e1 (by decide))
  have b := R0.apart e2 (R0.nc e2 (by decide))
  simp only [oN] at a b
  omega
theorem best_o (W : XW x S dr ra ba pa h) {i : Nat} (hi : i < zn S) : ∃ F, gO h (ba i) 0 = some F := by
  obtain ⟨rr, ws, lp, lf, A, AJ, e1, e2, e3⟩ := xw_best W hi
  exact ⟨_, gO_of e1.cell0⟩
theorem best_0 (W : XW x S dr ra ba pa h) {i : Nat} (hi : i < zn S) : gA h (ba i) 0 0 = some (ra i) := by
  obtain ⟨rr, ws, lp, lf, A, AJ, e1, e2, e3⟩ := xw_best W hi
  rw [e1.eq]; exact x0_0
theorem best_j (W : XW x S dr ra ba pa h) {i : Nat} (hi : i < zn S) : ∃ rr ws lp lf A AJ, h = bJ h (ba i) (ra i) rr ws lp lf A AJ ∧ BestOk (zD S i) rr ws lp lf A AJ := by
  obtain ⟨rr, ws, lp, lf, A, AJ, e1, e2, e3⟩ := xw_best W hi
  refine ⟨rr, ws, lp, lf, A, AJ, ?_, e3⟩
  unfold bJ
  rw [show jJ h (ba i + 4) (ra i) AJ = h from e2]
  exact e1.symm
theorem tw_many (W : XW x S dr ra ba pa h) (hS : stOk S) {i : Nat} (hi : i < zn S) (hM : many (zD S i)) : mc 34 [.ref (ba i)] h = some (some (.int (nI 0)), h) := by
  obtain ⟨rr, ws, lp, lf, A, AJ, e1, e2⟩ := best_j W hi
  have g := c_onceMany (rr := rr) (ws := ws) (lp := lp) (lf := lf) (A := A) (AJ := AJ) (best_env W hS hi) hM
  rw [← e1] at g
  exact g
theorem tw_search (W : XW x S dr ra ba pa h) (hS : stOk S) {i : Nat} (hi : i < zn S) (hM : ¬ many (zD S i)) : ∃ A2 AJ2, mc 34 [.ref (ba i)] h = some (some (.int (nI 1)), bJ h (ba i) (ra i) (bR (zD S i) (nRows (zD S i))) (nI 1) (lwho (rL (zD S i))) (lfro (rL (zD S i))) A2 AJ2) ∧ TabIs A2 (acc (zD S i) (nRows (zD S i))).1 ∧ XW x S dr ra ba pa (bJ h (ba i) (ra i) (bR (zD S i) (nRows (zD S i))) (nI 1) (lwho (rL (zD S i))) (lfro (rL (zD S i))) A2 AJ2) ∧ Keep0 h (bJ h (ba i) (ra i) (bR (zD S i) (nRows (zD S i))) (nI 1) (lwho (rL (zD S i))) (lfro (rL (zD S i))) A2 AJ2) := by
  obtain ⟨rr, ws, lp, lf, A, AJ, e1, e2⟩ := best_j W hi
  obtain ⟨g1, g2, g3, g4⟩ := hS.2.2.2.2.1 i hi
  obtain ⟨A2, AJ2, f1, f2, f3⟩ := c_searchOnce (best_env W hS hi) g3 g2 hM e2
  rw [← e1] at f1
  have hO : BestOk (zD S i) (bR (zD S i) (nRows (zD S i))) (nI 1) (lwho (rL (zD S i))) (lfro (rL (zD S i))) A2 AJ2 := ⟨f3, Or.inr ⟨rfl, rL (zD S i), rfl, rfl, g1.2.2.2.2.2.2.2, f2, rfl⟩⟩
  obtain ⟨k1, k2⟩ := W.best hi hO
  exact ⟨A2, AJ2, f1, f2, k1, k2⟩
theorem nR_le {d : jRD} (hM : ¬ many d) : nRows d ≤ 65536 := Nat.le_of_not_lt hM
theorem T_best (W : XW x S dr ra ba pa h) (hS : stOk S) (v a t w : Int32) : Gv x dr ra ba pa S h (mc 31 [.ref x, .int v, .int a, .int t, .int w] h) (.int (aBest S v a t w)) := by
  have h3 := hS.1
  rw [M31, xw_o W, obd_some]
  unfold aBest
  by_cases hv : inN v (zn S)
  · obtain ⟨i, hi, rfl⟩ := inN_nI hv
    obtain ⟨g1, g2, g3, g4⟩ := hS.2.2.2.2.1 i hi
    obtain ⟨F, eF⟩ := best_o W hi
    rw [if_pos hv, c_bestOf W hS hi, toNat_nI (by omega)]
    simp only [obd_some, obd_none, Option.toList_some, Option.toList_none, List.cons_append, List.nil_append, cond_true, cond_false, B31_5r, c_aim, B31_19r, b2i_0]
    by_cases hat : aimOk a t
    · rw [if_neg (not_not_intro hat), if_pos hat]
      by_cases hw : inN w 4
      · obtain ⟨u, hu, rfl⟩ := inN_nI hw
        obtain ⟨ua, hua, rfl⟩ := inN_nI hat.1
        obtain ⟨ht1, ht2⟩ := tOf_ok hat
        rw [if_pos hw, if_neg (nI_nneg (by omega)), if_neg (show ¬ nI 3 < nI u by rw [nJ_lt (by omega) (by omega)]; omega), eF, obd_some, toNat_nI (by omega), toNat_nI (by omega)]
        by_cases hM : many (zD S i)
        · rw [if_pos hM, tw_many W hS hi hM]
          simp only [obd_some, obd_none, Option.toList_some, Option.toList_none, List.cons_append, List.nil_append, cond_true, cond_false, B31_41r]
          rw [if_pos (show nI 0 = 0 from rfl), B31_63]
          exact Gv.same W rfl
        · obtain ⟨A2, AJ2, f1, f2, f3, f4⟩ := tw_search W hS hi hM
          have hO := acc_ok g1 g3 (nRows (zD S i)) (by have := nR_le hM; omega)
          have hp := c_pick (h := h) (b := ba i) (r := ra i) (rr := bR (zD S i) (nRows (zD S i))) (ws := nI 1) (lp := lwho (rL (zD S i))) (lf := lfro (rL (zD S i))) (AJ := AJ2) f2 hO hua ht2
          rw [ht1] at hp
          rw [if_neg hM, f1]
          simp only [obd_some, obd_none, Option.toList_some, Option.toList_none, List.cons_append, List.nil_append, cond_true, cond_false, B31_41r]
          rw [if_neg (show ¬ nI 1 = 0 by decide), bb_o, obd_some, hp]
          simp only [obd_some, obd_none, Option.toList_some, Option.toList_none, List.cons_append, List.nil_append, cond_true, cond_false, B31_53rr, bb_o]
          rw [show pk (acc (zD S i) (nRows (zD S i))).1 ua (mostT (tOf t) + 1) = pkO (zD S i) ua (tOf t) from rfl, c_numPk g1 g3 (nR_le hM) f2 hua (by omega)]
          simp only [obd_some, obd_none, Option.toList_some, Option.toList_none, List.cons_append, List.nil_append, cond_true, cond_false, B31_58r, B31_63]
          exact ⟨_, rfl, f3, f4⟩
      · rw [if_neg hw]
        by_cases w0 : w < 0
        · rw [if_pos w0, B31_33, B31_35]
          exact Gv.same W rfl
        · rw [if_neg w0, if_pos (show nI 3 < w by rw [gt_int (by omega)]; rw [lt0_int] at w0; exact Classical.byContradiction fun z => hw ⟨by omega, by omega⟩), B31_33, B31_35]
          exact Gv.same W rfl
    · rw [if_pos hat, if_neg hat, B31_33, B31_35]
      exact Gv.same W rfl
  · rw [if_neg hv, c_bestNo W hS hv]
    simp only [obd_some, obd_none, Option.toList_some, Option.toList_none, List.cons_append, List.nil_append, cond_true, cond_false, B31_5n]
    exact Gv.same W rfl
theorem T_row (W : XW x S dr ra ba pa h) (hS : stOk S) (v a t k p : Int32) : Gv x dr ra ba pa S h (mc 70 [.ref x, .int v, .int a, .int t, .int k, .int p] h) (.int (aRow S v a t k p)) := by
  have h3 := hS.1
  rw [M70, xw_o W, obd_some]
  unfold aRow
  by_cases hv : inN v (zn S)
  · obtain ⟨i, hi, rfl⟩ := inN_nI hv
    obtain ⟨g1, g2, g3, g4⟩ := hS.2.2.2.2.1 i hi
    have h6 := g1.1
    have h4 := g1.2.1
    obtain ⟨F, eF⟩ := best_o W hi
    have R0 := xw_road W hi
    rw [if_pos hv, c_bestOf W hS hi, toNat_nI (by omega)]
    simp only [obd_some, obd_none, Option.toList_some, Option.toList_none, List.cons_append, List.nil_append, cond_true, cond_false, B70_5r, best_0 W hi, rd_o R0, c_hasPiece R0 g1, B70_22r, b2i_0]
    by_cases hk : inN k (rP (zD S i))
    · obtain ⟨uk, huk, rfl⟩ := inN_nI hk
      rw [if_neg (not_not_intro hk), if_pos hk, c_hasPerson R0 g1, toNat_nI (by omega)]
      simp only [obd_some, obd_none, Option.toList_some, Option.toList_none, List.cons_append, List.nil_append, cond_true, cond_false, B70_35r, b2i_0]
      by_cases hp : inN p (rE (zD S i))
      · obtain ⟨up, hup, rfl⟩ := inN_nI hp
        rw [if_neg (not_not_intro hp), if_pos hp, c_aim, toNat_nI (by omega)]
        simp only [obd_some, obd_none, Option.toList_some, Option.toList_none, List.cons_append, List.nil_append, cond_true, cond_false, B70_45r, b2i_0]
        by_cases hat : aimOk a t
        · obtain ⟨ua, hua, rfl⟩ := inN_nI hat.1
          obtain ⟨ht1, ht2⟩ := tOf_ok hat
          rw [if_neg (not_not_intro hat), if_pos hat, eF, obd_some, toNat_nI (by omega)]
          by_cases hM : many (zD S i)
          · rw [if_pos hM, tw_many W hS hi hM]
            simp only [obd_some, obd_none, Option.toList_some, Option.toList_none, List.cons_append, List.nil_append, cond_true, cond_false, B70_56r]
            rw [if_pos (show nI 0 = 0 from rfl)]
            exact Gv.same W rfl
          · obtain ⟨A2, AJ2, f1, f2, f3, f4⟩ := tw_search W hS hi hM
            have hO := acc_ok g1 g3 (nRows (zD S i)) (by have := nR_le hM; omega)
            have hpk := c_pick (h := h) (b := ba i) (r := ra i) (rr := bR (zD S i) (nRows (zD S i))) (ws := nI 1) (lp := lwho (rL (zD S i))) (lf := lfro (rL (zD S i))) (AJ := AJ2) f2 hO hua ht2
            rw [ht1] at hpk
            rw [if_neg hM, f1]
            simp only [obd_some, obd_none, Option.toList_some, Option.toList_none, List.cons_append, List.nil_append, cond_true, cond_false, B70_56r]
            rw [if_neg (show ¬ nI 1 = 0 by decide), bb_o, obd_some, hpk]
            simp only [obd_some, obd_none, Option.toList_some, Option.toList_none, List.cons_append, List.nil_append, cond_true, cond_false, B70_71rr, bb_o]
            rw [show pk (acc (zD S i) (nRows (zD S i))).1 ua (mostT (tOf t) + 1) = pkO (zD S i) ua (tOf t) from rfl, c_numPk g1 g3 (nR_le hM) f2 hua (by omega)]
            simp only [obd_some, obd_none, Option.toList_some, Option.toList_none, List.cons_append, List.nil_append, cond_true, cond_false, B70_75r]
            cases e : pkO (zD S i) ua (tOf t) with
            | none =>
              rw [show bstA none 4 = -nI 9 from rfl, if_pos rfl, B70_103]
              exact ⟨_, rfl, f3, f4⟩
            | some c =>
              have hc := pkO_lt hua e
              have hN := nR_le hM
              have R1 := xw_road f3 hi
              rw [show bstA (some c) 4 = nI (c.2 4) from rfl, if_neg (show ¬ nI (c.2 4) = -nI 9 by rw [neg9_ne (by omega)]; exact id), best_0 f3 hi, obd_some, rd_o R1, obd_some, c_cellOfCode R1 g1 huk hup (by omega) hN]
              simp only [obd_some, obd_none, Option.toList_some, Option.toList_none, List.cons_append, List.nil_append, cond_true, cond_false, B70_103]
              exact ⟨_, rfl, f3, f4⟩
        · rw [if_pos hat, if_neg hat]
          exact Gv.same W rfl
      · rw [if_pos hp, if_neg hp, B70_38, B70_39]
        exact Gv.same W rfl
    · rw [if_pos hk, if_neg hk, B70_38, B70_39]
      exact Gv.same W rfl
  · rw [if_neg hv, c_bestNo W hS hv]
    simp only [obd_some, obd_none, Option.toList_some, Option.toList_none, List.cons_append, List.nil_append, cond_true, cond_false, B70_5n, B70_38, B70_39]
    exact Gv.same W rfl
theorem T_cost (W : XW x S dr ra ba pa h) (hS : stOk S) (v : Int32) : Gv x dr ra ba pa S h (mc 72 [.ref x, .int v] h) (.int (aCost S v)) := by
  have h3 := hS.1
  rw [M72, xw_o W, obd_some]
  unfold aCost
  by_cases hv : inN v (zn S)
  · obtain ⟨i, hi, rfl⟩ := inN_nI hv
    obtain ⟨g1, g2, g3, g4⟩ := hS.2.2.2.2.1 i hi
    have h6 := g1.1
    obtain ⟨F, eF⟩ := best_o W hi
    rw [if_pos hv, c_bestOf W hS hi, toNat_nI (by omega)]
    simp only [obd_some, obd_none, Option.toList_some, Option.toList_none, List.cons_append, List.nil_append, cond_true, cond_false, B72_5r, eF]
    by_cases hM : many (zD S i)
    · rw [if_pos hM, tw_many W hS hi hM]
      simp only [obd_some, obd_none, Option.toList_some, Option.toList_none, List.cons_append, List.nil_append, cond_true, cond_false, B72_16r]
      rw [if_pos (show nI 0 = 0 from rfl)]
      exact Gv.same W rfl
    · obtain ⟨A2, AJ2, f1, f2, f3, f4⟩ := tw_search W hS hi hM
      have hN := nR_le hM
      have hO := acc_ok g1 g3 (nRows (zD S i)) (by omega)
      have hpk2 := c_pick (h := h) (b := ba i) (r := ra i) (rr := bR (zD S i) (nRows (zD S i))) (ws := nI 1) (lp := lwho (rL (zD S i))) (lf := lfro (rL (zD S i))) (AJ := AJ2) f2 hO (aim := 2) (t := none) (by omega) (fun m q => by cases q)
      have hpk0 := c_pick (h := h) (b := ba i) (r := ra i) (rr := bR (zD S i) (nRows (zD S i))) (ws := nI 1) (lp := lwho (rL (zD S i))) (lf := lfro (rL (zD S i))) (AJ := AJ2) f2 hO (aim := 0) (t := none) (by omega) (fun m q => by cases q)
      rw [show cmI none = -nI 9 from rfl] at hpk2 hpk0
      rw [if_neg hM, f1]
      simp only [obd_some, obd_none, Option.toList_some, Option.toList_none, List.cons_append, List.nil_append, cond_true, cond_false, B72_16r]
      rw [if_neg (show ¬ nI 1 = 0 by decide), bb_o, obd_some, hpk2]
      simp only [obd_some, obd_none, Option.toList_some, Option.toList_none, List.cons_append, List.nil_append, cond_true, cond_false, B72_30rr, bb_o]
      rw [show pk (acc (zD S i) (nRows (zD S i))).1 2 (mostT none + 1) = pkO (zD S i) 2 none from rfl, c_numPk g1 g3 hN f2 (by omega) (by omega)]
      simp only [obd_some, obd_none, Option.toList_some, Option.toList_none, List.cons_append, List.nil_append, cond_true, cond_false, B72_34r]
      unfold costA
      cases e : pkO (zD S i) 2 none with
      | none =>
        rw [show bstA none 0 = -nI 9 from rfl, if_pos rfl]
        exact ⟨_, rfl, f3, f4⟩
      | some c =>
        obtain ⟨q1, q2⟩ := pkIn _ c e
        have q3 := hO 2 _ _ q2 0 (by omega)
        rw [show bstA (some c) 0 = nI (c.2 0) from rfl, if_neg (show ¬ nI (c.2 0) = -nI 9 by rw [neg9_ne (by omega)]; exact id), bb_o, obd_some, hpk0]
        simp only [obd_some, obd_none, Option.toList_some, Option.toList_none, List.cons_append, List.nil_append, cond_true, cond_false, B72_55rr, bb_o]
        rw [show pk (acc (zD S i) (nRows (zD S i))).1 0 (mostT none + 1) = pkO (zD S i) 0 none from rfl, c_numPk g1 g3 hN f2 (by omega) (by omega)]
        simp only [obd_some, obd_none, Option.toList_some, Option.toList_none, List.cons_append, List.nil_append, cond_true, cond_false, B72_59r]
        exact ⟨_, rfl, f3, f4⟩
  · rw [if_neg hv, c_bestNo W hS hv]
    simp only [obd_some, obd_none, Option.toList_some, Option.toList_none, List.cons_append, List.nil_append, cond_true, cond_false, B72_5n]
    exact Gv.same W rfl
theorem T_fewest (W : XW x S dr ra ba pa h) (hS : stOk S) (v : Int32) : Gv x dr ra ba pa S h (mc 73 [.ref x, .int v] h) (.int (aFewest S v)) := by
  have h3 := hS.1
  rw [M73, xw_o W, obd_some]
  unfold aFewest
  by_cases hv : inN v (zn S)
  · obtain ⟨i, hi, rfl⟩ := inN_nI hv
    obtain ⟨g1, g2, g3, g4⟩ := hS.2.2.2.2.1 i hi
    obtain ⟨F, eF⟩ := best_o W hi
    rw [if_pos hv, c_bestOf W hS hi, toNat_nI (by omega)]
    simp only [obd_some, obd_none, Option.toList_some, Option.toList_none, List.cons_append, List.nil_append, cond_true, cond_false, B73_5r, eF]
    by_cases hM : many (zD S i)
    · rw [if_pos hM, tw_many W hS hi hM]
      simp only [obd_some, obd_none, Option.toList_some, Option.toList_none, List.cons_append, List.nil_append, cond_true, cond_false, B73_16r]
      rw [if_pos (show nI 0 = 0 from rfl)]
      exact Gv.same W rfl
    · obtain ⟨A2, AJ2, f1, f2, f3, f4⟩ := tw_search W hS hi hM
      have hO := acc_ok g1 g3 (nRows (zD S i)) (by have := nR_le hM; omega)
      rw [if_neg hM, f1]
      simp only [obd_some, obd_none, Option.toList_some, Option.toList_none, List.cons_append, List.nil_append, cond_true, cond_false, B73_16r]
      rw [if_neg (show ¬ nI 1 = 0 by decide), bb_o, obd_some, c_fewestTies f2 hO]
      simp only [obd_some, obd_none, Option.toList_some, Option.toList_none, List.cons_append, List.nil_append, cond_true, cond_false, B73_23r]
      exact ⟨_, rfl, f3, f4⟩
  · rw [if_neg hv, c_bestNo W hS hv]
    simp only [obd_some, obd_none, Option.toList_some, Option.toList_none, List.cons_append, List.nil_append, cond_true, cond_false, B73_5n]
    exact Gv.same W rfl
theorem T_rows (W : XW x S dr ra ba pa h) (hS : stOk S) (v : Int32) : Gv x dr ra ba pa S h (mc 75 [.ref x, .int v] h) (.int (aRows S v)) := by
  have h3 := hS.1
  rw [M75, xw_o W, obd_some]
  unfold aRows
  by_cases hv : inN v (zn S)
  · obtain ⟨i, hi, rfl⟩ := inN_nI hv
    obtain ⟨F, eF⟩ := best_o W hi
    rw [if_pos hv, c_bestOf W hS hi, toNat_nI (by omega)]
    simp only [obd_some, obd_none, Option.toList_some, Option.toList_none, List.cons_append, List.nil_append, cond_true, cond_false, B75_5r, eF]
    by_cases hM : many (zD S i)
    · rw [if_pos hM, tw_many W hS hi hM]
      simp only [obd_some, obd_none, Option.toList_some, Option.toList_none, List.cons_append, List.nil_append, cond_true, cond_false, B75_16r]
      rw [if_pos (show nI 0 = 0 from rfl)]
      exact Gv.same W rfl
    · obtain ⟨A2, AJ2, f1, f2, f3, f4⟩ := tw_search W hS hi hM
      rw [if_neg hM, f1]
      simp only [obd_some, obd_none, Option.toList_some, Option.toList_none, List.cons_append, List.nil_append, cond_true, cond_false, B75_16r]
      rw [if_neg (show ¬ nI 1 = 0 by decide), bb_1, obd_some]
      exact ⟨_, rfl, f3, f4⟩
  · rw [if_neg hv, c_bestNo W hS hv]
    simp only [obd_some, obd_none, Option.toList_some, Option.toList_none, List.cons_append, List.nil_append, cond_true, cond_false, B75_5n]
    exact Gv.same W rfl
end TBest
