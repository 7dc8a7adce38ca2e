/-! Calls that go through a plan. -/
theorem wrOn_lt {d : jRD} (hE : rE d ≤ 4) {c : Nat → Nat} {g mn : Nat} : ∀ m k w, wrOn d c g mn m k = some w → w ≤ 100 * (k + m) + 43
  | 0, k, w, h => by rw [wrOn] at h; cases h
  | m + 1, k, w, h => by
    rw [wrOn] at h
    cases e : fstW (whyN d (rowC d c k) k (sq d c g mn k)) (rE d) 0 with
    | some z =>
      rw [e] at h
      have h1 := fstW_le (whyN_le d (rowC d c k) k (sq d c g mn k)) _ _ z e
      have h2 : 100 * k + z = w := Option.some.inj h
      omega
    | none =>
      rw [e] at h
      have := wrOn_lt hE m (k + 1) w h
      omega
theorem wrP_9 {d : jRD} (hd : rdOk d) (p : jPD) : (cmI (wrP d p) = -nI 9) = (wrP d p = none) := by
  have h4 := hd.2.1
  have h6 := hd.1
  cases e : wrP d p with
  | none => exact propext ⟨fun _ => rfl, fun _ => rfl⟩
  | some w =>
    have := wrOn_lt h4 _ _ w e
    exact propext ⟨fun z => by rw [show cmI (some w) = nI w from rfl, neg9_ne (by omega)] at z; exact z.elim, fun z => by cases z⟩
/-- what is wrong with plan q; what is so at its gates -/
def zw (S : jST) (q : Nat) : Option Nat := wrP (zR S q) (zP S q)
def zq (S : jST) (q k : Nat) : jGS := sq (zR S q) (pC (zP S q)) (pG (zP S q)) (pM (zP S q)) k
def zr (S : jST) (q k : Nat) : Nat → Nat := rowC (zR S q) (pC (zP S q)) k
def aWrong (S : jST) (v : Int32) : Int32 := if inN v (zm S) then cmI (zw S v.toNatClampNeg) else -nI 1
def aThere (S : jST) (v p g : Int32) : Int32 := if inN v (zm S) then (if inN p (rE (zR S v.toNatClampNeg)) then (if inN g (rP (zR S v.toNatClampNeg) + 1) then (if zw S v.toNatClampNeg = none then nI (ga (zq S v.toNatClampNeg g.toNatClampNeg) p.toNatClampNeg) else -nI 3) else -nI 1) else -nI 1) else -nI 1
def aCame (S : jST) (v p g : Int32) : Int32 := if inN v (zm S) then (if inN p (rB (zR S v.toNatClampNeg)) then (if inN g (rP (zR S v.toNatClampNeg) + 1) then (if zw S v.toNatClampNeg = none then cmI (gc (zq S v.toNatClampNeg g.toNatClampNeg) p.toNatClampNeg) else -nI 3) else -nI 1) else -nI 1) else -nI 1
def aWent (S : jST) (v p g : Int32) : Int32 := if inN v (zm S) then (if inN p (rE (zR S v.toNatClampNeg)) then (if inN g (rP (zR S v.toNatClampNeg)) then (if zw S v.toNatClampNeg = none then nI (wnt (zR S v.toNatClampNeg) (zr S v.toNatClampNeg g.toNatClampNeg) g.toNatClampNeg (zq S v.toNatClampNeg g.toNatClampNeg) p.toNatClampNeg) else -nI 3) else -nI 1) else -nI 1) else -nI 1
def outN (d : jRD) (s : jGS) : Nat → Nat
  | 0 => lastN d s | 1 => frstN d s | 2 => mostN d s | 3 => gt s | _ => gl s
def aOutcome (S : jST) (v w : Int32) : Int32 := if inN v (zm S) then (if inN w 5 then (if zw S v.toNatClampNeg = none then nI (outN (zR S v.toNatClampNeg) (zq S v.toNatClampNeg (rP (zR S v.toNatClampNeg))) w.toNatClampNeg) else -nI 3) else -nI 2) else -nI 1
def aWalked (S : jST) (v p : Int32) : Int32 := if inN v (zm S) then (if inN p (rE (zR S v.toNatClampNeg)) then (if zw S v.toNatClampNeg = none then nI (gf (zq S v.toNatClampNeg (rP (zR S v.toNatClampNeg))) p.toNatClampNeg) else -nI 3) else -nI 1) else -nI 1
/-- a call's answer, and what it has come to -/
def Gv (x dr : Nat) (ra ba pa : Nat → Nat) (S' : jST) (h : jHp) (r : jRs) (v : Value) : Prop := ∃ h', r = some (some v, h') ∧ XW x S' dr ra ba pa h' ∧ Keep0 h h'
section TPlan
variable {x dr : Nat} {S : jST} {ra ba pa : Nat → Nat} {h : jHp}
theorem Gv.same (W : XW x S dr ra ba pa h) {r : jRs} {v : Value} (e : r = some (some v, h)) : Gv x dr ra ba pa S h r v := ⟨h, e, W, Keep0.id h⟩
theorem tw_travel (W : XW x S dr ra ba pa h) (hS : stOk S) {i : Nat} (hi : i < zm S) : ∃ AJ, mc 56 [.ref (pa i)] h = some (some (.int (cmI (zw S i))), jJ h (pa i + 2) (ra (pX (zP S i))) AJ) ∧ XW x S dr ra ba pa (jJ h (pa i + 2) (ra (pX (zP S i))) AJ) ∧ Keep0 h (jJ h (pa i + 2) (ra (pX (zP S i))) AJ) ∧ jEnv h (pa i + 2) (ra (pX (zP S i))) (zR S i) (pa i + 1) (cA (pC (zP S i)) 1) ∧ (zw S i = none → Trip (zR S i) (pC (zP S i)) (pG (zP S i)) (pM (zP S i)) AJ (rP (zR S i))) := by
  obtain ⟨hx, hp⟩ := hS.2.2.2.2.2.1 i hi
  have P0 := xw_plan W hi
  have R0 : RoadAt h (ra (pX (zP S i))) (zR S i) := xw_road W hx
  have hd : rdOk (zR S i) := (hS.2.2.2.2.1 _ hx).1
  obtain ⟨AJ, e1, e2, e3⟩ := c_planTravel P0 R0 hd hp
  obtain ⟨p1, AJ0, B, p3⟩ := P0
  exact ⟨AJ, e1, W.jour hi e2, Keep0.mv B (by decide) _ _, pl_env (xw_plan W hi) R0 hd, e3⟩
theorem zq_ok (hS : stOk S) {i : Nat} (hi : i < zm S) (k : Nat) : gOk k (zq S i k) := by
  obtain ⟨hx, hp⟩ := hS.2.2.2.2.2.1 i hi
  exact sq_ok (hS.2.2.2.2.1 _ hx).1 _ _ hp.2.2.1 k
theorem T_wrong (W : XW x S dr ra ba pa h) (hS : stOk S) (v : Int32) : Gv x dr ra ba pa S h (mc 55 [.ref x, .int v] h) (.int (aWrong S v)) := by
  have h3 := hS.2.1
  rw [M55, xw_o W, obd_some]
  unfold aWrong
  by_cases hv : inN v (zm S)
  · obtain ⟨i, hi, rfl⟩ := inN_nI hv
    obtain ⟨AJ, e1, W1, K1, E1, T1⟩ := tw_travel W hS hi
    rw [if_pos hv, c_planOf W hS hi, toNat_nI (by omega)]
    simp only [obd_some, obd_none, Option.toList_some, Option.toList_none, List.cons_append, List.nil_append, cond_true, cond_false, B55_5r, pn_o (xw_plan W hi).1, e1, B55_18]
    exact ⟨_, rfl, W1, K1⟩
  · rw [if_neg hv, c_planNo W hS hv]
    simp only [obd_some, obd_none, Option.toList_some, Option.toList_none, List.cons_append, List.nil_append, cond_true, cond_false, B55_5n, B55_18]
    exact Gv.same W rfl
theorem T_there (W : XW x S dr ra ba pa h) (hS : stOk S) (v p g : Int32) : Gv x dr ra ba pa S h (mc 70 [.ref x, .int v, .int p, .int g] h) (.int (aThere S v p g)) := by
  have h3 := hS.2.1
  rw [M70, xw_o W, obd_some]
  unfold aThere
  by_cases hv : inN v (zm S)
  · obtain ⟨i, hi, rfl⟩ := inN_nI hv
    have P0 := (xw_plan W hi).1
    obtain ⟨hx, hp0⟩ := hS.2.2.2.2.2.1 i hi
    have R0 : RoadAt h (ra (pX (zP S i))) (zR S i) := xw_road W hx
    have hd : rdOk (zR S i) := (hS.2.2.2.2.1 _ hx).1
    have h4 := hd.2.1
    have h6 := hd.1
    rw [if_pos hv, c_planOf W hS hi, toNat_nI (by omega)]
    simp only [obd_some, obd_none, Option.toList_some, Option.toList_none, List.cons_append, List.nil_append, cond_true, cond_false, B70_5r, pn_2 P0, rd_o R0, c_hasPerson R0 hd, B70_21r, b2i_0]
    by_cases hp : inN p (rE (zR S i))
    · obtain ⟨q, hq, rfl⟩ := inN_nI hp
      rw [if_neg (not_not_intro hp), if_pos hp, toNat_nI (by omega), c_hasGate R0 hd]
      simp only [obd_some, obd_none, Option.toList_some, Option.toList_none, List.cons_append, List.nil_append, cond_true, cond_false, B70_33r, b2i_0]
      by_cases hg : inN g (rP (zR S i) + 1)
      · obtain ⟨k, hk, rfl⟩ := inN_nI hg
        obtain ⟨AJ, e1, W1, K1, E1, T1⟩ := tw_travel W hS hi
        rw [if_neg (not_not_intro hg), if_pos hg, toNat_nI (by omega), pn_o P0, obd_some, e1]
        simp only [obd_some, obd_none, Option.toList_some, Option.toList_none, List.cons_append, List.nil_append, cond_true, cond_false, B70_43r]
        simp only [show (cmI (zw S i) = -nI 9) = (zw S i = none) from wrP_9 hd _]
        by_cases hz : zw S i = none
        · rw [if_pos hz, if_pos hz, pn_6 (xw_plan W1 hi).1, obd_some, jj_o, obd_some, c_arrivalOf E1 hq (by omega), (((T1 hz).1 k (by omega)).1 q hq).1]
          simp only [obd_some, obd_none, Option.toList_some, Option.toList_none, List.cons_append, List.nil_append, cond_true, cond_false, B70_63]
          exact ⟨_, rfl, W1, K1⟩
        · rw [if_neg hz, if_neg hz, B70_63]
          exact ⟨_, rfl, W1, K1⟩
      · rw [if_pos hg, if_neg hg, B70_36, B70_37]
        exact Gv.same W rfl
    · rw [if_pos hp, if_neg hp, B70_36, B70_37]
      exact Gv.same W rfl
  · rw [if_neg hv, c_planNo W hS hv]
    simp only [obd_some, obd_none, Option.toList_some, Option.toList_none, List.cons_append, List.nil_append, cond_true, cond_false, B70_5n, B70_36, B70_37]
    exact Gv.same W rfl
theorem T_came (W : XW x S dr ra ba pa h) (hS : stOk S) (v p g : Int32) : Gv x dr ra ba pa S h (mc 71 [.ref x, .int v, .int p, .int g] h) (.int (aCame S v p g)) := by
  have h3 := hS.2.1
  rw [M71, xw_o W, obd_some]
  unfold aCame
  by_cases hv : inN v (zm S)
  · obtain ⟨i, hi, rfl⟩ := inN_nI hv
    have P0 := (xw_plan W hi).1
    obtain ⟨hx, hp0⟩ := hS.2.2.2.2.2.1 i hi
    have R0 : RoadAt h (ra (pX (zP S i))) (zR S i) := xw_road W hx
    have hd : rdOk (zR S i) := (hS.2.2.2.2.1 _ hx).1
    have h4 := hd.2.2.1
    have h6 := hd.1
    rw [if_pos hv, c_planOf W hS hi, toNat_nI (by omega)]
    simp only [obd_some, obd_none, Option.toList_some, Option.toList_none, List.cons_append, List.nil_append, cond_true, cond_false, B71_5r, pn_2 P0, rd_o R0, c_hasBeast R0 hd, B71_21r, b2i_0]
    by_cases hp : inN p (rB (zR S i))
    · obtain ⟨q, hq, rfl⟩ := inN_nI hp
      rw [if_neg (not_not_intro hp), if_pos hp, toNat_nI (by omega), c_hasGate R0 hd]
      simp only [obd_some, obd_none, Option.toList_some, Option.toList_none, List.cons_append, List.nil_append, cond_true, cond_false, B71_33r, b2i_0]
      by_cases hg : inN g (rP (zR S i) + 1)
      · obtain ⟨k, hk, rfl⟩ := inN_nI hg
        obtain ⟨AJ, e1, W1, K1, E1, T1⟩ := tw_travel W hS hi
        rw [if_neg (not_not_intro hg), if_pos hg, toNat_nI (by omega), pn_o P0, obd_some, e1]
        simp only [obd_some, obd_none, Option.toList_some, Option.toList_none, List.cons_append, List.nil_append, cond_true, cond_false, B71_43r]
        simp only [show (cmI (zw S i) = -nI 9) = (zw S i = none) from wrP_9 hd _]
        by_cases hz : zw S i = none
        · rw [if_pos hz, if_pos hz, pn_6 (xw_plan W1 hi).1, obd_some, jj_o, obd_some, c_comingOf E1 hq (by omega), (((T1 hz).1 k (by omega)).2.1 q hq).1]
          simp only [obd_some, obd_none, Option.toList_some, Option.toList_none, List.cons_append, List.nil_append, cond_true, cond_false, B71_63]
          exact ⟨_, rfl, W1, K1⟩
        · rw [if_neg hz, if_neg hz, B71_63]
          exact ⟨_, rfl, W1, K1⟩
      · rw [if_pos hg, if_neg hg, B71_36, B71_37]
        exact Gv.same W rfl
    · rw [if_pos hp, if_neg hp, B71_36, B71_37]
      exact Gv.same W rfl
  · rw [if_neg hv, c_planNo W hS hv]
    simp only [obd_some, obd_none, Option.toList_some, Option.toList_none, List.cons_append, List.nil_append, cond_true, cond_false, B71_5n, B71_36, B71_37]
    exact Gv.same W rfl
theorem T_went (W : XW x S dr ra ba pa h) (hS : stOk S) (v p g : Int32) : Gv x dr ra ba pa S h (mc 73 [.ref x, .int v, .int p, .int g] h) (.int (aWent S v p g)) := by
  have h3 := hS.2.1
  rw [M73, xw_o W, obd_some]
  unfold aWent
  by_cases hv : inN v (zm S)
  · obtain ⟨i, hi, rfl⟩ := inN_nI hv
    have P0 := (xw_plan W hi).1
    obtain ⟨hx, hp0⟩ := hS.2.2.2.2.2.1 i hi
    have R0 : RoadAt h (ra (pX (zP S i))) (zR S i) := xw_road W hx
    have hd : rdOk (zR S i) := (hS.2.2.2.2.1 _ hx).1
    have h4 := hd.2.1
    have h6 := hd.1
    rw [if_pos hv, c_planOf W hS hi, toNat_nI (by omega)]
    simp only [obd_some, obd_none, Option.toList_some, Option.toList_none, List.cons_append, List.nil_append, cond_true, cond_false, B73_5r, pn_2 P0, rd_o R0, c_hasPerson R0 hd, B73_21r, b2i_0]
    by_cases hp : inN p (rE (zR S i))
    · obtain ⟨q, hq, rfl⟩ := inN_nI hp
      rw [if_neg (not_not_intro hp), if_pos hp, toNat_nI (by omega), c_hasPiece R0 hd]
      simp only [obd_some, obd_none, Option.toList_some, Option.toList_none, List.cons_append, List.nil_append, cond_true, cond_false, B73_33r, b2i_0]
      by_cases hg : inN g (rP (zR S i))
      · obtain ⟨k, hk, rfl⟩ := inN_nI hg
        obtain ⟨AJ, e1, W1, K1, E1, T1⟩ := tw_travel W hS hi
        rw [if_neg (not_not_intro hg), if_pos hg, toNat_nI (by omega), pn_o P0, obd_some, e1]
        simp only [obd_some, obd_none, Option.toList_some, Option.toList_none, List.cons_append, List.nil_append, cond_true, cond_false, B73_43r]
        simp only [show (cmI (zw S i) = -nI 9) = (zw S i = none) from wrP_9 hd _]
        by_cases hz : zw S i = none
        · rw [if_pos hz, if_pos hz, pn_6 (xw_plan W1 hi).1, obd_some, jj_o, obd_some, c_startOf E1 hq hk, (T1 hz).2 k hk q hq]
          simp only [obd_some, obd_none, Option.toList_some, Option.toList_none, List.cons_append, List.nil_append, cond_true, cond_false, B73_63]
          exact ⟨_, rfl, W1, K1⟩
        · rw [if_neg hz, if_neg hz, B73_63]
          exact ⟨_, rfl, W1, K1⟩
      · rw [if_pos hg, if_neg hg, B73_36, B73_37]
        exact Gv.same W rfl
    · rw [if_pos hp, if_neg hp, B73_36, B73_37]
      exact Gv.same W rfl
  · rw [if_neg hv, c_planNo W hS hv]
    simp only [obd_some, obd_none, Option.toList_some, Option.toList_none, List.cons_append, List.nil_append, cond_true, cond_false, B73_5n, B73_36, B73_37]
    exact Gv.same W rfl
theorem T_walked (W : XW x S dr ra ba pa h) (hS : stOk S) (v p : Int32) : Gv x dr ra ba pa S h (mc 83 [.ref x, .int v, .int p] h) (.int (aWalked S v p)) := by
  have h3 := hS.2.1
  rw [M83, xw_o W, obd_some]
  unfold aWalked
  by_cases hv : inN v (zm S)
  · obtain ⟨i, hi, rfl⟩ := inN_nI hv
    have P0 := (xw_plan W hi).1
    obtain ⟨hx, hp0⟩ := hS.2.2.2.2.2.1 i hi
    have R0 : RoadAt h (ra (pX (zP S i))) (zR S i) := xw_road W hx
    have hd : rdOk (zR S i) := (hS.2.2.2.2.1 _ hx).1
    have h4 := hd.2.1
    rw [if_pos hv, c_planOf W hS hi, toNat_nI (by omega)]
    simp only [obd_some, obd_none, Option.toList_some, Option.toList_none, List.cons_append, List.nil_append, cond_true, cond_false, B83_5r, pn_2 P0, rd_o R0, c_hasPerson R0 hd, B83_18r, b2i_0]
    by_cases hp : inN p (rE (zR S i))
    · obtain ⟨q, hq, rfl⟩ := inN_nI hp
      obtain ⟨AJ, e1, W1, K1, E1, T1⟩ := tw_travel W hS hi
      rw [if_neg (not_not_intro hp), if_pos hp, toNat_nI (by omega), pn_o P0, obd_some, e1]
      simp only [obd_some, obd_none, Option.toList_some, Option.toList_none, List.cons_append, List.nil_append, cond_true, cond_false, B83_27r]
      simp only [show (cmI (zw S i) = -nI 9) = (zw S i = none) from wrP_9 hd _]
      by_cases hz : zw S i = none
      · rw [if_pos hz, if_pos hz, pn_6 (xw_plan W1 hi).1, obd_some, jj_o, obd_some, c_walkedBy E1 hq, (((T1 hz).1 (rP (zR S i)) (Nat.le_refl _)).1 q hq).2]
        simp only [obd_some, obd_none, Option.toList_some, Option.toList_none, List.cons_append, List.nil_append, cond_true, cond_false, B83_45]
        exact ⟨_, rfl, W1, K1⟩
      · rw [if_neg hz, if_neg hz, B83_45]
        exact ⟨_, rfl, W1, K1⟩
    · rw [if_pos hp, if_neg hp]
      exact Gv.same W rfl
  · rw [if_neg hv, c_planNo W hS hv]
    simp only [obd_some, obd_none, Option.toList_some, Option.toList_none, List.cons_append, List.nil_append, cond_true, cond_false, B83_5n]
    exact Gv.same W rfl
theorem T_outcome (W : XW x S dr ra ba pa h) (hS : stOk S) (v w : Int32) : Gv x dr ra ba pa S h (mc 75 [.ref x, .int v, .int w] h) (.int (aOutcome S v w)) := by
  have h3 := hS.2.1
  rw [M75, xw_o W, obd_some]
  unfold aOutcome
  by_cases hv : inN v (zm S)
  · obtain ⟨i, hi, rfl⟩ := inN_nI hv
    have P0 := (xw_plan W hi).1
    obtain ⟨hx, hp0⟩ := hS.2.2.2.2.2.1 i hi
    have hdG := hS.2.2.2.2.1 _ hx
    have hd : rdOk (zR S i) := hdG.1
    have hE : 0 < rE (zR S i) := hdG.2.2.1
    rw [if_pos hv, c_planOf W hS hi, toNat_nI (by omega)]
    simp only [obd_some, obd_none, Option.toList_some, Option.toList_none, List.cons_append, List.nil_append, cond_true, cond_false, B75_5r]
    by_cases hw : inN w 5
    · obtain ⟨t, ht, rfl⟩ := inN_nI hw
      obtain ⟨AJ, e1, W1, K1, E1, T1⟩ := tw_travel W hS hi
      rw [if_pos hw, toNat_nI (by omega), if_neg (nI_nneg (by omega)), if_neg (show ¬ nI 4 < nI t by rw [nJ_lt (by omega) (by omega)]; omega), pn_o P0, obd_some, e1]
      simp only [obd_some, obd_none, Option.toList_some, Option.toList_none, List.cons_append, List.nil_append, cond_true, cond_false, B75_28r]
      simp only [show (cmI (zw S i) = -nI 9) = (zw S i = none) from wrP_9 hd _]
      by_cases hz : zw S i = none
      · rw [if_pos hz, if_pos hz, B75_37r]
        have hs := zq_ok hS hi (rP (zR S i))
        have hG := (T1 hz).1 (rP (zR S i)) (Nat.le_refl _)
        by_cases t4 : t = 4
        · subst t4
          rw [swT_out (show ¬ (0 ≤ (nI 4).toInt ∧ (nI 4).toInt ≤ 3) by decide)]
          refine ⟨_, (B75_100r _ _ _ _ _).trans ?_, W1, K1⟩
          rw [pn_6 (xw_plan W1 hi).1, obd_some, jj_o, obd_some, c_aloneInAll E1, hG.2.2.2]
          simp only [obd_some, obd_none, Option.toList_some, Option.toList_none, List.cons_append, List.nil_append, cond_true, cond_false, B75_107r]
          rfl
        · rw [swT_in (by omega) (by omega)]
          rcases (by omega : t = 0 ∨ t = 1 ∨ t = 2 ∨ t = 3) with rfl | rfl | rfl | rfl
          · refine ⟨_, (B75_68r _ _ _ _ _).trans ?_, W1, K1⟩
            rw [pn_6 (xw_plan W1 hi).1, obd_some, jj_o, obd_some, c_lastMinute E1 hs hG]
            simp only [obd_some, obd_none, Option.toList_some, Option.toList_none, List.cons_append, List.nil_append, cond_true, cond_false, B75_75r]
            rfl
          · refine ⟨_, (B75_76r _ _ _ _ _).trans ?_, W1, K1⟩
            rw [pn_6 (xw_plan W1 hi).1, obd_some, jj_o, obd_some, c_firstMinute E1 hs hG hE]
            simp only [obd_some, obd_none, Option.toList_some, Option.toList_none, List.cons_append, List.nil_append, cond_true, cond_false, B75_83r]
            rfl
          · refine ⟨_, (B75_84r _ _ _ _ _).trans ?_, W1, K1⟩
            rw [pn_6 (xw_plan W1 hi).1, obd_some, jj_o, obd_some, c_mostWalked E1 hs hG]
            simp only [obd_some, obd_none, Option.toList_some, Option.toList_none, List.cons_append, List.nil_append, cond_true, cond_false, B75_91r]
            rfl
          · refine ⟨_, (B75_92r _ _ _ _ _).trans ?_, W1, K1⟩
            rw [pn_6 (xw_plan W1 hi).1, obd_some, jj_o, obd_some, c_tiesInAll E1, hG.2.2.1]
            simp only [obd_some, obd_none, Option.toList_some, Option.toList_none, List.cons_append, List.nil_append, cond_true, cond_false, B75_99r]
            rfl
      · rw [if_neg hz, if_neg hz]
        exact ⟨_, rfl, W1, K1⟩
    · rw [if_neg hw]
      by_cases a : w < 0
      · rw [if_pos a]
        exact Gv.same W rfl
      · rw [if_neg a]
        rw [lt0_int] at a
        rw [if_pos (show nI 4 < w by rw [gt_int (by omega)]; exact Classical.byContradiction fun z => hw ⟨by omega, by omega⟩)]
        exact Gv.same W rfl
  · rw [if_neg hv, c_planNo W hS hv]
    simp only [obd_some, obd_none, Option.toList_some, Option.toList_none, List.cons_append, List.nil_append, cond_true, cond_false, B75_5n]
    exact Gv.same W rfl
end TPlan
