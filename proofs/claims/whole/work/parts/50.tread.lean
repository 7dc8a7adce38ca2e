/-! Calls that only look. -/
theorem ite_in {α : Type} {w : Int32} {c : Nat} (hc : c < 2147483648) (X Y : α) : (if w < 0 then X else if w < nI c then Y else X) = if inN w c then Y else X := by
  by_cases hw : inN w c
  · obtain ⟨t, ht, rfl⟩ := inN_nI hw
    rw [if_neg (nI_nneg (by omega)), if_pos (show nI t < nI c by rw [nJ_lt (by omega) hc]; exact ht), if_pos hw]
  · rw [if_neg hw]
    by_cases a : w < 0
    · rw [if_pos a]
    · rw [if_neg a, if_neg (out_N hc hw a)]
theorem swT_in {p t : Nat} {d : Int} {hi : Int} {offs : Array Int} (ht : (t : Int) ≤ hi) (h31 : t < 2147483648) : swT p d 0 hi offs (nI t) = ((p : Int) + offs.getD t 0).toNat := by
  unfold swT
  rw [toInt_nI h31, if_neg (by omega), Int.sub_zero, Int.toNat_natCast]
theorem swT_out {p : Nat} {d hi : Int} {offs : Array Int} {w : Int32} (hw : ¬ (0 ≤ w.toInt ∧ w.toInt ≤ hi)) : swT p d 0 hi offs w = ((p : Int) + d).toNat := by
  unfold swT
  rw [if_pos (by omega)]
def ofRdN (d : jRD) : Nat → Int32
  | 0 => nI (rP d) | 1 => nI (rE d) | 2 => nI (rB d) | 3 => nI (sumN (rM d) (rP d)) | 4 => lwho (rL d) | _ => lfro (rL d)
def aOfRoad (S : jST) (v w : Int32) : Int32 := if inN v (zn S) then (if inN w 6 then ofRdN (zD S v.toNatClampNeg) w.toNatClampNeg else -nI 2) else -nI 1
def aOfPiece (S : jST) (v k w : Int32) : Int32 := if inN v (zn S) then (if inN k (rP (zD S v.toNatClampNeg)) then (if w = nI 0 then nI (rM (zD S v.toNatClampNeg) k.toNatClampNeg) else if w = nI 1 then nI (rG (zD S v.toNatClampNeg) k.toNatClampNeg) else -nI 2) else -nI 1) else -nI 1
def aOfPerson (S : jST) (v p w : Int32) : Int32 := if inN v (zn S) then (if inN p (rE (zD S v.toNatClampNeg)) then (if inN w 4 then nI (sP (zD S v.toNatClampNeg) p.toNatClampNeg w.toNatClampNeg) else -nI 2) else -nI 1) else -nI 1
def aOfBeast (S : jST) (v p w : Int32) : Int32 := if inN v (zn S) then (if inN p (rB (zD S v.toNatClampNeg)) then (if inN w 6 then nI (sB (zD S v.toNatClampNeg) p.toNatClampNeg w.toNatClampNeg) else -nI 2) else -nI 1) else -nI 1
def aWalks (S : jST) (v p k : Int32) : Int32 := if inN v (zn S) then (if inN p (rE (zD S v.toNatClampNeg)) then (if inN k (rP (zD S v.toNatClampNeg)) then nI (wlk (zD S v.toNatClampNeg) p.toNatClampNeg k.toNatClampNeg) else -nI 1) else -nI 1) else -nI 1
def aRides (S : jST) (v p k : Int32) : Int32 := if inN v (zn S) then (if inN p (rB (zD S v.toNatClampNeg)) then (if inN k (rP (zD S v.toNatClampNeg)) then nI (rid (zD S v.toNatClampNeg) p.toNatClampNeg k.toNatClampNeg) else -nI 1) else -nI 1) else -nI 1
def ofPlN (p : jPD) : Nat → Int32
  | 0 => nI (pK p) | 1 => nI (pX p) | 2 => nI (pG p) | _ => nI (pM p)
def aOfPlan (S : jST) (v w : Int32) : Int32 := if inN v (zm S) then (if inN w 4 then ofPlN (zP S v.toNatClampNeg) w.toNatClampNeg else -nI 2) else -nI 1
/-- a plan's road -/
def zR (S : jST) (q : Nat) : jRD := zD S (pX (zP S q))
def aDoes (S : jST) (v k p : Int32) : Int32 := if inN v (zm S) then (if inN k (rP (zR S v.toNatClampNeg)) then (if inN p (rE (zR S v.toNatClampNeg)) then nI (pC (zP S v.toNatClampNeg) (k.toNatClampNeg * rE (zR S v.toNatClampNeg) + p.toNatClampNeg)) else -nI 1) else -nI 1) else -nI 1
section TRead
variable {x dr : Nat} {S : jST} {ra ba pa : Nat → Nat} {h : jHp}
theorem T_ofRoad (W : XW x S dr ra ba pa h) (hS : stOk S) (v w : Int32) : mc 25 [.ref x, .int v, .int w] h = some (some (.int (aOfRoad S v w)), h) := by
  have h3 := hS.1
  rw [M25, xw_o W, obd_some]
  unfold aOfRoad
  by_cases hv : inN v (zn S)
  · obtain ⟨i, hi, rfl⟩ := inN_nI hv
    have R0 := xw_road W hi
    have hd := (hS.2.2.2.2.1 i hi).1
    rw [if_pos hv, c_roadOf W hS hi, toNat_nI (by omega)]
    simp only [obd_some, obd_none, Option.toList_some, Option.toList_none, List.cons_append, List.nil_append, cond_true, cond_false, B25_5r, B25_13r]
    by_cases hw : inN w 6
    · obtain ⟨t, ht, rfl⟩ := inN_nI hw
      rw [if_pos hw, toNat_nI (by omega), swT_in (by omega) (by omega)]
      rcases (by omega : t = 0 ∨ t = 1 ∨ t = 2 ∨ t = 3 ∨ t = 4 ∨ t = 5) with rfl | rfl | rfl | rfl | rfl | rfl
      · exact (B25_52r _ _ _ _ _).trans (by rw [rd_0 R0]; rfl)
      · exact (B25_57r _ _ _ _ _).trans (by rw [rd_1 R0]; rfl)
      · exact (B25_62r _ _ _ _ _).trans (by rw [rd_2 R0]; rfl)
      · refine (B25_67r _ _ _ _ _).trans ?_
        rw [rd_o R0, obd_some, c_allMiles R0 hd]
        simp only [obd_some, obd_none, Option.toList_some, Option.toList_none, List.cons_append, List.nil_append, cond_true, cond_false, B25_71r]
        rfl
      · exact (B25_72r _ _ _ _ _).trans (by rw [rd_3 R0]; rfl)
      · exact (B25_77r _ _ _ _ _).trans (by rw [rd_4 R0]; rfl)
    · rw [if_neg hw, swT_out (fun z => hw ⟨z.1, by omega⟩)]
      exact B25_82r _ _ _ _ _
  · rw [if_neg hv, c_roadNo W hS hv]
    simp only [obd_some, obd_none, Option.toList_some, Option.toList_none, List.cons_append, List.nil_append, cond_true, cond_false, B25_5n]
theorem T_ofPiece (W : XW x S dr ra ba pa h) (hS : stOk S) (v k w : Int32) : mc 28 [.ref x, .int v, .int k, .int w] h = some (some (.int (aOfPiece S v k w)), h) := by
  have h3 := hS.1
  rw [M28, xw_o W, obd_some]
  unfold aOfPiece
  by_cases hv : inN v (zn S)
  · obtain ⟨i, hi, rfl⟩ := inN_nI hv
    have R0 := xw_road W hi
    have hd := (hS.2.2.2.2.1 i hi).1
    have h6 := hd.1
    rw [if_pos hv, c_roadOf W hS hi, toNat_nI (by omega)]
    simp only [obd_some, obd_none, Option.toList_some, Option.toList_none, List.cons_append, List.nil_append, cond_true, cond_false, B28_5r, rd_o R0, c_hasPiece R0 hd, B28_18r, b2i_0]
    by_cases hk : inN k (rP (zD S i))
    · obtain ⟨t, ht, rfl⟩ := inN_nI hk
      rw [if_neg (not_not_intro hk), if_pos hk, toNat_nI (by omega), B28_24r]
      by_cases w0 : w = nI 0
      · subst w0
        rw [if_pos rfl]
        refine (B28_52r _ _ _ _ _ _).trans ?_
        rw [rd_5 R0, obd_some, rd_a1 R0 (by omega), obd_some]
      · rw [if_neg w0]
        by_cases w1 : w = nI 1
        · subst w1
          rw [if_pos rfl]
          refine (B28_60r _ _ _ _ _ _).trans ?_
          rw [rd_6 R0, obd_some, rd_a2 R0 (by omega), obd_some]
        · rw [if_neg w1]
          have e : swL 24 44 #[(0, 28), (1, 36)] w = 68 := by
            unfold swL
            rw [lv_osw w0 (by decide), lv_osw w1 (by decide)]
            rfl
          rw [e]
          exact B28_68r _ _ _ _ _ _
    · rw [if_pos hk, if_neg hk, B28_21, B28_22]
  · rw [if_neg hv, c_roadNo W hS hv]
    simp only [obd_some, obd_none, Option.toList_some, Option.toList_none, List.cons_append, List.nil_append, cond_true, cond_false, B28_5n, B28_21, B28_22]
theorem T_ofPerson (W : XW x S dr ra ba pa h) (hS : stOk S) (v p w : Int32) : mc 30 [.ref x, .int v, .int p, .int w] h = some (some (.int (aOfPerson S v p w)), h) := by
  have h3 := hS.1
  rw [M30, xw_o W, obd_some]
  unfold aOfPerson
  by_cases hv : inN v (zn S)
  · obtain ⟨i, hi, rfl⟩ := inN_nI hv
    have R0 := xw_road W hi
    have hd := (hS.2.2.2.2.1 i hi).1
    have h4 := hd.2.1
    rw [if_pos hv, c_roadOf W hS hi, toNat_nI (by omega)]
    simp only [obd_some, obd_none, Option.toList_some, Option.toList_none, List.cons_append, List.nil_append, cond_true, cond_false, B30_5r, rd_o R0, c_hasPerson R0 hd, B30_18r, b2i_0]
    by_cases hk : inN p (rE (zD S i))
    · obtain ⟨t, ht, rfl⟩ := inN_nI hk
      rw [if_neg (not_not_intro hk), if_pos hk, toNat_nI (by omega), ite_in (by decide)]
      by_cases hw : inN w 4
      · obtain ⟨u, hu, rfl⟩ := inN_nI hw
        rw [if_pos hw, if_pos hw, toNat_nI (by omega), c_ofPersons R0 hd ht hu]
        simp only [obd_some, obd_none, Option.toList_some, Option.toList_none, List.cons_append, List.nil_append, cond_true, cond_false, B30_44]
      · rw [if_neg hw, if_neg hw, B30_32, B30_34, B30_44]
    · rw [if_pos hk, if_neg hk, B30_21, B30_22]
  · rw [if_neg hv, c_roadNo W hS hv]
    simp only [obd_some, obd_none, Option.toList_some, Option.toList_none, List.cons_append, List.nil_append, cond_true, cond_false, B30_5n, B30_21, B30_22]
theorem T_ofBeast (W : XW x S dr ra ba pa h) (hS : stOk S) (v p w : Int32) : mc 33 [.ref x, .int v, .int p, .int w] h = some (some (.int (aOfBeast S v p w)), h) := by
  have h3 := hS.1
  rw [M33, xw_o W, obd_some]
  unfold aOfBeast
  by_cases hv : inN v (zn S)
  · obtain ⟨i, hi, rfl⟩ := inN_nI hv
    have R0 := xw_road W hi
    have hd := (hS.2.2.2.2.1 i hi).1
    have h4 := hd.2.2.1
    rw [if_pos hv, c_roadOf W hS hi, toNat_nI (by omega)]
    simp only [obd_some, obd_none, Option.toList_some, Option.toList_none, List.cons_append, List.nil_append, cond_true, cond_false, B33_5r, rd_o R0, c_hasBeast R0 hd, B33_18r, b2i_0]
    by_cases hk : inN p (rB (zD S i))
    · obtain ⟨t, ht, rfl⟩ := inN_nI hk
      rw [if_neg (not_not_intro hk), if_pos hk, toNat_nI (by omega), ite_in (by decide)]
      by_cases hw : inN w 6
      · obtain ⟨u, hu, rfl⟩ := inN_nI hw
        rw [if_pos hw, if_pos hw, toNat_nI (by omega), c_ofMounts R0 hd ht hu]
        simp only [obd_some, obd_none, Option.toList_some, Option.toList_none, List.cons_append, List.nil_append, cond_true, cond_false, B33_45]
      · rw [if_neg hw, if_neg hw, B33_33, B33_35, B33_45]
    · rw [if_pos hk, if_neg hk, B33_21, B33_22]
  · rw [if_neg hv, c_roadNo W hS hv]
    simp only [obd_some, obd_none, Option.toList_some, Option.toList_none, List.cons_append, List.nil_append, cond_true, cond_false, B33_5n, B33_21, B33_22]
theorem T_walks (W : XW x S dr ra ba pa h) (hS : stOk S) (v p k : Int32) : mc 39 [.ref x, .int v, .int p, .int k] h = some (some (.int (aWalks S v p k)), h) := by
  have h3 := hS.1
  rw [M39, xw_o W, obd_some]
  unfold aWalks
  by_cases hv : inN v (zn S)
  · obtain ⟨i, hi, rfl⟩ := inN_nI hv
    have R0 := xw_road W hi
    have hd := (hS.2.2.2.2.1 i hi).1
    have h4 := hd.2.1
    have h6 := hd.1
    rw [if_pos hv, c_roadOf W hS hi, toNat_nI (by omega)]
    simp only [obd_some, obd_none, Option.toList_some, Option.toList_none, List.cons_append, List.nil_append, cond_true, cond_false, B39_5r, rd_o R0, c_hasPerson R0 hd, B39_18r, b2i_0]
    by_cases hp : inN p (rE (zD S i))
    · obtain ⟨t, ht, rfl⟩ := inN_nI hp
      rw [if_neg (not_not_intro hp), if_pos hp, toNat_nI (by omega), c_hasPiece R0 hd]
      simp only [obd_some, obd_none, Option.toList_some, Option.toList_none, List.cons_append, List.nil_append, cond_true, cond_false, B39_27r, b2i_0]
      by_cases hk : inN k (rP (zD S i))
      · obtain ⟨u, hu, rfl⟩ := inN_nI hk
        rw [if_neg (not_not_intro hk), if_pos hk, toNat_nI (by omega), rd_o R0, obd_some, c_minutesOnFoot R0 hd ht hu]
        simp only [obd_some, obd_none, Option.toList_some, Option.toList_none, List.cons_append, List.nil_append, cond_true, cond_false, B39_39r]
      · rw [if_pos hk, if_neg hk, B39_30, B39_31]
    · rw [if_pos hp, if_neg hp, B39_30, B39_31]
  · rw [if_neg hv, c_roadNo W hS hv]
    simp only [obd_some, obd_none, Option.toList_some, Option.toList_none, List.cons_append, List.nil_append, cond_true, cond_false, B39_5n, B39_30, B39_31]
theorem T_rides (W : XW x S dr ra ba pa h) (hS : stOk S) (v p k : Int32) : mc 41 [.ref x, .int v, .int p, .int k] h = some (some (.int (aRides S v p k)), h) := by
  have h3 := hS.1
  rw [M41, xw_o W, obd_some]
  unfold aRides
  by_cases hv : inN v (zn S)
  · obtain ⟨i, hi, rfl⟩ := inN_nI hv
    have R0 := xw_road W hi
    have hd := (hS.2.2.2.2.1 i hi).1
    have h4 := hd.2.2.1
    have h6 := hd.1
    rw [if_pos hv, c_roadOf W hS hi, toNat_nI (by omega)]
    simp only [obd_some, obd_none, Option.toList_some, Option.toList_none, List.cons_append, List.nil_append, cond_true, cond_false, B41_5r, rd_o R0, c_hasBeast R0 hd, B41_18r, b2i_0]
    by_cases hp : inN p (rB (zD S i))
    · obtain ⟨t, ht, rfl⟩ := inN_nI hp
      rw [if_neg (not_not_intro hp), if_pos hp, toNat_nI (by omega), c_hasPiece R0 hd]
      simp only [obd_some, obd_none, Option.toList_some, Option.toList_none, List.cons_append, List.nil_append, cond_true, cond_false, B41_27r, b2i_0]
      by_cases hk : inN k (rP (zD S i))
      · obtain ⟨u, hu, rfl⟩ := inN_nI hk
        rw [if_neg (not_not_intro hk), if_pos hk, toNat_nI (by omega), rd_o R0, obd_some, c_minutesRidden R0 hd ht hu]
        simp only [obd_some, obd_none, Option.toList_some, Option.toList_none, List.cons_append, List.nil_append, cond_true, cond_false, B41_39r]
      · rw [if_pos hk, if_neg hk, B41_30, B41_31]
    · rw [if_pos hp, if_neg hp, B41_30, B41_31]
  · rw [if_neg hv, c_roadNo W hS hv]
    simp only [obd_some, obd_none, Option.toList_some, Option.toList_none, List.cons_append, List.nil_append, cond_true, cond_false, B41_5n, B41_30, B41_31]
theorem T_ofPlan (W : XW x S dr ra ba pa h) (hS : stOk S) (v w : Int32) : mc 51 [.ref x, .int v, .int w] h = some (some (.int (aOfPlan S v w)), h) := by
  have h3 := hS.2.1
  rw [M51, xw_o W, obd_some]
  unfold aOfPlan
  by_cases hv : inN v (zm S)
  · obtain ⟨i, hi, rfl⟩ := inN_nI hv
    have P0 := (xw_plan W hi).1
    rw [if_pos hv, c_planOf W hS hi, toNat_nI (by omega)]
    simp only [obd_some, obd_none, Option.toList_some, Option.toList_none, List.cons_append, List.nil_append, cond_true, cond_false, B51_5r, B51_13r]
    by_cases hw : inN w 4
    · obtain ⟨t, ht, rfl⟩ := inN_nI hw
      rw [if_pos hw, toNat_nI (by omega), swT_in (by omega) (by omega)]
      rcases (by omega : t = 0 ∨ t = 1 ∨ t = 2 ∨ t = 3) with rfl | rfl | rfl | rfl
      · exact (B51_44r _ _ _ _ _).trans (by rw [pn_0 P0]; rfl)
      · exact (B51_49r _ _ _ _ _).trans (by rw [pn_1 P0]; rfl)
      · exact (B51_54r _ _ _ _ _).trans (by rw [pn_3 P0]; rfl)
      · exact (B51_59r _ _ _ _ _).trans (by rw [pn_4 P0]; rfl)
    · rw [if_neg hw, swT_out (fun z => hw ⟨z.1, by omega⟩)]
      exact B51_64r _ _ _ _ _
  · rw [if_neg hv, c_planNo W hS hv]
    simp only [obd_some, obd_none, Option.toList_some, Option.toList_none, List.cons_append, List.nil_append, cond_true, cond_false, B51_5n]
theorem T_does (W : XW x S dr ra ba pa h) (hS : stOk S) (v k p : Int32) : mc 53 [.ref x, .int v, .int k, .int p] h = some (some (.int (aDoes S v k p)), h) := by
  have h3 := hS.2.1
  rw [M53, xw_o W, obd_some]
  unfold aDoes
  by_cases hv : inN v (zm S)
  · obtain ⟨i, hi, rfl⟩ := inN_nI hv
    have P0 := (xw_plan W hi).1
    have hx := (hS.2.2.2.2.2.1 i hi).1
    have R0 := xw_road W hx
    have hd := (hS.2.2.2.2.1 _ hx).1
    have h4 := hd.2.1
    have h6 := hd.1
    rw [if_pos hv, c_planOf W hS hi, toNat_nI (by omega)]
    simp only [obd_some, obd_none, Option.toList_some, Option.toList_none, List.cons_append, List.nil_append, cond_true, cond_false, B53_5r, pn_2 P0, rd_o R0, c_hasPiece R0 hd, B53_21r, b2i_0]
    by_cases hk : inN k (rP (zD S (pX (zP S i))))
    · obtain ⟨t, ht, rfl⟩ := inN_nI hk
      rw [if_neg (not_not_intro hk), if_pos (show inN (nI t) (rP (zR S i)) from hk), toNat_nI (by omega), c_hasPerson R0 hd]
      simp only [obd_some, obd_none, Option.toList_some, Option.toList_none, List.cons_append, List.nil_append, cond_true, cond_false, B53_33r, b2i_0]
      by_cases hp : inN p (rE (zD S (pX (zP S i))))
      · obtain ⟨u, hu, rfl⟩ := inN_nI hp
        rw [if_neg (not_not_intro hp), if_pos (show inN (nI u) (rE (zR S i)) from hp), toNat_nI (by omega), pn_o P0, obd_some, c_cellOf P0 R0 hd ht hu]
        simp only [obd_some, obd_none, Option.toList_some, Option.toList_none, List.cons_append, List.nil_append, cond_true, cond_false, B53_45r]
        rfl
      · rw [if_pos hp, if_neg (show ¬ inN p (rE (zR S i)) from hp), B53_36, B53_37]
    · rw [if_pos hk, if_neg (show ¬ inN k (rP (zR S i)) from hk), B53_36, B53_37]
  · rw [if_neg hv, c_planNo W hS hv]
    simp only [obd_some, obd_none, Option.toList_some, Option.toList_none, List.cons_append, List.nil_append, cond_true, cond_false, B53_5n, B53_36, B53_37]
end TRead
