/-! Calls that only look. -/
theorem ite_in {α : Type} {w : Int32} {c : Nat} (hc : c < 2147483648) (X Y : α) : (if w < 0 then X else if w < nI c then Y else X) = if inN w c then Y else X := by
  by_cases hw : inN w c
  · obtain ⟨t, ht, rfl⟩ := inN_nI hw
    rw [if_neg (nI_nneg (by omega)), if_pos (show nI t < nI c by rw [nJ_lt (by omega) hc]; exact ht), if_pos hw]
  · rw [if_neg hw]
    by_cases a : w < 0
    · rw [if_pos a]
    · rw [if_neg a, if_neg (out_N hc hw a)]
theorem swT_in {p t : Nat} {d : Int} {hi : Int} {offs : Array Int} (ht : (t : Int) ≤ hi) (h31 : t < 2147483648) : swT p d 0 hi offs (nI t) = ((p : Int) + offs.getD t 0).toNat := by
  unfold swT
  rw [toInt_nI h31, if_neg (by omega), Int.sub_zero, Int.toNat_natCast]
theorem swT_out {p : Nat} {d hi : Int} {offs : Array Int} {w : Int32} (hw : ¬ (0 ≤ w.toInt ∧ w.toInt ≤ hi)) : swT p d 0 hi offs w = ((p : Int) + d).toNat := by
  unfold swT
  rw [if_pos (by omega)]
def ofRdN (d : jRD) : Nat → Int32
  | 0 => nI (rP d) | 1 => nI (rE d) | 2 => nI (rB d) | 3 => nI (sumN (rM d) (rP d)) | 4 => lwho (rL d) | _ => lfro (rL d)
def aOfRoad (S : jST) (v w : Int32) : Int32 := if inN v (zn S) then (if inN w 6 then ofRdN (zD S v.toNatClampNeg) w.toNatClampNeg else -nI 2) else -nI 1
def aOfPiece (S : jST) (v k w : Int32) : Int32 := if inN v (zn S) then (if inN k (rP (zD S v.toNatClampNeg)) then (if w = nI 0 then nI (rM (zD S v.toNatClampNeg) k.toNatClampNeg) else if w = nI 1 then nI (rG (zD S v.toNatClampNeg) k.toNatClampNeg) else -nI 2) else -nI 1) else -nI 1
def aOfPerson (S : jST) (v p w : Int32) : Int32 := if inN v (zn S) then (if inN p (rE (zD S v.toNatClampNeg)) then (if inN w 4 then nI (sP (zD S v.toNatClampNeg) p.toNatClampNeg w.toNatClampNeg) else -nI 2) else -nI 1) else -nI 1
def aOfBeast (S : jST) (v p w : Int32) : Int32 := if inN v (zn S) then (if inN p (rB (zD S v.toNatClampNeg)) then (if inN w 6 then nI (sB (zD S v.toNatClampNeg) p.toNatClampNeg w.toNatClampNeg) else -nI 2) else -nI 1) else -nI 1
def aWalks (S : jST) (v p k : Int32) : Int32 := if inN v (zn S) then (if inN p (rE (zD S v.toNatClampNeg)) then (if inN k (rP (zD S v.toNatClampNeg)) then nI (wlk (zD S v.toNatClampNeg) p.toNatClampNeg k.toNatClampNeg) else -nI 1) else -nI 1) else -nI 1
def aRides (S : jST) (v p k : Int32) : Int32 := if inN v (zn S) then (if inN p (rB (zD S v.toNatClampNeg)) then (if inN k (rP (zD S v.toNatClampNeg)) then nI (rid (zD S v.toNatClampNeg) p.toNatClampNeg k.toNatClampNeg) else -nI 1) else -nI 1) else -nI 1
def ofPlN (p : jPD) : Nat → Int32
  | 0 => nI (pK p) | 1 => nI (pX p) | 2 => nI (pG p) | _ => nI (pM p)
def aOfPlan (S : jST) (v w : Int32) : Int32 := if inN v (zm S) then (if inN w 4 then ofPlN (zP S v.toNatClampNeg) w.toNatClampNeg else -nI 2) else -nI 1
/-- a plan's road -/
def zR (S : jST) (q : Nat) : jRD := zD S (pX (zP S q))
def aDoes (S : jST) (v k p : Int32) : Int32 := if inN v (zm S) then (if inN k (rP (zR S v.toNatClampNeg)) then (if inN p (rE (zR S v.toNatClampNeg)) then nI (pC (zP S v.toNatClampNeg) (k.toNatClampNeg * rE (zR S v.toNatClampNeg) + p.toNatClampNeg)) else -nI 1) else -nI 1) else -nI 1
section TRead
variable {x dr : Nat} {S : jST} {ra ba pa : Nat → Nat} {h : jHp}
end TRead
