section BExpl
variable {h : jHp} {b r : Nat} {d : jRD} {ws lp lf : Int32}
/-- so far with the rows below m, at gate k of rows that begin as row m does -/
def BSt (d : jRD) (k m : Nat) (A AJ : Nat → Nat → Int32) : Prop := GateIs d AJ k (sq d (dg d m) 0 0 k) ∧ (∀ i, i < k * rE d → A 3 i = nI (dg d m i)) ∧ ∀ i, i < k → wrK d (dg d m) i = none
def bR (d : jRD) (m : Nat) : Int32 := nI (acc d m).2
/-- what a search from piece k leaves as it was -/
def BKp (d : jRD) (k : Nat) (A AJ A2 AJ2 : Nat → Nat → Int32) : Prop := (∀ i, i < k * rE d → A2 3 i = A 3 i) ∧ ∀ k' s, k' ≤ k → GateIs d AJ k' s → GateIs d AJ2 k' s
theorem BKp_tr {k : Nat} {A AJ A2 AJ2 A3 AJ3 : Nat → Nat → Int32} (h1 : BKp d k A AJ A2 AJ2) (h2 : BKp d k A2 AJ2 A3 AJ3) : BKp d k A AJ A3 AJ3 := ⟨fun i hi => (h2.1 i hi).trans (h1.1 i hi), fun k' s hk hg => h2.2 k' s hk (h1.2 k' s hk hg)⟩
/-- what exploring from piece k on comes to: from the rows below m to those below m + w -/
def Expl (h : jHp) (b r : Nat) (d : jRD) (ws lp lf : Int32) (k code m w : Nat) : Prop := ∀ A AJ, BSt d k m A AJ → TabIs A (acc d m).1 →
  ∃ A2 AJ2, mc 39 [.ref b, .int (nI k), .int (nI code)] (bJ h b r (bR d m) ws lp lf A AJ) = some (none, bJ h b r (bR d (m + w)) ws lp lf A2 AJ2) ∧ TabIs A2 (acc d (m + w)).1 ∧ BKp d k A AJ A2 AJ2
/-- one choice at piece k: its rows are m .. m + w less 1 -/
theorem c_further (H : bEnv h b r d) (hE : 0 < rE d) {k code c ch m w : Nat} (hk : k < rP d) (hw : w = (rB d + 1) ^ (rP d * rE d - (k + 1) * rE d)) (hm : m = (code * c + ch) * w) (hlt : m + w ≤ 65536) (hI : k + 1 < rP d → Expl h b r d ws lp lf (k + 1) (code * c + ch) m w)
    {A AJ : Nat → Nat → Int32} (hS : BSt d k m A AJ) (hC : ∀ p, p < rE d → A 3 (k * rE d + p) = nI (dg d m (k * rE d + p))) (hT : TabIs A (acc d m).1) :
    ∃ A2 AJ2 o5, R (5 + 2 * (8 - k) + 1) 39 48 [some (.ref b), some (.int (nI k)), some (.int (nI code)), some (.int (nI c)), some (.int (nI ch)), none] [] (bJ h b r (bR d m) ws lp lf A AJ) = R (5 + 2 * (8 - k) + 1) 39 121 [some (.ref b), some (.int (nI k)), some (.int (nI code)), some (.int (nI c)), some (.int (nI ch)), o5] [] (bJ h b r (bR d (m + w)) ws lp lf A2 AJ2) ∧ TabIs A2 (acc d (m + w)).1 ∧ BKp d k A AJ A2 AJ2 := by
  have hd := H.2.1
  have h6 := hd.1
  have hw0 : 0 < w := by rw [hw]; exact Nat.pow_pos (Nat.succ_pos _)
  obtain ⟨g1, g2, g3⟩ := hS
  have hs := sq_ok hd (dg d m) 0 (show 0 ≤ 60 by omega) k
  obtain ⟨AJ1, e1, f1, f2⟩ := cb_goOn (rr := bR d m) (ws := ws) (lp := lp) (lf := lf) (A := A) (a := rowC d (dg d m) k) H hk hs g1 (fun p => by unfold rowC; split; exact dg_le d m _; exact Nat.zero_le _) (fun p hp => by unfold rowC; rw [if_pos hp]; exact hC p hp)
  have hcn : (cmI (wrK d (dg d m) k) = -nI 9) = (wrK d (dg d m) k = none) := cmI_none (fun m q => by have := fstW_le (whyN_le d _ k _) _ _ m q; have := hd.2.1; omega)
  have hr0 : ∀ A2 AJ2 rr, RoadAt (bJ h b r rr ws lp lf A2 AJ2) r d := fun A2 AJ2 rr => be_road H
  have hK : BKp d k A AJ A AJ1 := ⟨fun i hi => rfl, fun k' s hk' hg => GateIs_Fr hd hg hk' f1⟩
  rw [B39_48, bb_2, obd_some, bb_8, obd_some, bb_jo, obd_some, cal_ok (by show (5 : Nat) < _; omega) (Nat.le_of_ble_eq_true rfl), e1]
  simp only [obd_some, obd_none, Option.toList_some, Option.toList_none, List.cons_append, List.nil_append, cond_true, cond_false, B39_60]
  rw [show fstW (whyN d (rowC d (dg d m) k) k (sq d (dg d m) 0 0 k)) (rE d) 0 = wrK d (dg d m) k from rfl] at f2 ⊢
  by_cases hwr : wrK d (dg d m) k = none
  · rw [if_pos (by rw [hcn]; exact hwr), B39_70, if_neg (show ¬ nI 1 = 0 by decide), bb_0, obd_some, rd_0 (hr0 _ _ _), obd_some, nJ_add]
    have hg2 := f2 hwr
    by_cases ek : k + 1 = rP d
    · have w1 : w = 1 := by rw [hw, ek, Nat.sub_self, Nat.pow_zero]
      have hmc : m = code * c + ch := by rw [hm, w1, Nat.mul_one]
      have esq : nxt d (rowC d (dg d m) k) k (sq d (dg d m) 0 0 k) = sq d (dg d m) 0 0 (rP d) := by rw [← ek, sq, if_neg (by omega)]
      rw [esq, ek] at hg2
      have h10 : gt (sq d (dg d m) 0 0 (rP d)) ≤ 10 := by
        have := sq_ties hd (dg d m) 0 0 k
        rw [ek] at this; omega
      obtain ⟨A2, q1, q2, q3⟩ := c_weigh (rr := bR d m) (ws := ws) (lp := lp) (lf := lf) (code := code * c + ch) H hE (sq_ok hd (dg d m) 0 (show 0 ≤ 60 by omega) (rP d)) hg2 h10 (by omega) hT (acc_ok hd hE m (by omega))
      rw [if_neg (show ¬ nI (k + 1) < nI (rP d) by rw [nJ_lt (by omega) (by omega)]; omega), B39_106, if_neg (show ¬ nI 1 = 0 by decide), bb_o, obd_some, nI_mul, nJ_add, cal_ok (by show (5 : Nat) < _; omega) (Nat.le_of_ble_eq_true rfl), q1]
      simp only [obd_some, obd_none, Option.toList_some, Option.toList_none, List.cons_append, List.nil_append, cond_true, cond_false]
      have hrg : rgt d m = true := rgt_right (fun i hi => by
        by_cases q : i = k
        · subst q; exact hwr
        · exact g3 i (by omega))
      have eacc : acc d (m + w) = (wgT (acc d m).1 (rcOf d (sq d (dg d m) 0 0 (rP d)) m) 3, (acc d m).2 + 1) := by rw [w1, acc, if_pos hrg]
      refine ⟨A2, AJ1, some (.int (nI 1)), ?_, ?_, fun i _ => q3 i, hK.2⟩
      · unfold bR; rw [eacc, nJ_add]
      · rw [eacc, hmc]; rw [hmc] at q2; exact q2
    · rw [if_pos (show nI (k + 1) < nI (rP d) by rw [nJ_lt (by omega) (by omega)]; omega), bb_o, obd_some, nI_mul, nJ_add, cal_ok (by rw [rkE _ _ _ (by omega)]; omega) (Nat.le_of_ble_eq_true rfl)]
      have esq : nxt d (rowC d (dg d m) k) k (sq d (dg d m) 0 0 k) = sq d (dg d m) 0 0 (k + 1) := by rw [sq, if_neg (by omega)]
      rw [esq] at hg2
      obtain ⟨A2, AJ2, q1, q2, q3⟩ := hI (by omega) A AJ1 ⟨hg2, fun i hi => by
          by_cases q : i < k * rE d
          · exact g2 i q
          · have := hC (i - k * rE d) (by rw [Nat.succ_mul] at hi; omega)
            rwa [show k * rE d + (i - k * rE d) = i by omega] at this, fun i hi => by
          by_cases q : i = k
          · subst q; exact hwr
          · exact g3 i (by omega)⟩ hT
      rw [q1]
      simp only [obd_some, obd_none, Option.toList_some, Option.toList_none, List.cons_append, List.nil_append, cond_true, cond_false, B39_103]
      exact ⟨A2, AJ2, _, rfl, q2, fun i hi => q3.1 i (by rw [Nat.succ_mul]; omega), fun k' s hk' hg => q3.2 k' s (by omega) (hK.2 k' s hk' hg)⟩
  · have eacc : acc d (m + w) = acc d m := acc_skip w fun i h1 h2 => rgt_wrong hk (by
      rw [← hw, hm, Nat.mul_div_cancel _ hw0]
      exact (Nat.div_eq_of_lt_le (by omega) (by rw [Nat.succ_mul]; omega)).symm) hwr
    rw [if_neg (by rw [hcn]; exact hwr), B39_70, if_pos (show nI 0 = 0 from rfl), B39_106, if_pos (show nI 0 = 0 from rfl)]
    exact ⟨A, AJ1, some (.int (nI 0)), by unfold bR; rw [eacc], by rw [eacc]; exact hT, hK⟩
end BExpl
