theorem TabIs_ch {d : jRD} {A : Nat → Nat → Int32} {T : jTab} {k ch q : Nat} (hT : TabIs A T) : TabIs (chA d k ch q A) T := by
  intro aim t ha ht
  have g := hT aim t ha ht
  cases e : T aim t with
  | none => rw [e] at g; dsimp only at g ⊢; unfold chA; rw [if_neg (by omega)]; exact g
  | some y => rw [e] at g; intro w hw; unfold chA; rw [if_neg (by omega)]; exact g w hw
section BExpl2
variable {h : jHp} {b r : Nat} {d : jRD} {ws lp lf : Int32}
theorem BSt_at {k m m' : Nat} {A A1 AJ : Nat → Nat → Int32} (hk : k < rP d) (hS : BSt d k m A AJ) (hq : m / (rB d + 1) ^ (rP d * rE d - k * rE d) = m' / (rB d + 1) ^ (rP d * rE d - k * rE d)) (hA : ∀ i, i < k * rE d → A1 3 i = A 3 i) : BSt d k m' A1 AJ := by
  have h0 : k * rE d ≤ rP d * rE d := Nat.mul_le_mul (by omega) (Nat.le_refl _)
  have e := dg_same h0 hq
  obtain ⟨g1, g2, g3⟩ := hS
  refine ⟨?_, fun i hi => ?_, fun i hi => ?_⟩
  · rw [← sq_ext k e]; exact g1
  · rw [hA i hi, ← e i hi]; exact g2 i hi
  · rw [← wrK_ext (fun j hj => e j (Nat.lt_of_lt_of_le hj (Nat.mul_le_mul (by omega) (Nat.le_refl _))))]
    exact g3 i hi
theorem l_expl (H : bEnv h b r d) (hE : 0 < rE d) {k code w c : Nat} (hk : k < rP d) (hc : c = (rB d + 1) ^ rE d) (hc81 : c ≤ 100000) (hw : w = (rB d + 1) ^ (rP d * rE d - (k + 1) * rE d)) (hcw : c * w = (rB d + 1) ^ (rP d * rE d - k * rE d)) (hlt : code * (c * w) + c * w ≤ 65536)
    (hI : ∀ code', code' * w + w ≤ 65536 → k + 1 < rP d → Expl h b r d ws lp lf (k + 1) code' (code' * w) w) :
    ∀ (q ch : Nat) (A AJ : Nat → Nat → Int32), ch + q = c → BSt d k (code * (c * w)) A AJ → TabIs A (acc d (code * (c * w) + ch * w)).1 →
    ∃ A2 AJ2, R (5 + 2 * (8 - k) + 1) 39 35 [some (.ref b), some (.int (nI k)), some (.int (nI code)), some (.int (nI c)), some (.int (nI ch)), none] [] (bJ h b r (bR d (code * (c * w) + ch * w)) ws lp lf A AJ) = some (none, bJ h b r (bR d (code * (c * w) + c * w)) ws lp lf A2 AJ2) ∧ TabIs A2 (acc d (code * (c * w) + c * w)).1 ∧ BKp d k A AJ A2 AJ2 := by
  have hd := H.2.1
  have h6 := hd.1
  have hw0 : 0 < w := by rw [hw]; exact Nat.pow_pos (Nat.succ_pos _)
  have hW0 : 0 < c * w := by rw [hcw]; exact Nat.pow_pos (Nat.succ_pos _)
  intro q
  induction q with
  | zero =>
    intro ch A AJ hq hS hT
    obtain rfl : ch = c := hq
    exact ⟨A, AJ, by rw [B39_35, if_neg (show ¬ nI ch < nI ch from Int32.lt_irrefl)], hT, fun _ _ => rfl, fun _ _ _ g => g⟩
  | succ q ih =>
    intro ch A AJ hq hS hT
    have hch : ch < c := by omega
    have hchw : ch * w + w ≤ c * w := by rw [← Nat.succ_mul]; exact Nat.mul_le_mul hch (Nat.le_refl _)
    have em : code * (c * w) + ch * w = (code * c + ch) * w := by rw [Nat.add_mul, Nat.mul_assoc]
    have hS1 : BSt d k (code * (c * w) + ch * w) (chA d k ch 0 A) AJ := by
      refine BSt_at hk hS ?_ (fun i hi => by unfold chA; rw [if_neg (by omega)])
      rw [← hcw, Nat.mul_div_cancel _ hW0]
      exact (Nat.div_eq_of_lt_le (by omega) (by rw [Nat.succ_mul]; omega)).symm
    have hC1 : ∀ p, p < rE d → chA d k ch 0 A 3 (k * rE d + p) = nI (dg d (code * (c * w) + ch * w) (k * rE d + p)) := by
      intro p hp
      have h0 : (k + 1) * rE d ≤ rP d * rE d := Nat.mul_le_mul hk (Nat.le_refl _)
      have h1 : k * rE d + p < (k + 1) * rE d := by rw [Nat.succ_mul]; omega
      rw [dg_pre h1 h0, ← hw, em, Nat.mul_div_cancel _ hw0, hc, dig_ch (Nat.succ_pos _) (by rw [Nat.succ_mul]; omega)]
      unfold chA
      rw [if_pos ⟨rfl, by omega, by omega⟩, Nat.succ_mul]
    have hlt2 : (code * c + ch) * w + w ≤ 65536 := by rw [← em]; omega
    obtain ⟨A2, AJ2, o5, e1, e2, e3⟩ := c_further (ws := ws) (lp := lp) (lf := lf) (code := code) (c := c) (ch := ch) H hE hk hw em (by omega) (fun hk1 => by rw [em]; exact hI _ hlt2 hk1) hS1 hC1 (TabIs_ch hT)
    rw [B39_35, if_pos (show nI ch < nI c by rw [nJ_lt (by omega) (by omega)]; exact hch), bb_o, obd_some, cal_ok (by show (1 : Nat) < _; omega) (Nat.le_of_ble_eq_true rfl), c_choose H hk (by omega) hE]
    simp only [obd_some, obd_none, Option.toList_some, Option.toList_none, List.cons_append, List.nil_append, cond_true, cond_false]
    rw [e1, B39_121, nJ_add]
    have hK1 : BKp d k A AJ (chA d k ch 0 A) AJ := ⟨fun i hi => by unfold chA; rw [if_neg (by omega)], fun _ _ _ g => g⟩
    have hK2 := BKp_tr hK1 e3
    have es : code * (c * w) + ch * w + w = code * (c * w) + (ch + 1) * w := by rw [Nat.succ_mul, Nat.add_assoc]
    rw [es] at e2 ⊢
    obtain ⟨A3, AJ3, q1, q2, q3⟩ := ih (ch + 1) A2 AJ2 (by omega) ⟨hK2.2 k _ (Nat.le_refl k) hS.1, fun i hi => (hK2.1 i hi).trans (hS.2.1 i hi), hS.2.2⟩ e2
    exact ⟨A3, AJ3, q1, q2, BKp_tr hK2 q3⟩
end BExpl2
