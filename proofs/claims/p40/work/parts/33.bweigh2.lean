theorem bF_1 (r b : Nat) (rr ws lp lf x : Int32) : updV (bF r b rr ws lp lf) 1 (.int x) = bF r b x ws lp lf := by
  funext k; unfold updV
  by_cases e : k = 1
  · subst e; rfl
  · rw [if_neg e]
    match k, e with
    | 0, _ => rfl
    | 2, _ => rfl
    | 3, _ => rfl
    | 4, _ => rfl
    | 5, _ => rfl
    | k + 6, _ => rfl
/-- a row is put into the table for the aims below n -/
def wgT (T : jTab) (x : Nat → Nat) (n : Nat) : jTab := fun aim t => if aim < n ∧ t = x 3 then some (match T aim t with | none => x | some y => if befB aim x y = true then x else y) else T aim t
theorem wgT_ok {T : jTab} {x : Nat → Nat} (n : Nat) (hO : TabOk T) (hx : rcOk x) : TabOk (wgT T x n) := by
  intro aim t y h
  unfold wgT at h
  split at h
  · cases e : T aim t with
    | none => rw [e] at h; cases h; exact hx
    | some z =>
      rw [e] at h
      dsimp only at h
      split at h
      · cases h; exact hx
      · cases h; exact hO aim t _ e
  · exact hO aim t y h
section BWeigh2
variable {h : jHp} {b r : Nat} {d : jRD} {rr ws lp lf : Int32} {A AJ : Nat → Nat → Int32} {T : jTab}
theorem bb_p1 (x : Int32) : pF (bJ h b r rr ws lp lf A AJ) b 0 1 (.int x) = some (bJ h b r x ws lp lf A AJ) := by
  unfold bJ; rw [p0_1, bF_1]
theorem bb_cpy {s : Nat} (hs : s ≤ 160) : acpy (bJ h b r rr ws lp lf A AJ) (b + 2) (nI 0) (b + 1) (nI s) (nI 5) = some (bJ h b r rr ws lp lf (updA A 1 (va_cpy (A 2) (A 1) 0 s 5)) AJ) := by
  have e1 : wI (bJ h b r rr ws lp lf A AJ) (b + 1) = some (165, A 1) := by unfold wI bJ; rw [hX_i (by decide) (by decide)]; rfl
  have e2 : wI (bJ h b r rr ws lp lf A AJ) (b + 2) = some (5, A 2) := by unfold wI bJ; rw [hX_i (by decide) (by decide)]; rfl
  unfold acpy
  rw [e1, e2]
  show (if _ then none else some (hset _ _ _)) = _
  have z0 : (nI 0).toNatClampNeg = 0 := toNat_nI (by omega)
  have z5 : (nI 5).toNatClampNeg = 5 := toNat_nI (by omega)
  have zs : (nI s).toNatClampNeg = s := toNat_nI (by omega)
  rw [z0, z5, zs, if_neg]
  · unfold bJ
    exact congrArg some (hset_hXi (c := 0) (i := 1) (by decide) (by decide) (va_cpy (A 2) (A 1) 0 s 5))
  · rintro (q | q | q | q | q)
    · exact nI_nneg (by omega) q
    · exact nI_nneg (by omega) q
    · exact nI_nneg (by omega) q
    · exact absurd q (by show ¬ 5 < 0 + 5; omega)
    · exact absurd q (by show ¬ 165 < s + 5; omega)
theorem wg_tab {x : Nat → Nat} {n : Nat} (hn : n < 3) (hx3 : x 3 < 11) (hT : TabIs A (wgT T x n)) (h2 : ∀ w, w < 5 → A 2 w = nI (x w)) (hb : ∀ y, T n (x 3) = some y → befB n x y = true) : TabIs (updA A 1 (va_cpy (A 2) (A 1) 0 (slt n (x 3)) 5)) (wgT T x (n + 1)) := by
  intro aim t ha ht
  have e1 : ∀ u, updA A 1 (va_cpy (A 2) (A 1) 0 (slt n (x 3)) 5) 1 u = if slt n (x 3) ≤ u ∧ u < slt n (x 3) + 5 then A 2 (0 + (u - slt n (x 3))) else A 1 u := fun u => by unfold updA; rw [if_pos rfl]; rfl
  by_cases e : aim = n ∧ t = x 3
  · obtain ⟨rfl, rfl⟩ := e
    have e2 : wgT T x (aim + 1) aim (x 3) = some x := by
      unfold wgT
      rw [if_pos ⟨by omega, rfl⟩]
      cases q : T aim (x 3) with
      | none => rfl
      | some y => dsimp only; rw [if_pos (hb y q)]
    rw [e2]
    intro w hw
    rw [e1, if_pos (by omega), show 0 + (slt aim (x 3) + w - slt aim (x 3)) = w by omega]
    exact h2 w hw
  · have e2 : wgT T x (n + 1) aim t = wgT T x n aim t := by
      unfold wgT
      by_cases q : aim < n ∧ t = x 3
      · rw [if_pos q, if_pos ⟨by omega, q.2⟩]
      · rw [if_neg q, if_neg (by omega)]
    have g := hT aim t ha ht
    rw [e2]
    cases q : wgT T x n aim t with
    | none =>
      rw [q] at g
      dsimp only at g ⊢
      rw [e1, if_neg (by unfold slt; omega)]
      exact g
    | some y =>
      rw [q] at g
      intro w hw
      rw [e1, if_neg (by unfold slt; omega)]
      exact g w hw
theorem wg_keep {x : Nat → Nat} {n : Nat} {y : Nat → Nat} (hT : TabIs A (wgT T x n)) (e : T n (x 3) = some y) (hb : befB n x y = false) : TabIs A (wgT T x (n + 1)) := by
  have e2 : wgT T x (n + 1) = wgT T x n := by
    funext aim t
    unfold wgT
    by_cases q : aim < n ∧ t = x 3
    · rw [if_pos q, if_pos ⟨by omega, q.2⟩]
    · rw [if_neg q]
      by_cases q2 : aim = n ∧ t = x 3
      · obtain ⟨rfl, rfl⟩ := q2
        rw [if_pos ⟨by omega, rfl⟩, e]
        dsimp only
        rw [if_neg (by rw [hb]; exact Bool.false_ne_true)]
      · rw [if_neg (by omega)]
  rw [e2]; exact hT
theorem l_weigh {x : Nat → Nat} (hO : TabOk T) (hx : rcOk x) (hx3 : x 3 < 11) : ∀ (m n : Nat) (o1 o3 : Option Value) (A : Nat → Nat → Int32), n + m = 3 → TabIs A (wgT T x n) → (∀ w, w < 5 → A 2 w = nI (x w)) →
    ∃ A2, R 5 54 92 [some (.ref b), o1, some (.int (nI n)), o3] [] (bJ h b r rr ws lp lf A AJ) = some (none, bJ h b r rr ws lp lf A2 AJ) ∧ TabIs A2 (wgT T x 3) ∧ ∀ t, A2 3 t = A 3 t := by
  intro m
  induction m with
  | zero =>
    intro n o1 o3 A hn hT h2
    obtain rfl : n = 3 := hn
    exact ⟨A, by rw [B54_92, if_neg (show ¬ nI 3 < nI 3 by decide)], hT, fun _ => rfl⟩
  | succ m ih =>
    intro n o1 o3 A hnm hT h2
    have hn : n < 3 := by omega
    have hs := slt_le hn hx3
    have e3 : A 2 3 = nI (x 3) := h2 3 (by omega)
    have eT : wgT T x n n (x 3) = T n (x 3) := by unfold wgT; rw [if_neg (by omega)]
    have e138 : ∀ (o1 : Option Value), (∀ y, T n (x 3) = some y → befB n x y = true) → ∃ A2, R 5 54 138 [some (.ref b), o1, some (.int (nI n)), some (.int (nI (slt n (x 3))))] [] (bJ h b r rr ws lp lf A AJ) = some (none, bJ h b r rr ws lp lf A2 AJ) ∧ TabIs A2 (wgT T x 3) ∧ ∀ t, A2 3 t = A 3 t := by
      intro o1 hb
      obtain ⟨A2, g1, g2, g3⟩ := ih (n + 1) none none (updA A 1 (va_cpy (A 2) (A 1) 0 (slt n (x 3)) 5)) (by omega) (wg_tab hn hx3 hT h2 hb) (fun w hw => by rw [updA_n (by decide)]; exact h2 w hw)
      refine ⟨A2, ?_, g2, fun t => by rw [g3 t, updA_n (by decide)]⟩
      rw [B54_138, bb_7, obd_some, bb_6, obd_some, bb_cpy hs, obd_some, nJ_add]
      exact g1
    rw [B54_92, if_pos (show nI n < nI 3 by rw [nJ_lt (by omega) (by omega)]; exact hn)]
    simp (disch := omega) only [bb_7, bbr_2, obd_some, obd_none, Option.toList_some, Option.toList_none, List.cons_append, List.nil_append, cond_true, cond_false, e3, c_slotOf, B54_107, bb_o, c_isSlot hs, B54_113]
    rw [if_neg (show ¬ nI 1 = 0 by decide), c_isEmpty hT (wgT_ok n hO hx) hn hx3, eT]
    simp only [obd_some, obd_none, Option.toList_some, Option.toList_none, List.cons_append, List.nil_append, cond_true, cond_false, B54_121, b2j_0]
    cases e : T n (x 3) with
    | none =>
      rw [if_neg (show ¬ (none : Option (Nat → Nat)).isNone = false by decide)]
      exact e138 none (fun y q => by rw [e] at q; cases q)
    | some y =>
      have g := hT n (x 3) hn hx3
      rw [eT, e] at g
      rw [if_pos (show (some y).isNone = false from rfl), bb_7, obd_some, bb_o, obd_some]
      rw [show (nI 0 : Int32) = nI (0 : Nat) from rfl, c_isBefore (ra := b + 2) (ri := 0) (x := x) (y := y) hn hs hx (hO n (x 3) y e) (fun w hw => by rw [Nat.zero_add, bbr_2 hw, h2 w hw]) g]
      simp only [obd_some, obd_none, Option.toList_some, Option.toList_none, List.cons_append, List.nil_append, cond_true, cond_false, B54_135, b2j_0]
      by_cases q : befB n x y = true
      · rw [if_neg (by rw [q]; decide)]
        exact e138 none (fun z w => by rw [e] at w; cases w; exact q)
      · rw [if_pos (Bool.eq_false_iff.mpr q), nJ_add]
        exact ih (n + 1) none none A (by omega) (wg_keep hT e (Bool.eq_false_iff.mpr q)) h2
theorem wgT_0 (T : jTab) (x : Nat → Nat) : wgT T x 0 = T := by
  funext aim t; unfold wgT; rw [if_neg (fun q => Nat.not_lt_zero _ q.1)]
theorem TabIs_2 {w : Nat} {x : Int32} (hT : TabIs A T) : TabIs (uA A 2 w x) T := by
  intro aim t ha ht
  have g := hT aim t ha ht
  cases e : T aim t with
  | none => rw [e] at g; dsimp only at g ⊢; rw [uA_n (by omega)]; exact g
  | some y => rw [e] at g; intro w hw; rw [uA_n (by omega)]; exact g w hw
theorem c_weigh (H : bEnv h b r d) {s : jGS} {code : Nat} (hE : 0 < rE d) (hs : gOk (rP d) s) (hG : GateIs d AJ (rP d) s) (h10 : gt s ≤ 10) (hc : code < 1000000) (hT : TabIs A T) (hO : TabOk T) :
    ∃ A2, mc 54 [.ref b, .int (nI code)] (bJ h b r rr ws lp lf A AJ) = some (none, bJ h b r (rr + nI 1) ws lp lf A2 AJ) ∧ TabIs A2 (wgT T (rcOf d s code) 3) ∧ ∀ t, A2 3 t = A 3 t := by
  obtain ⟨A2, g1, g2, g3⟩ := l_weigh (h := h) (b := b) (r := r) (rr := rr + nI 1) (ws := ws) (lp := lp) (lf := lf) (AJ := AJ) (T := T) hO (rcOf_ok H.2.1 hE hs hc) (show rcOf d s code 3 < 11 from by show gt s < 11; omega) 3 0 (some (.int (nI code))) none
    (uA (uA (uA (uA (uA A 2 0 (nI (lastN d s))) 2 1 (nI (frstN d s))) 2 2 (nI (mostN d s))) 2 3 (nI (gt s))) 2 4 (nI code)) rfl
    (by rw [wgT_0]; exact TabIs_2 (TabIs_2 (TabIs_2 (TabIs_2 (TabIs_2 hT)))))
    (fun w hw => by
      rcases (by omega : w = 0 ∨ w = 1 ∨ w = 2 ∨ w = 3 ∨ w = 4) with rfl | rfl | rfl | rfl | rfl
      all_goals rfl)
  refine ⟨A2, ?_, g2, fun t => by rw [g3 t]; rfl⟩
  rw [← g1, M54]
  have e4 : uA (uA (uA (uA (uA A 2 0 (nI (lastN d s))) 2 1 (nI (frstN d s))) 2 2 (nI (mostN d s))) 2 3 (nI (gt s))) 2 4 (nI code) 2 3 = nI (gt s) := rfl
  simp (disch := omega) only [bb_1, obd_some, obd_none, Option.toList_some, Option.toList_none, List.cons_append, List.nil_append, cond_true, cond_false, bb_p1, bb_7, bb_2, bb_jo, cb_last H hs hG, B54_22, bbw_2, cb_first H hs hG hE, B54_35, cb_most H hs hG, B54_48, cb_ties H hG, B54_61, bbr_2, e4, nI_lt0, if_false, nJ_lt, show ¬ 10 < gt s by omega]
end BWeigh2
