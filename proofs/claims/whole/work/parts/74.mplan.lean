/-! The reference's calls that go through a plan. -/
theorem nI_big {a : Nat} (ha : a ≤ 2147483647) : (nI a).toInt = a := toInt_nI (by omega)
section MPlan
variable {h : jHp} {m : Nat} {S : jST} {F : Nat → Value} {A : Nat → Nat → Int32}
def acA (A : Nat → Nat → Int32) (s n : Nat) : Nat → Nat → Int32 := fun j t => if j = 19 ∧ t < n then A 18 (s + t) else A j t
theorem acA_s (A : Nat → Nat → Int32) (s n : Nat) : uA (acA A s n) 19 n (A 18 (s + n)) = acA A s (n + 1) := by
  funext j t
  unfold uA acA
  by_cases e : j = 19 ∧ t = n
  · rw [if_pos e, if_pos (by omega), e.2]
  · rw [if_neg e]
    by_cases e2 : j = 19 ∧ t < n
    · rw [if_pos e2, if_pos (by omega)]
    · rw [if_neg e2, if_neg (by omega)]
theorem acA_n {A : Nat → Nat → Int32} {s n j : Nat} (hj : j ≠ 19) : acA A s n j = A j := by
  funext t; unfold acA; rw [if_neg (fun z => hj z.1)]
theorem c_planThrough (R0 : MR S F A) (hS : stOk S) {q : Nat} (hq : q < zm S) : ∃ F' A', mc 180 [.ref m, .int (nI q)] (hX 8 h m F A) = some (some (.int (cmI (zw S q))), hX 8 h m F' A') ∧ MR S F' A' ∧ (zw S q = none → TR (zR S q) (pC (zP S q)) (pG (zP S q)) (pM (zP S q)) F' A') := by
  have hz := hS.1
  have hm := hS.2.1
  obtain ⟨hx, hp⟩ := hS.2.2.2.2.2.1 q hq
  have hd : rdOk (zR S q) := (hS.2.2.2.2.1 _ hx).1
  have h24 := cells_le hd
  have D0 : MRd (zR S q) (pX (zP S q)) A := R0.2.1 _ hx
  have P0 := R0.2.2.1 q hq
  have lp : ∀ n t, t + n = rP (zR S q) * rE (zR S q) → R 5 180 9 [some (.ref m), some (.int (nI q)), some (.int (nI (pX (zP S q)))), some (.int (nI t))] [] (hX 8 h m F (acA A (24 * q) t)) = R 5 180 62 [some (.ref m), some (.int (nI q)), some (.int (nI (pX (zP S q)))), some (.int (nI (rP (zR S q) * rE (zR S q))))] [.int (nI q), .ref (m + 17), .int (nI (pG (zP S q))), .int (nI (pX (zP S q))), .ref m] (hX 8 h m F (acA A (24 * q) (rP (zR S q) * rE (zR S q)))) := by
    intro n
    induction n with
    | zero =>
      intro t ht
      obtain rfl : t = rP (zR S q) * rE (zR S q) := ht
      rw [B180_9, x8_2, obd_some, m_1 (by omega), obd_some, x8_3, obd_some, m_2 (by omega), obd_some, acA_n (by omega), acA_n (by omega), D0.1, D0.2.1, nI_mul, if_neg (show ¬ nI (rP (zR S q) * rE (zR S q)) < nI (rP (zR S q) * rE (zR S q)) from Int32.lt_irrefl), x8_24, obd_some, m_16 (by omega), obd_some, acA_n (by omega), P0.2.2.1, x8_25, obd_some]
    | succ n ih =>
      intro t htn
      have ht : t < rP (zR S q) * rE (zR S q) := by omega
      rw [B180_9, x8_2, obd_some, m_1 (by omega), obd_some, x8_3, obd_some, m_2 (by omega), obd_some, acA_n (by omega), acA_n (by omega), D0.1, D0.2.1, nI_mul, if_pos (show nI t < nI (rP (zR S q) * rE (zR S q)) by rw [nJ_lt (by omega) (by omega)]; exact ht), x8_27, obd_some, x8_26, obd_some, nI_mul, B180_40, nJ_add, m_18 (by omega), obd_some, show acA A (24 * q) t 18 (24 * q + t) = A 18 (24 * q + t) by rw [acA_n (by omega)], mw_19 (by omega), obd_some, acA_s, nJ_add]
      exact ih (t + 1) (by omega)
  have e0 := lp (rP (zR S q) * rE (zR S q)) 0 (Nat.zero_add _)
  rw [show acA A (24 * q) 0 = A by funext j t; unfold acA; rw [if_neg (by omega)]] at e0
  have E : ME (zR S q) (pC (zP S q)) (pX (zP S q)) (acA A (24 * q) (rP (zR S q) * rE (zR S q))) := ⟨D0.of fun j hj => acA_n (by omega), hd, by omega, fun t ht => by unfold acA; rw [if_pos ⟨rfl, ht⟩]; exact P0.2.2.2.2 t ht, hp.2.2.2.1⟩
  obtain ⟨F', A', e1, f1, f2, f3⟩ := c_goThrough (h := h) (m := m) (F := F) E hp.2.1 hp.2.2.1
  refine ⟨F', A', ?_, R0.bs ⟨⟨f1 0 (by decide) (by decide), f1 1 (by decide) (by decide), f1 20 (by decide) (by decide), f1 21 (by decide) (by decide), f1 44 (by decide) (by decide)⟩, fun j hj => ?_⟩, f3.1⟩
  · rw [M180, x8_23, obd_some, m_15 (by omega), obd_some, P0.2.1, show nI 0 = nI 0 from rfl, e0, B180_62, m_17 (by omega), obd_some, acA_n (by omega), P0.2.2.2.1, m_o, obd_some, e1]
    simp only [obd_some, obd_none, Option.toList_some, Option.toList_none, List.cons_append, List.nil_append, cond_true, cond_false, B180_66]
    rfl
  · rw [f2 j (by omega), acA_n (by omega)]
theorem M_wrong (R0 : MR S F A) (hS : stOk S) (v : Int32) : Mv m S h (mc 179 [.ref m, .int v] (hX 8 h m F A)) (.int (aWrong S v)) := by
  have h3 := hS.2.1
  rw [M179, m_o, obd_some, c_noPlan R0 hS]
  simp only [obd_some, obd_none, Option.toList_some, Option.toList_none, List.cons_append, List.nil_append, cond_true, cond_false, B179_5, b2i_0]
  unfold aWrong
  by_cases hv : inN v (zm S)
  · obtain ⟨q, hq, rfl⟩ := inN_nI hv
    obtain ⟨F', A', e1, R1, T1⟩ := c_planThrough (h := h) (m := m) R0 hS hq
    rw [if_pos (not_not_intro hv), if_pos hv, toNat_nI (by omega), m_o, obd_some, e1]
    simp only [obd_some, obd_none, Option.toList_some, Option.toList_none, List.cons_append, List.nil_append, cond_true, cond_false, B179_17]
    exact ⟨F', A', rfl, R1⟩
  · rw [if_neg (show ¬ ¬ ¬ _ from fun z => z hv), if_neg hv, B179_17]
    exact Mv.same R0 rfl
theorem c_inP (v : Int32) {n : Nat} (hn : n < 1000000) (h : jHp) : mc 144 [.long v.toInt64, .long (lN 0), .long (nI n).toInt64] h = some (some (.int (b2i (inN v (n + 1)))), h) := by
  rw [nI_l (by omega)]
  exact c_inN v hn h
theorem M_there (R0 : MR S F A) (hS : stOk S) (v p g : Int32) : Mv m S h (mc 190 [.ref m, .int v, .int p, .int g] (hX 8 h m F A)) (.int (aThere S v p g)) := by
  have h3 := hS.2.1
  have hz3 := hS.1
  rw [M190, m_o, obd_some, c_noPlan R0 hS]
  simp only [obd_some, obd_none, Option.toList_some, Option.toList_none, List.cons_append, List.nil_append, cond_true, cond_false, B190_5, b2i_0]
  unfold aThere
  by_cases hv : inN v (zm S)
  · obtain ⟨q, hq, rfl⟩ := inN_nI hv
    obtain ⟨hx, hp0⟩ := hS.2.2.2.2.2.1 q hq
    have hd : rdOk (zR S q) := (hS.2.2.2.2.1 _ hx).1
    have h4 := hd.2.1
    have h6 := hd.1
    have P0 := R0.2.2.1 q hq
    have D0 : MRd (zR S q) (pX (zP S q)) A := R0.2.1 _ hx
    rw [if_pos (not_not_intro hv), if_pos hv, toNat_nI (by omega), x8_23, obd_some, m_15 (by omega), obd_some, P0.2.1, m_o, obd_some, c_noPerson R0 hS hx]
    simp only [obd_some, obd_none, Option.toList_some, Option.toList_none, List.cons_append, List.nil_append, cond_true, cond_false, B190_19, b2i_0]
    by_cases hp : inN p (rE (zR S q))
    · obtain ⟨u, hu, rfl⟩ := inN_nI hp
      rw [if_pos (show ¬ ¬ inN (nI u) (rE (zD S (pX (zP S q)))) from not_not_intro hp), if_pos hp, toNat_nI (by omega), x8_2, obd_some, x8_23, obd_some, m_15 (by omega), obd_some, P0.2.1, m_1 (by omega), obd_some, D0.1, c_inP g (show rP (zR S q) < 1000000 by omega)]
      simp only [obd_some, obd_none, Option.toList_some, Option.toList_none, List.cons_append, List.nil_append, cond_true, cond_false, B190_40, b2i_0]
      by_cases hg : inN g (rP (zR S q) + 1)
      · obtain ⟨w, hw, rfl⟩ := inN_nI hg
        obtain ⟨F', A', e1, R1, T1⟩ := c_planThrough (h := h) (m := m) R0 hS hq
        rw [if_neg (not_not_intro hg), if_pos hg, toNat_nI (by omega), m_o, obd_some, e1]
        simp only [obd_some, obd_none, Option.toList_some, Option.toList_none, List.cons_append, List.nil_append, cond_true, cond_false, B190_50]
        simp only [show (cmI (zw S q) = -nI 9) = (zw S q = none) from wrP_9 hd _]
        by_cases hz : zw S q = none
        · rw [if_pos hz, if_pos hz, x8_28, obd_some, nI_mul, nJ_add, m_20 (by omega), obd_some, (T1 hz).1 w (by omega) u hu]
          exact ⟨F', A', rfl, R1⟩
        · rw [if_neg hz, if_neg hz]
          exact ⟨F', A', rfl, R1⟩
      · rw [if_pos hg, if_neg hg]
        exact Mv.same R0 rfl
    · rw [if_neg (show ¬ ¬ ¬ inN p (rE (zD S (pX (zP S q)))) from fun z => z hp), if_neg hp]
      exact Mv.same R0 rfl
  · rw [if_neg (show ¬ ¬ ¬ _ from fun z => z hv), if_neg hv]
    exact Mv.same R0 rfl
theorem M_came (R0 : MR S F A) (hS : stOk S) (v p g : Int32) : Mv m S h (mc 191 [.ref m, .int v, .int p, .int g] (hX 8 h m F A)) (.int (aCame S v p g)) := by
  have h3 := hS.2.1
  have hz3 := hS.1
  rw [M191, m_o, obd_some, c_noPlan R0 hS]
  simp only [obd_some, obd_none, Option.toList_some, Option.toList_none, List.cons_append, List.nil_append, cond_true, cond_false, B191_5, b2i_0]
  unfold aCame
  by_cases hv : inN v (zm S)
  · obtain ⟨q, hq, rfl⟩ := inN_nI hv
    obtain ⟨hx, hp0⟩ := hS.2.2.2.2.2.1 q hq
    have hd : rdOk (zR S q) := (hS.2.2.2.2.1 _ hx).1
    have h4 := hd.2.2.1
    have h6 := hd.1
    have P0 := R0.2.2.1 q hq
    have D0 : MRd (zR S q) (pX (zP S q)) A := R0.2.1 _ hx
    rw [if_pos (not_not_intro hv), if_pos hv, toNat_nI (by omega), x8_23, obd_some, m_15 (by omega), obd_some, P0.2.1, m_o, obd_some, c_noBeast R0 hS hx]
    simp only [obd_some, obd_none, Option.toList_some, Option.toList_none, List.cons_append, List.nil_append, cond_true, cond_false, B191_19, b2i_0]
    by_cases hp : inN p (rB (zR S q))
    · obtain ⟨u, hu, rfl⟩ := inN_nI hp
      rw [if_pos (show ¬ ¬ inN (nI u) (rB (zD S (pX (zP S q)))) from not_not_intro hp), if_pos hp, toNat_nI (by omega), x8_2, obd_some, x8_23, obd_some, m_15 (by omega), obd_some, P0.2.1, m_1 (by omega), obd_some, D0.1, c_inP g (show rP (zR S q) < 1000000 by omega)]
      simp only [obd_some, obd_none, Option.toList_some, Option.toList_none, List.cons_append, List.nil_append, cond_true, cond_false, B191_40, b2i_0]
      by_cases hg : inN g (rP (zR S q) + 1)
      · obtain ⟨w, hw, rfl⟩ := inN_nI hg
        obtain ⟨F', A', e1, R1, T1⟩ := c_planThrough (h := h) (m := m) R0 hS hq
        rw [if_neg (not_not_intro hg), if_pos hg, toNat_nI (by omega), m_o, obd_some, e1]
        simp only [obd_some, obd_none, Option.toList_some, Option.toList_none, List.cons_append, List.nil_append, cond_true, cond_false, B191_50]
        simp only [show (cmI (zw S q) = -nI 9) = (zw S q = none) from wrP_9 hd _]
        by_cases hz : zw S q = none
        · rw [if_pos hz, if_pos hz, x8_32, obd_some, nI_mul, nJ_add, m_24 (by omega), obd_some, (T1 hz).2.2.1 u hu w (by omega)]
          exact ⟨F', A', rfl, R1⟩
        · rw [if_neg hz, if_neg hz]
          exact ⟨F', A', rfl, R1⟩
      · rw [if_pos hg, if_neg hg]
        exact Mv.same R0 rfl
    · rw [if_neg (show ¬ ¬ ¬ inN p (rB (zD S (pX (zP S q)))) from fun z => z hp), if_neg hp]
      exact Mv.same R0 rfl
  · rw [if_neg (show ¬ ¬ ¬ _ from fun z => z hv), if_neg hv]
    exact Mv.same R0 rfl
theorem M_went (R0 : MR S F A) (hS : stOk S) (v p g : Int32) : Mv m S h (mc 192 [.ref m, .int v, .int p, .int g] (hX 8 h m F A)) (.int (aWent S v p g)) := by
  have h3 := hS.2.1
  have hz3 := hS.1
  rw [M192, m_o, obd_some, c_noPlan R0 hS]
  simp only [obd_some, obd_none, Option.toList_some, Option.toList_none, List.cons_append, List.nil_append, cond_true, cond_false, B192_5, b2i_0]
  unfold aWent
  by_cases hv : inN v (zm S)
  · obtain ⟨q, hq, rfl⟩ := inN_nI hv
    obtain ⟨hx, hp0⟩ := hS.2.2.2.2.2.1 q hq
    have hd : rdOk (zR S q) := (hS.2.2.2.2.1 _ hx).1
    have h4 := hd.2.1
    have h6 := hd.1
    have P0 := R0.2.2.1 q hq
    rw [if_pos (not_not_intro hv), if_pos hv, toNat_nI (by omega), x8_23, obd_some, m_15 (by omega), obd_some, P0.2.1, m_o, obd_some, c_noPerson R0 hS hx]
    simp only [obd_some, obd_none, Option.toList_some, Option.toList_none, List.cons_append, List.nil_append, cond_true, cond_false, B192_19, b2i_0]
    by_cases hp : inN p (rE (zR S q))
    · obtain ⟨u, hu, rfl⟩ := inN_nI hp
      rw [if_pos (show ¬ ¬ inN (nI u) (rE (zD S (pX (zP S q)))) from not_not_intro hp), if_pos hp, toNat_nI (by omega), x8_23, obd_some, m_15 (by omega), obd_some, P0.2.1, m_o, obd_some, c_noPiece R0 hS hx]
      simp only [obd_some, obd_none, Option.toList_some, Option.toList_none, List.cons_append, List.nil_append, cond_true, cond_false, B192_33, b2i_0]
      by_cases hg : inN g (rP (zR S q))
      · obtain ⟨w, hw, rfl⟩ := inN_nI hg
        obtain ⟨F', A', e1, R1, T1⟩ := c_planThrough (h := h) (m := m) R0 hS hq
        rw [if_pos (show ¬ ¬ inN (nI w) (rP (zD S (pX (zP S q)))) from not_not_intro hg), if_pos hg, toNat_nI (by omega), m_o, obd_some, e1]
        simp only [obd_some, obd_none, Option.toList_some, Option.toList_none, List.cons_append, List.nil_append, cond_true, cond_false, B192_43]
        simp only [show (cmI (zw S q) = -nI 9) = (zw S q = none) from wrP_9 hd _]
        by_cases hz : zw S q = none
        · rw [if_pos hz, if_pos hz, x8_29, obd_some, nI_mul, nJ_add, m_21 (by omega), obd_some, (T1 hz).2.1 w hw u hu]
          exact ⟨F', A', rfl, R1⟩
        · rw [if_neg hz, if_neg hz]
          exact ⟨F', A', rfl, R1⟩
      · rw [if_neg (show ¬ ¬ ¬ inN g (rP (zD S (pX (zP S q)))) from fun z => z hg), if_neg hg]
        exact Mv.same R0 rfl
    · rw [if_neg (show ¬ ¬ ¬ inN p (rE (zD S (pX (zP S q)))) from fun z => z hp), if_neg hp]
      exact Mv.same R0 rfl
  · rw [if_neg (show ¬ ¬ ¬ _ from fun z => z hv), if_neg hv]
    exact Mv.same R0 rfl
theorem M_walked (R0 : MR S F A) (hS : stOk S) (v p : Int32) : Mv m S h (mc 195 [.ref m, .int v, .int p] (hX 8 h m F A)) (.int (aWalked S v p)) := by
  have h3 := hS.2.1
  have hz3 := hS.1
  rw [M195, m_o, obd_some, c_noPlan R0 hS]
  simp only [obd_some, obd_none, Option.toList_some, Option.toList_none, List.cons_append, List.nil_append, cond_true, cond_false, B195_5, b2i_0]
  unfold aWalked
  by_cases hv : inN v (zm S)
  · obtain ⟨q, hq, rfl⟩ := inN_nI hv
    obtain ⟨hx, hp0⟩ := hS.2.2.2.2.2.1 q hq
    have hd : rdOk (zR S q) := (hS.2.2.2.2.1 _ hx).1
    have h4 := hd.2.1
    have P0 := R0.2.2.1 q hq
    rw [if_pos (not_not_intro hv), if_pos hv, toNat_nI (by omega), x8_23, obd_some, m_15 (by omega), obd_some, P0.2.1, m_o, obd_some, c_noPerson R0 hS hx]
    simp only [obd_some, obd_none, Option.toList_some, Option.toList_none, List.cons_append, List.nil_append, cond_true, cond_false, B195_19, b2i_0]
    by_cases hp : inN p (rE (zR S q))
    · obtain ⟨u, hu, rfl⟩ := inN_nI hp
      obtain ⟨F', A', e1, R1, T1⟩ := c_planThrough (h := h) (m := m) R0 hS hq
      rw [if_pos (show ¬ ¬ inN (nI u) (rE (zD S (pX (zP S q)))) from not_not_intro hp), if_pos hp, toNat_nI (by omega), m_o, obd_some, e1]
      simp only [obd_some, obd_none, Option.toList_some, Option.toList_none, List.cons_append, List.nil_append, cond_true, cond_false, B195_29]
      simp only [show (cmI (zw S q) = -nI 9) = (zw S q = none) from wrP_9 hd _]
      by_cases hz : zw S q = none
      · rw [if_pos hz, if_pos hz, x8_30, obd_some, m_22 (by omega), obd_some, (T1 hz).2.2.2.1 u hu]
        exact ⟨F', A', rfl, R1⟩
      · rw [if_neg hz, if_neg hz]
        exact ⟨F', A', rfl, R1⟩
    · rw [if_neg (show ¬ ¬ ¬ inN p (rE (zD S (pX (zP S q)))) from fun z => z hp), if_neg hp]
      exact Mv.same R0 rfl
  · rw [if_neg (show ¬ ¬ ¬ _ from fun z => z hv), if_neg hv]
    exact Mv.same R0 rfl
theorem l_outOf {d : jRD} {i : Nat} (D0 : MRd d i A) (hd : rdOk d) (hi : i < 3) {s : jGS} (hs : gOk (rP d) s) (hA : ∀ p, p < rE d → A 20 (7 * p + rP d) = nI (ga s p) ∧ A 22 p = nI (gf s p)) (h35 : F 35 = .int (nI (gt s))) (h36 : F 36 = .int (nI (gl s))) {w : Nat} (hw : w < 5) :
    ∀ n p o7, p + n = rE d → R 2 194 13 [some (.ref m), some (.int (nI i)), some (.int (nI w)), some (.int (nI (maxB (fun _ => true) (ga s) 0 p))), some (.int (nI (mnB (ga s) p))), some (.int (nI (maxB (fun _ => true) (gf s) 0 p))), some (.int (nI p)), o7] [] (hX 8 h m F A) = some (some (.int (nI (outN d s w))), hX 8 h m F A) := by
  have h4 := hd.2.1
  have h6 := hd.1
  intro n
  induction n with
  | zero =>
    intro p o7 hp
    obtain rfl : p = rE d := hp
    rw [B194_13, x8_3, obd_some, m_2 hi, obd_some, D0.2.1, if_neg (show ¬ nI (rE d) < nI (rE d) from Int32.lt_irrefl), x8_35, h35, vI_i, obd_some, x8_36, h36, vI_i, obd_some]
    simp only [B194_130]
    rcases (by omega : w = 0 ∨ w = 1 ∨ w = 2 ∨ w = 3 ∨ w = 4) with rfl | rfl | rfl | rfl | rfl <;> rfl
  | succ n ih =>
    intro p o7 hpn
    have hp : p < rE d := by omega
    have g1 := maxB_le (f := fun _ => true) (g := ga s) (x := 0) (c := 100000) (Nat.zero_le _) (fun q => by have := hs.1 q; omega) p
    have g2 := maxB_le (f := fun _ => true) (g := gf s) (x := 0) (c := 100000) (Nat.zero_le _) (fun q => by have := hs.2.1 q; omega) p
    have g3 := mnB_le (g := ga s) p
    have g4 := hs.1 p
    have g5 := hs.2.1 p
    rw [B194_13, x8_3, obd_some, m_2 hi, obd_some, D0.2.1, if_pos (show nI p < nI (rE d) by rw [nJ_lt (by omega) (by omega)]; exact hp), x8_28, obd_some, x8_2, obd_some, m_1 hi, obd_some, D0.1, nI_mul, nJ_add, m_20 (by omega), obd_some, (hA p hp).1, B194_46, c_greater (by omega) (by omega)]
    simp only [obd_some, obd_none, Option.toList_some, Option.toList_none, List.cons_append, List.nil_append, cond_true, cond_false, B194_49]
    have e := ih (p + 1) none (by omega)
    have fin : ∀ o4 v, v = mnB (ga s) (p + 1) → R 2 194 64 [some (.ref m), some (.int (nI i)), some (.int (nI w)), some (.int (nI (if maxB (fun _ => true) (ga s) 0 p < ga s p then ga s p else maxB (fun _ => true) (ga s) 0 p))), o4, some (.int (nI (maxB (fun _ => true) (gf s) 0 p))), some (.int (nI p)), some (.int (nI (ga s p)))] [.int (nI v)] (hX 8 h m F A) = some (some (.int (nI (outN d s w))), hX 8 h m F A) := by
      rintro o4 v rfl
      rw [B194_64, x8_30, obd_some, m_22 (by omega), obd_some, (hA p hp).2, c_greater (by omega) (by omega)]
      simp only [obd_some, obd_none, Option.toList_some, Option.toList_none, List.cons_append, List.nil_append, cond_true, cond_false, B194_78, nJ_add]
      rw [maxB, maxB, if_pos rfl, if_pos rfl] at e
      exact e
    by_cases q : ga s p < mnB (ga s) p
    · rw [if_pos (show nI (ga s p) < nI (mnB (ga s) p) by rw [nJ_lt (by omega) (by omega)]; exact q)]
      exact fin _ _ (by rw [mnB, if_pos q])
    · rw [if_neg (show ¬ nI (ga s p) < nI (mnB (ga s) p) by rw [nJ_lt (by omega) (by omega)]; exact q)]
      exact fin _ _ (by rw [mnB, if_neg q])
theorem c_outOf {d : jRD} {i : Nat} (D0 : MRd d i A) (hd : rdOk d) (hi : i < 3) {c : Nat → Nat} {g mn : Nat} (hmn : mn ≤ 60) (T : TR d c g mn F A) {w : Nat} (hw : w < 5) : mc 194 [.ref m, .int (nI i), .int (nI w)] (hX 8 h m F A) = some (some (.int (nI (outN d (sq d c g mn (rP d)) w))), hX 8 h m F A) := by
  rw [M194, B194_10]
  exact l_outOf D0 hd hi (sq_ok hd c g hmn (rP d)) (fun p hp => ⟨T.1 (rP d) (Nat.le_refl _) p hp, T.2.2.2.1 p hp⟩) T.2.2.2.2.1 T.2.2.2.2.2 hw (rE d) 0 none (Nat.zero_add _)
theorem M_outcome (R0 : MR S F A) (hS : stOk S) (v w : Int32) : Mv m S h (mc 193 [.ref m, .int v, .int w] (hX 8 h m F A)) (.int (aOutcome S v w)) := by
  have h3 := hS.2.1
  have hz3 := hS.1
  rw [M193, m_o, obd_some, c_noPlan R0 hS]
  simp only [obd_some, obd_none, Option.toList_some, Option.toList_none, List.cons_append, List.nil_append, cond_true, cond_false, B193_5, b2i_0]
  unfold aOutcome
  by_cases hv : inN v (zm S)
  · obtain ⟨q, hq, rfl⟩ := inN_nI hv
    obtain ⟨hx, hp0⟩ := hS.2.2.2.2.2.1 q hq
    have hd : rdOk (zR S q) := (hS.2.2.2.2.1 _ hx).1
    rw [if_pos (not_not_intro hv), if_pos hv, toNat_nI (by omega), c_inN w (by decide)]
    simp only [obd_some, obd_none, Option.toList_some, Option.toList_none, List.cons_append, List.nil_append, cond_true, cond_false, B193_19, b2i_0]
    by_cases hw : inN w 5
    · obtain ⟨u, hu, rfl⟩ := inN_nI hw
      obtain ⟨F', A', e1, R1, T1⟩ := c_planThrough (h := h) (m := m) R0 hS hq
      rw [if_neg (not_not_intro hw), if_pos hw, toNat_nI (by omega), m_o, obd_some, e1]
      simp only [obd_some, obd_none, Option.toList_some, Option.toList_none, List.cons_append, List.nil_append, cond_true, cond_false, B193_30]
      simp only [show (cmI (zw S q) = -nI 9) = (zw S q = none) from wrP_9 hd _]
      by_cases hz : zw S q = none
      · rw [if_pos hz, if_pos hz, x8_23, obd_some, m_15 (by omega), obd_some, (R1.2.2.1 q hq).2.1, m_o, obd_some, c_outOf (R1.2.1 _ hx) hd (by omega) hp0.2.2.1 (T1 hz) hu]
        simp only [obd_some, obd_none, Option.toList_some, Option.toList_none, List.cons_append, List.nil_append, cond_true, cond_false, B193_46]
        exact ⟨F', A', rfl, R1⟩
      · rw [if_neg hz, if_neg hz]
        exact ⟨F', A', rfl, R1⟩
    · rw [if_pos hw, if_neg hw]
      exact Mv.same R0 rfl
  · rw [if_neg (show ¬ ¬ ¬ _ from fun z => z hv), if_neg hv]
    exact Mv.same R0 rfl
/-! shares -/
theorem l_mcommon (h : jHp) : ∀ (n g l : Nat) (o0 o1 o2 o3 o5 o7 o8 o9 : Option Value), l < n → l < 4611686018427387904 → g < 4611686018427387904 → R 1 199 17 [o0, o1, o2, o3, some (.long (lN g)), o5, some (.long (lN l)), o7, o8, o9] [] h = some (some (.long (lN (Nat.gcd g l))), h) := by
  intro n
  induction n with
  | zero => intro g l o0 o1 o2 o3 o5 o7 o8 o9 hl; exact absurd hl (Nat.not_lt_zero l)
  | succ n ih =>
    intro g l o0 o1 o2 o3 o5 o7 o8 o9 hl hl2 hg
    rw [B199_17, B199_19]
    by_cases l0 : l = 0
    · subst l0
      rw [if_pos (show lg_cmp (lN 0) (lN 0) = 0 by decide), Nat.gcd_zero_right]
    · have hr := Nat.mod_lt g (show 0 < l by omega)
      have e : lN g - lN g / lN l * lN l = lN (g % l) := by rw [lN_z, lN_z, lz_mod (by omega) (by omega) (by omega), ← lN_z]
      rw [if_neg (show ¬ lg_cmp (lN l) (lN 0) = 0 by rw [cmpN_eq hl2]; exact l0), if_neg (show ¬ lN l = 0 by rw [lN_eq0 hl2]; exact l0), e, show Nat.gcd g l = Nat.gcd l (g % l) by rw [Nat.gcd_comm g l, Nat.gcd_rec l g, Nat.gcd_comm]]
      exact ih l (g % l) _ _ _ _ _ _ _ _ (by omega) (by omega) hl2
theorem c_mcommon (h : jHp) {a b : Nat} (ha : a < 4611686018427387904) (hb : b < 4611686018427387904) : mc 199 [.long (lN a), .long (lN b)] h = some (some (.long (lN (Nat.gcd a b))), h) := by
  rw [M199, if_neg (show ¬ lg_cmp (lN a) (lN 0) < 0 by rw [lN_z, lN_z, cmp_lt (by omega) (by omega)]; omega), B199_12, B199_14]
  exact l_mcommon h (b + 1) a b _ _ _ _ _ _ _ _ (Nat.lt_succ_self b) hb ha
theorem c_told (h : jHp) {a b : Nat} (hb0 : 0 < b) (ha : a < 4611686018427387904) (hb : b < 4611686018427387904) (w : Int32) : mc 198 [.long (lN a), .long (lN b), .int w] h = some (some (.long (hlf (red a b) w)), h) := by
  have hg := Nat.gcd_pos_of_pos_right a hb0
  have hgl : Nat.gcd a b ≤ b := Nat.le_of_dvd hb0 (Nat.gcd_dvd_right a b)
  have hn : ¬ lN (Nat.gcd a b) = 0 := by rw [lN_eq0 (by omega)]; omega
  rw [M198, c_mcommon h ha hb]
  simp only [obd_some, obd_none, Option.toList_some, Option.toList_none, List.cons_append, List.nil_append, cond_true, cond_false, B198_15]
  unfold hlf
  by_cases w0 : w = nI 0
  · rw [if_pos (show w = 0 from w0), if_pos w0, if_neg hn, lN_div ha (by omega) hg]
    rfl
  · rw [if_neg (show ¬ w = 0 from w0), if_neg w0, if_neg hn, lN_div hb (by omega) hg]
    rfl
theorem l_mSafe (R0 : MR S F A) (hS : stOk S) {N : Nat} (hN : N ≤ 12) (h36 : F 36 = .int (nI N)) (w : Int32) : ∀ n k (o1 o4 o6 : Option Value), k + n = N → R 6 196 40 [some (.ref m), o1, some (.int w), some (.long (lN ((12 - zg S) ^ k))), o4, some (.long (lN (12 ^ k))), o6, some (.int (nI k))] [] (hX 8 h m F A) = some (some (.long (hlf (sfN (zg S) N) w)), hX 8 h m F A) := by
  have hg := hS.2.2.1
  have b1 : ∀ k, k ≤ 12 → 12 ^ k ≤ 8916100448256 := fun k hk => Nat.le_trans (Nat.pow_le_pow_right (by decide) hk) (by decide)
  have b2 : ∀ k, k ≤ 12 → (12 - zg S) ^ k ≤ 8916100448256 := fun k hk => Nat.le_trans (Nat.pow_le_pow_left (by omega) k) (b1 k hk)
  intro n
  induction n with
  | zero =>
    intro k o1 o4 o6 hk
    obtain rfl : k = N := hk
    have g1 := b1 k hN
    have g2 := b2 k hN
    rw [B196_40, x8_36, h36, vI_i, obd_some, if_neg (show ¬ nI k < nI k from Int32.lt_irrefl), c_told (hX 8 h m F A) (Nat.pow_pos (by decide)) (by omega) (by omega)]
    simp only [obd_some, obd_none, Option.toList_some, Option.toList_none, List.cons_append, List.nil_append, cond_true, cond_false, B196_81]
    rfl
  | succ n ih =>
    intro k o1 o4 o6 hkn
    have g1 := b1 k (by omega)
    have g2 := b2 k (by omega)
    rw [B196_40, x8_36, h36, vI_i, obd_some, if_pos (show nI k < nI N by rw [nJ_lt (by omega) (by omega)]; omega), x8_20, R0.1.2.2.1, vI_i, obd_some, nI_sub hg, nI_l (by omega), lN_mul, lN_mul, ← Nat.pow_succ, ← Nat.pow_succ, nJ_add]
    exact ih (k + 1) none none none (by omega)
theorem M_safe (R0 : MR S F A) (hS : stOk S) (v w : Int32) : Mv m S h (mc 196 [.ref m, .int v, .int w] (hX 8 h m F A)) (.long (aSafe S v w)) := by
  have h3 := hS.2.1
  have e28 : ∀ o0 o1 o2 o3 o4 o5 o6 o7 (h : jHp), R 6 196 28 [o0, o1, o2, o3, o4, o5, o6, o7] [] h = some (some (.long lostJ), h) := by
    intro o0 o1 o2 o3 o4 o5 o6 o7 h
    rw [B196_28, M197]
    simp only [obd_some, obd_none, Option.toList_some, Option.toList_none, List.cons_append, List.nil_append, cond_true, cond_false, B196_31]; rfl
  rw [M196, m_o, obd_some, c_noPlan R0 hS]
  simp only [obd_some, obd_none, Option.toList_some, Option.toList_none, List.cons_append, List.nil_append, cond_true, cond_false, B196_5, b2i_0]
  unfold aSafe
  by_cases hv : inN v (zm S)
  · obtain ⟨q, hq, rfl⟩ := inN_nI hv
    obtain ⟨hx, hp0⟩ := hS.2.2.2.2.2.1 q hq
    have hd : rdOk (zR S q) := (hS.2.2.2.2.1 _ hx).1
    have h6 := hd.1
    rw [if_pos (not_not_intro hv), if_pos hv, toNat_nI (by omega), c_inN w (by decide)]
    simp only [obd_some, obd_none, Option.toList_some, Option.toList_none, List.cons_append, List.nil_append, cond_true, cond_false, B196_15, b2i_0]
    by_cases hw : inN w 2
    · obtain ⟨F', A', e1, R1, T1⟩ := c_planThrough (h := h) (m := m) R0 hS hq
      have hgl := (zq_ok hS hq (rP (zR S q))).2.2.2.2.2.2
      rw [if_neg (not_not_intro hw), if_pos hw, m_o, obd_some, e1]
      simp only [obd_some, obd_none, Option.toList_some, Option.toList_none, List.cons_append, List.nil_append, cond_true, cond_false, B196_23]
      simp only [show (cmI (zw S q) = -nI 9) = (zw S q = none) from wrP_9 hd _]
      by_cases hz : zw S q = none
      · rw [if_pos hz, if_pos hz]
        refine ⟨F', A', ?_, R1⟩
        exact l_mSafe R1 hS (N := gl (zq S q (rP (zR S q)))) (by omega) (T1 hz).2.2.2.2.2 w (gl (zq S q (rP (zR S q)))) 0 _ _ _ (Nat.zero_add _)
      · rw [if_neg hz, if_neg hz, e28]
        exact ⟨F', A', rfl, R1⟩
    · rw [if_pos hw, if_neg hw, e28]
      exact Mv.same R0 rfl
  · rw [if_neg (show ¬ ¬ ¬ _ from fun z => z hv), if_neg hv, e28]
    exact Mv.same R0 rfl
end MPlan
