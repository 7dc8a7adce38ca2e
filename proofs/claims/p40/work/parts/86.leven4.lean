/-! The law holds even and share against the road. -/
theorem sub_l {a b : Nat} (ha : a < 100000) (hb : b < 100000) : (nI a - nI b).toInt64 = lz ((a : Int) - b) := by
  apply Int64.toInt_inj.mp
  rw [Int32.toInt_toInt64, Int32.toInt_sub, toInt_nI (by omega), toInt_nI (by omega), lz_int ⟨by omega, by omega⟩]
  unfold Int.bmod
  dsimp only
  split <;> omega
theorem cN_gt {a b : Nat} (ha : a < 9223372036854775808) (hb : b < 9223372036854775808) : (0 < lg_cmp (lN a) (lN b)) = (b < a) := by
  rw [lN_z, lN_z, cmp_gt ⟨by omega, by omega⟩ ⟨by omega, by omega⟩]
  exact propext ⟨fun h => by omega, fun h => by omega⟩
theorem cN_lt {a b : Nat} (ha : a < 9223372036854775808) (hb : b < 9223372036854775808) : (lg_cmp (lN a) (lN b) < 0) = (a < b) := by
  rw [lN_z, lN_z, cmp_lt ⟨by omega, by omega⟩ ⟨by omega, by omega⟩]
  exact propext ⟨fun h => by omega, fun h => by omega⟩
theorem cN_eq {a b : Nat} (ha : a < 9223372036854775808) (hb : b < 9223372036854775808) : (lg_cmp (lN a) (lN b) = 0) = (a = b) := by
  rw [lN_z, lN_z, cmp_eq ⟨by omega, by omega⟩ ⟨by omega, by omega⟩]
  exact propext ⟨fun h => by omega, fun h => by omega⟩
theorem cmp_sf (v : Int64) : lg_cmp v v = 0 := by
  have h1 := Int64.le_toInt v
  have h2 := Int64.toInt_lt v
  have e : v = lz v.toInt := (Int64.ofInt_toInt v).symm
  rw [e, cmp_eq ⟨by omega, by omega⟩ ⟨by omega, by omega⟩]
section LEven
variable {x : Nat} {S : jST} {b L : Nat} {xs : Nat → Int32} {r p : Nat} {fr : Nat → Int32} {F : Nat → Nat → Int32} {d : jRD} {e up dn : Nat} {can : Int32}
/-- all miles; whether the ground is even -/
theorem l_mls {h : jHp} (I : WL x S b L xs r p fr F h) (hr : RdA d fr) (hd : rdOk d) (hB : 0 < rB d) : ∀ m k fl, k + m = rP d → (fl = nI 0 ∨ fl = nI 1) → (fl = nI 1 → rL d = none ∧ ∀ j, j < k → rG d j = 0) →
    ∃ fl', R 26 0 963 [some (.ref b), some (.ref x), some (.int (nI e)), some (.ref r), none, none, none, none, none, none, some (.int can), none, none, some (.ref (p + 2)), none, none, none, none, none, some (.long (lN up)), none, some (.long (lN dn)), none, some (.int (nI (sumN (rM d) k))), some (.int fl), some (.int (nI k)), none, none, none, none, none, none, none, none, none, none, none, none, none, none, none, none] [] h = R 26 0 1050 [some (.ref b), some (.ref x), some (.int (nI e)), some (.ref r), none, none, none, none, none, none, some (.int can), none, none, some (.ref (p + 2)), none, none, none, none, none, some (.long (lN up)), none, some (.long (lN dn)), none, some (.int (nI (allM d))), none, none, none, none, none, none, none, none, none, none, none, none, none, none, none, none, none, none] [.int fl'] h ∧ (fl' = nI 0 ∨ fl' = nI 1) ∧ (fl' = nI 1 → flatD d)
  | 0, k, fl, hk, h01, hf => by
    have h6 := hd.1
    have h2 := hd.2.2.1
    obtain rfl : k = rP d := hk
    rw [B0_963, I.rr (by omega), obd_some, hr.1, if_neg (show ¬ nI (rP d) < nI (rP d) from fun z => Int32.lt_irrefl z)]
    rcases h01 with z | z
    · refine ⟨nI 0, ?_, Or.inl rfl, fun q => absurd q (by decide)⟩
      rw [if_pos (show fl = 0 from z)]; rfl
    · obtain ⟨f1, f2⟩ := hf z
      rw [if_neg (show ¬ fl = 0 by rw [z]; decide), B0_1018, I.rr (by omega), obd_some, hr.2.2.1]
      have hsb := fun j => sB_le hd j
      by_cases y : rB d < 2
      · refine ⟨nI 1, ?_, Or.inr rfl, fun _ => ⟨f2, f1, fun q hq => ?_⟩⟩
        · rw [if_pos (show nI (rB d) < nI 2 by rw [nJ_lt (by omega) (by omega)]; exact y)]; rfl
        · obtain rfl : q = 0 := by omega
          exact ⟨Nat.le_refl _, Nat.le_refl _⟩
      · have e42 : alI h r (nI 42) = some (nI (sB d 1 0)) := by rw [I.rr (by omega)]; exact congrArg some (hr.2.2.2.2.2.2.2 1 0 (by omega) (by omega))
        have e36 : alI h r (nI 36) = some (nI (sB d 0 0)) := by rw [I.rr (by omega)]; exact congrArg some (hr.2.2.2.2.2.2.2 0 0 (by omega) (by omega))
        have e45 : alI h r (nI 45) = some (nI (sB d 1 3)) := by rw [I.rr (by omega)]; exact congrArg some (hr.2.2.2.2.2.2.2 1 3 (by omega) (by omega))
        have e39 : alI h r (nI 39) = some (nI (sB d 0 3)) := by rw [I.rr (by omega)]; exact congrArg some (hr.2.2.2.2.2.2.2 0 3 (by omega) (by omega))
        have a1 := hsb 1 0
        have a2 := hsb 0 0
        have a3 := hsb 1 3
        have a4 := hsb 0 3
        rw [if_neg (show ¬ nI (rB d) < nI 2 by rw [nJ_lt (by omega) (by omega)]; exact y), e42, obd_some, e36, obd_some, B0_1031]
        by_cases y1 : sB d 1 0 < sB d 0 0
        · refine ⟨nI 0, ?_, Or.inl rfl, fun q => absurd q (by decide)⟩
          rw [if_pos (show nI (sB d 1 0) < nI (sB d 0 0) by rw [nJ_lt (by omega) (by omega)]; exact y1)]; rfl
        · rw [if_neg (show ¬ nI (sB d 1 0) < nI (sB d 0 0) by rw [nJ_lt (by omega) (by omega)]; exact y1), e45, obd_some, e39, obd_some]
          by_cases y2 : sB d 0 3 < sB d 1 3
          · refine ⟨nI 0, ?_, Or.inl rfl, fun q => absurd q (by decide)⟩
            rw [if_pos (show nI (sB d 0 3) < nI (sB d 1 3) by rw [nJ_lt (by omega) (by omega)]; exact y2)]; rfl
          · refine ⟨nI 1, ?_, Or.inr rfl, fun _ => ⟨f2, f1, fun q hq => ?_⟩⟩
            · rw [if_neg (show ¬ nI (sB d 0 3) < nI (sB d 1 3) by rw [nJ_lt (by omega) (by omega)]; exact y2)]; rfl
            · rcases (by omega : q = 0 ∨ q = 1) with rfl | rfl
              · exact ⟨Nat.le_refl _, Nat.le_refl _⟩
              · exact ⟨by omega, by omega⟩
  | m + 1, k, fl, hk, h01, hf => by
    have h6 := hd.1
    have hkP : k < rP d := by omega
    have hg2 := hd.2.2.2.2.1 k
    obtain ⟨a6, a7⟩ := hr.2.2.2.2.2.1 k hkP
    have ih := fun fl' h1 h2 => l_mls I hr hd hB m (k + 1) fl' (by omega) h1 h2
    rw [B0_963, I.rr (by omega), obd_some, hr.1, if_pos (show nI k < nI (rP d) by rw [nJ_lt (by omega) (by omega)]; exact hkP), B0_978, nJ_add, I.rr (by omega), obd_some, a6]
    have es : nI (sumN (rM d) k) + nI (rM d k) = nI (sumN (rM d) (k + 1)) := nJ_add _ _
    rcases h01 with z | z
    · obtain ⟨fl', q1, q2, q3⟩ := ih (nI 0) (Or.inl rfl) (fun q => absurd q (by decide))
      refine ⟨fl', ?_, q2, q3⟩
      rw [if_pos (show fl = 0 from z), es, B0_1005, nJ_add]
      exact q1
    · obtain ⟨f1, f2⟩ := hf z
      rw [if_neg (show ¬ fl = 0 by rw [z]; decide), es, B0_993, nJ_add, I.rr (by omega), obd_some, a7]
      by_cases y : rG d k = 0
      · obtain ⟨fl', q1, q2, q3⟩ := ih (nI 1) (Or.inr rfl) (fun _ => ⟨f1, fun j hj => by
          by_cases w : j = k
          · rw [w]; exact y
          · exact f2 j (by omega)⟩)
        refine ⟨fl', ?_, q2, q3⟩
        rw [if_pos (show nI (rG d k) = 0 by rw [y]; rfl), B0_1005, nJ_add]
        exact q1
      · obtain ⟨fl', q1, q2, q3⟩ := ih (nI 0) (Or.inl rfl) (fun q => absurd q (by decide))
        refine ⟨fl', ?_, q2, q3⟩
        rw [if_neg (show ¬ nI (rG d k) = 0 by rw [nI_eq0 (by omega)]; exact y), B0_1005, nJ_add]
        exact q1
/-- one share's numbers, as the class tells them -/
theorem s_call {h : jHp} (I : WL x S b L xs r p fr F h) (he : e < zn S) (hD : zD S e = d) (hB : 0 < rB d) {i : Nat} (hi : i < rE d) {w : Nat} (hw : w < 2) :
    ∃ h', mc 87 [.ref x, .int (nI e), .int (nI i), .int (nI w)] h = some (some (.long (if w = 0 then lN (ridn d i (evn d)).1 else lN (ridn d i (evn d)).2)), h') ∧ WL x S b L xs r p fr F h' ∧ h'.2 = h.2 := by
  have hS := I.1.2.1
  have h3 := hS.1
  subst hD
  have hd := (hS.2.2.2.2.1 e he).1
  have h4 := hd.2.1
  obtain ⟨h1, e1, I1, K1⟩ := I.call (fun dr ra ba pa W => T_share W hS (nI e) (nI i) (nI w))
  have ea : aShare S (nI e) (nI i) (nI w) = if w = 0 then lN (ridn (zD S e) i (evn (zD S e))).1 else lN (ridn (zD S e) i (evn (zD S e))).2 := by
    unfold aShare hlf
    rw [if_pos (show inN (nI e) (zn S) from inN_of he (by omega)), toNat_nI (show e < 2147483648 by omega), if_pos (show inN (nI i) (rE (zD S e)) from inN_of hi (by omega)), if_pos (show inN (nI w) 2 from inN_of hw (by omega)), if_neg (show ¬ rB (zD S e) = 0 by omega), toNat_nI (show i < 2147483648 by omega)]
    by_cases y : w = 0
    · rw [if_pos (show nI w = nI 0 by rw [y]), if_pos y]
    · rw [if_neg (show ¬ nI w = nI 0 by rw [nI_inj (by omega) (by omega)]; exact y), if_neg y]
  rw [ea] at e1
  exact ⟨h1, e1, I1, K1.2.2⟩
theorem e_call {h : jHp} (I : WL x S b L xs r p fr F h) (he : e < zn S) (hD : zD S e = d) (w : Nat) (hw : w < 3) :
    ∃ h', mc 76 [.ref x, .int (nI e), .int (nI w)] h = some (some (.long (if rB d = 0 ∨ w = 2 then lostJ else if w = 0 then lN (evnA d).1 else lN (evnA d).2)), h') ∧ WL x S b L xs r p fr F h' ∧ h'.2 = h.2 := by
  have hS := I.1.2.1
  have h3 := hS.1
  subst hD
  obtain ⟨h1, e1, I1, K1⟩ := I.call (fun dr ra ba pa W => T_even W hS (nI e) (nI w))
  have ea : aEven S (nI e) (nI w) = if rB (zD S e) = 0 ∨ w = 2 then lostJ else if w = 0 then lN (evnA (zD S e)).1 else lN (evnA (zD S e)).2 := by
    unfold aEven hlf
    rw [if_pos (show inN (nI e) (zn S) from inN_of he (by omega)), toNat_nI (show e < 2147483648 by omega)]
    by_cases y : w = 2
    · rw [if_neg (show ¬ inN (nI w) 2 by unfold inN; rw [toInt_nI (by omega)]; omega), if_pos (Or.inr y)]
    · rw [if_pos (show inN (nI w) 2 from inN_of (by omega) (by omega))]
      by_cases z : rB (zD S e) = 0
      · rw [if_pos z, if_pos (Or.inl z)]
      · rw [if_neg z, if_neg (show ¬ (rB (zD S e) = 0 ∨ w = 2) from fun q => q.elim z y)]
        by_cases y0 : w = 0
        · rw [if_pos (show nI w = nI 0 by rw [y0]), if_pos y0]
        · rw [if_neg (show ¬ nI w = nI 0 by rw [nI_inj (by omega) (by omega)]; exact y0), if_neg y0]
  rw [ea] at e1
  exact ⟨h1, e1, I1, K1.2.2⟩
end LEven
