def GateIs (d : jRD) (A : Nat → Nat → Int32) (k : Nat) (s : jGS) : Prop :=
  (∀ p, p < rE d → A 1 (k * 4 + p) = nI (ga s p) ∧ A 3 (k * 4 + p) = nI (gf s p)) ∧
  (∀ b, b < rB d → A 4 (k * 2 + b) = cmI (gc s b) ∧ (¬ gc s b = none → A 5 (k * 2 + b) = nI (gw s b) ∧ A 6 (k * 2 + b) = nI (gs s b))) ∧
  A 7 k = nI (gt s) ∧ A 8 k = nI (gl s)
/-- so many have been seated, or have walked -/
def Sd (d : jRD) (a : Nat → Nat) (k : Nat) (s : jGS) (A : Nat → Nat → Int32) (n : Nat) : Prop :=
  (∀ q, q < n → A 3 (k * 4 + q + 4) = nI (if a q = 0 then gf s q + rM d k else gf s q) ∧ (a q = 0 → A 1 (k * 4 + q + 4) = nI (ga s q + wlk d q k) ∧ A 2 (k * 4 + q) = nI (ga s q))) ∧
  ∀ b, b < 2 → A 5 (k * 2 + b + 2) = nI (msk (rdb a b) n)
theorem GateIs_Fr {d : jRD} {A A' : Nat → Nat → Int32} {k k' : Nat} {s : jGS} (hd : rdOk d) (H : GateIs d A k s) (hk : k ≤ k') (hF : Fr k' A A') : GateIs d A' k s := by
  have h4 := hd.2.1
  have h2 := hd.2.2.1
  obtain ⟨g1, g2, g3, g4⟩ := H
  refine ⟨fun p hp => ?_, fun b hb => ?_, ?_, ?_⟩
  · rw [hF 1 (k * 4 + p) (by unfold inRow; omega), hF 3 (k * 4 + p) (by unfold inRow; omega)]
    exact g1 p hp
  · rw [hF 4 (k * 2 + b) (by unfold inRow; omega), hF 5 (k * 2 + b) (by unfold inRow; omega), hF 6 (k * 2 + b) (by unfold inRow; omega)]
    exact g2 b hb
  · rw [hF 7 k (by unfold inRow; omega)]; exact g3
  · rw [hF 8 k (by unfold inRow; omega)]; exact g4
section JRows2
variable {h : jHp} {j r ca : Nat} {d : jRD} {C : Nat → Int32} {A : Nat → Nat → Int32}
theorem l_seat (H : jEnv h j r d ca C) {k : Nat} {s : jGS} {a : Nat → Nat} (hk : k < rP d) (hs : gOk k s) (hG : GateIs d A k s) (ha : ∀ p, a p ≤ rB d) (hC : ∀ p, p < rE d → C (k * rE d + p) = nI (a p)) :
    ∀ (m p : Nat) (A' : Nat → Nat → Int32) (o4 o5 o6 : Option Value), p + m = rE d → Fr k A A' → Sd d a k s A' p →
    ∃ A2, R 4 42 28 [some (.ref j), some (.int (nI k)), some (.ref ca), some (.int (nI p)), o4, o5, o6] [] (jJ h j r A') = some (some (.int (cmI (fstW (whyN d a k s) m p))), jJ h j r A2) ∧ Fr k A A2 ∧ (fstW (whyN d a k s) m p = none → Sd d a k s A2 (rE d)) := by
  have hd := H.2.1
  have h6 := hd.1
  have h4 := hd.2.1
  have h2 := hd.2.2.1
  intro m
  induction m with
  | zero =>
    intro p A' o4 o5 o6 hp hF hS
    obtain rfl : p = rE d := hp
    have hr0 : RoadAt (jJ h j r A') r d := je_road H
    refine ⟨A', ?_, hF, fun _ => hS⟩
    rw [B42_28]
    simp (disch := omega) only [jj_0, rd_1 hr0, obd_some, obd_none, Option.toList_some, Option.toList_none, List.cons_append, List.nil_append, cond_true, cond_false, nJ_add, nI_mul, nJ_lt, nJ_le, nI_inj, nI_lt0, nI_eq0, nI_gt0, toNat_nI, Nat.lt_irrefl, if_false, B42_119, B42_121]
    rfl
  | succ m ih =>
    intro p A' o4 o5 o6 hpm hF hS
    have hp : p < rE d := by omega
    have hr0 : RoadAt (jJ h j r A') r d := je_road H
    have hG' := GateIs_Fr hd hG (Nat.le_refl k) hF
    have hkE : k * rE d ≤ 5 * 4 := Nat.mul_le_mul (by omega) h4
    have hap := ha p
    have hfo := hs.2.1 p
    rw [B42_28]
    simp (disch := omega) only [jj_0, rd_1 hr0, obd_some, obd_none, Option.toList_some, Option.toList_none, List.cons_append, List.nil_append, cond_true, cond_false, nJ_add, nI_mul, nJ_lt, nJ_le, nI_inj, nI_lt0, nI_eq0, nI_gt0, toNat_nI, hp, if_true, show p < 4 by omega, je_cl H, show k * rE d + p < 24 by omega, B42_64, je_ca H, hC p hp, B42_72]
    unfold fstW
    by_cases a0 : a p = 0
    · rw [if_pos a0, jj_o, obd_some, c_walk H hk hp (f := gf s p) (t := ga s p) (by omega) (hG'.1 p hp).2 (hG'.1 p hp).1]
      simp only [obd_some, obd_none, Option.toList_some, Option.toList_none, List.cons_append, List.nil_append, cond_true, cond_false, B42_85, B42_98]
      have ew : whyN d a k s p = if sP d p 3 < gf s p + rM d k then 3 else 0 := by unfold whyN; rw [if_pos a0]
      rw [ew]
      by_cases a1 : sP d p 3 < gf s p + rM d k
      · rw [if_pos a1, if_neg (show ¬ nI 3 = 0 by decide), if_neg (show ¬ (3 : Nat) = 0 by decide)]
        refine ⟨_, by rw [nI_mul, nJ_add]; rfl, ?_, fun q => absurd q (by simp)⟩
        exact Fr_uA (Fr_uA (Fr_uA hF (by unfold inRow; omega)) (by unfold inRow; omega)) (by unfold inRow; omega)
      · rw [if_neg a1, if_pos (show nI 0 = 0 from rfl), if_pos rfl, nJ_add]
        refine ih (p + 1) _ none none _ (by omega) (Fr_uA (Fr_uA (Fr_uA hF (by unfold inRow; omega)) (by unfold inRow; omega)) (by unfold inRow; omega)) ⟨fun q hq => ?_, fun b hb => ?_⟩
        · by_cases e : q = p
          · subst e
            rw [if_pos a0]
            refine ⟨?_, fun _ => ⟨?_, ?_⟩⟩
            · rw [uA_n (by omega), uA_n (by omega), uA_s]
            · rw [uA_s]
            · rw [uA_n (by omega), uA_s]
          · have hS1 := hS.1 q (by omega)
            rw [uA_n (by omega), uA_n (by omega), uA_n (by omega), uA_n (by omega), uA_n (by omega), uA_n (by omega)]
            refine ⟨hS1.1, fun e2 => ⟨?_, ?_⟩⟩
            · exact (hS1.2 e2).1
            · rw [uA_n (by omega), uA_n (by omega), uA_n (by omega)]; exact (hS1.2 e2).2
        · rw [uA_n (by omega), uA_n (by omega), uA_n (by omega), hS.2 b hb, msk, if_neg (show ¬ rdb a b p = true by unfold rdb; rw [a0]; simp), Nat.add_zero]
    · have hb : a p - 1 < rB d := by omega
      have hGb := hG'.2.1 (a p - 1) hb
      have hm := msk_lt (rdb a (a p - 1)) p
      have ew : whyN d a k s p = if gc s (a p - 1) = none then 1 else if sB d (a p - 1) 3 ≤ cntB (rdb a (a p - 1)) p then 2 else 0 := by unfold whyN; rw [if_neg a0]
      rw [if_neg a0, jj_o, obd_some, nI_sub (show 1 ≤ a p by omega), c_seat H hk hp hb (q := gc s (a p - 1)) (fun m q => by have := hs.2.2.1 _ _ q; omega) hm hGb.1 (hS.2 (a p - 1) (by omega)), pop_msk _ p (by omega), ew]
      by_cases a1 : gc s (a p - 1) = none
      · rw [if_pos a1, if_pos a1, if_neg (show ¬ (1 : Nat) = 0 by decide)]
        simp only [obd_some, obd_none, Option.toList_some, Option.toList_none, List.cons_append, List.nil_append, cond_true, cond_false, B42_98]
        rw [if_neg (show ¬ nI 1 = 0 by decide)]
        exact ⟨_, by rw [nI_mul, nJ_add]; rfl, hF, fun q => absurd q (by simp)⟩
      · rw [if_neg a1, if_neg a1]
        by_cases a2 : sB d (a p - 1) 3 ≤ cntB (rdb a (a p - 1)) p
        · rw [if_pos a2, if_pos a2, if_neg (show ¬ (2 : Nat) = 0 by decide)]
          simp only [obd_some, obd_none, Option.toList_some, Option.toList_none, List.cons_append, List.nil_append, cond_true, cond_false, B42_98]
          rw [if_neg (show ¬ nI 2 = 0 by decide)]
          exact ⟨_, by rw [nI_mul, nJ_add]; rfl, hF, fun q => absurd q (by simp)⟩
        · rw [if_neg a2, if_neg a2, if_pos rfl]
          simp only [obd_some, obd_none, Option.toList_some, Option.toList_none, List.cons_append, List.nil_append, cond_true, cond_false, B42_98]
          rw [if_pos (show nI 0 = 0 from rfl), nJ_add]
          refine ih (p + 1) _ none none _ (by omega) (Fr_uA (Fr_uA hF (by unfold inRow; omega)) (by unfold inRow; omega)) ⟨fun q hq => ?_, fun b hb2 => ?_⟩
          · by_cases e : q = p
            · subst e
              rw [if_neg a0]
              refine ⟨?_, fun e => absurd e a0⟩
              rw [uA_s]
              exact (hG'.1 q hp).2
            · have hS1 := hS.1 q (by omega)
              rw [uA_n (by omega), uA_n (by omega)]
              refine ⟨hS1.1, fun e2 => ⟨?_, ?_⟩⟩
              · rw [uA_n (by omega), uA_n (by omega)]; exact (hS1.2 e2).1
              · rw [uA_n (by omega), uA_n (by omega)]; exact (hS1.2 e2).2
          · rw [uA_n (by omega), msk]
            by_cases e : b = a p - 1
            · subst e
              rw [uA_s, if_pos (show rdb a (a p - 1) p = true by unfold rdb; rw [beq_iff_eq]; omega)]
            · rw [uA_n (by omega), hS.2 b hb2, if_neg (show ¬ rdb a b p = true by unfold rdb; rw [beq_iff_eq]; omega), Nat.add_zero]
theorem c_seatAll (H : jEnv h j r d ca C) {k : Nat} {s : jGS} {a : Nat → Nat} (hk : k < rP d) (hs : gOk k s) (hG : GateIs d A k s) (ha : ∀ p, a p ≤ rB d) (hC : ∀ p, p < rE d → C (k * rE d + p) = nI (a p)) :
    ∃ A2, mc 42 [.ref j, .int (nI k), .ref ca] (jJ h j r A) = some (some (.int (cmI (fstW (whyN d a k s) (rE d) 0))), jJ h j r A2) ∧ Fr k A A2 ∧ (fstW (whyN d a k s) (rE d) 0 = none → Sd d a k s A2 (rE d)) := by
  have h6 := H.2.1.1
  rw [M42, B42_2]
  rw [if_pos (show nI 0 < nI 2 by decide)]
  simp (disch := omega) only [jj_5, obd_some, obd_none, Option.toList_some, Option.toList_none, List.cons_append, List.nil_append, cond_true, cond_false, nJ_add, nI_mul, nJ_lt, nJ_le, nI_inj, nI_lt0, nI_eq0, nI_gt0, toNat_nI, idx2, jw_5]
  rw [B42_2, if_pos (show nI (0 + 1) < nI 2 by decide)]
  simp (disch := omega) only [jj_5, obd_some, obd_none, Option.toList_some, Option.toList_none, List.cons_append, List.nil_append, cond_true, cond_false, nJ_add, nI_mul, nJ_lt, nJ_le, nI_inj, nI_lt0, nI_eq0, nI_gt0, toNat_nI, idx2, jw_5]
  rw [B42_2, if_neg (show ¬ nI (0 + 1 + 1) < nI 2 by decide)]
  refine l_seat H hk hs hG ha hC (rE d) 0 _ none none none (Nat.zero_add _) (Fr_uA (Fr_uA (Fr_refl k A) (by unfold inRow; omega)) (by unfold inRow; omega)) ⟨fun q hq => absurd hq (Nat.not_lt_zero q), fun b hb => ?_⟩
  rcases (by omega : b = 0 ∨ b = 1) with rfl | rfl
  · rw [uA_n (by omega), uA_s]; rfl
  · rw [uA_s]; rfl
end JRows2
