theorem fstW_none {f : Nat → Nat} : ∀ m p, fstW f m p = none → ∀ q, p ≤ q → q < p + m → f q = 0
  | 0, p, _, q, h1, h2 => absurd h2 (by omega)
  | m + 1, p, h, q, h1, h2 => by
    rw [fstW] at h
    by_cases e : f p = 0
    · rw [if_pos e] at h
      by_cases e2 : q = p
      · rw [e2]; exact e
      · exact fstW_none m (p + 1) h q (by omega) (by omega)
    · rw [if_neg e] at h; cases h
theorem fstW_le {f : Nat → Nat} (hf : ∀ q, f q ≤ 3) : ∀ m p w, fstW f m p = some w → w ≤ 10 * (p + m) + 3
  | 0, p, w, h => by rw [fstW] at h; cases h
  | m + 1, p, w, h => by
    rw [fstW] at h
    by_cases e : f p = 0
    · rw [if_pos e] at h
      have := fstW_le hf m (p + 1) w h
      omega
    · rw [if_neg e] at h
      have := hf p
      cases h; omega
theorem whyN_le (d : jRD) (a : Nat → Nat) (k : Nat) (s : jGS) (p : Nat) : whyN d a k s p ≤ 3 := by
  unfold whyN
  repeat' split
  all_goals omega
theorem msk_all0 {f : Nat → Bool} : ∀ n, (∀ p, p < n → f p = false) → msk f n = 0
  | 0, _ => rfl
  | n + 1, h => by
    rw [msk, msk_all0 n (fun p hp => h p (Nat.lt_succ_of_lt hp)), h n (Nat.lt_succ_self n)]; rfl
theorem why_com {d : jRD} {a : Nat → Nat} {k : Nat} {s : jGS} (h : fstW (whyN d a k s) (rE d) 0 = none) {b : Nat} (hm : ¬ rdrs d a b = 0) : ¬ gc s b = none := by
  intro hc
  refine hm (msk_all0 _ fun p hp => ?_)
  have hw := fstW_none _ _ h p (Nat.zero_le _) (by omega)
  by_cases e : a p = b + 1
  · unfold whyN at hw
    rw [if_neg (by omega), e, Nat.add_sub_cancel, if_pos hc] at hw
    cases hw
  · unfold rdb; rw [beq_eq_false_iff_ne]; exact e
/-- so many beasts have been led on -/
def Ldn (d : jRD) (a : Nat → Nat) (k : Nat) (s : jGS) (A : Nat → Nat → Int32) (n : Nat) : Prop :=
  Sd d a k s A (rE d) ∧ (∀ b, b < n → Ld1 d a k s b A) ∧ A 7 (k + 1) = nI (gt s + cntB (tied d a k s) n) ∧ A 8 (k + 1) = nI (gl s + cntB (aln d a k s) n)
theorem rdb_eq {a : Nat → Nat} {b c p : Nat} (h : rdb a b p = true) (h2 : rdb a c p = true) : b = c := by
  unfold rdb at h h2
  rw [beq_iff_eq] at h h2
  omega
section JRows5
variable {h : jHp} {j r ca : Nat} {d : jRD} {C : Nat → Int32} {A : Nat → Nat → Int32}
theorem ld_Fr {a : Nat → Nat} {k b : Nat} {A A2 : Nat → Nat → Int32} (hd : rdOk d) (hb : b < rB d) (h : ∀ i t, ¬ ldAt d a k b i t → A2 i t = A i t) : Fr k A A2 := by
  have h4 := hd.2.1
  have h2 := hd.2.2.1
  intro i t hn
  refine h i t fun q => hn ?_
  unfold inRow
  rcases q with q | q | ⟨p, hp, -, q⟩ <;> omega
theorem ld_step {a : Nat → Nat} {k n : Nat} {s : jGS} {A A2 : Nat → Nat → Int32} (hd : rdOk d) (hn : n < rB d) (hL : Ldn d a k s A n) (h1 : Ld1 d a k s n A2) (h7 : A2 7 (k + 1) = nI (gt s + cntB (tied d a k s) n + b2n (tied d a k s n))) (h8 : A2 8 (k + 1) = nI (gl s + cntB (aln d a k s) n + b2n (aln d a k s n)))
    (h : ∀ i t, ¬ ldAt d a k n i t → A2 i t = A i t) : Ldn d a k s A2 (n + 1) := by
  have hE4 := hd.2.1
  have hB2 := hd.2.2.1
  obtain ⟨⟨s1, s2⟩, l1, -, -⟩ := hL
  refine ⟨⟨fun q hq => ⟨?_, fun e => ⟨?_, ?_⟩⟩, fun b hb => ?_⟩, fun b hb => ?_, ?_, ?_⟩
  · rw [h 3 _ (by unfold ldAt; rintro (w | w | ⟨p, hp, -, w⟩) <;> omega)]
    exact (s1 q hq).1
  · rw [h 1 _ (by
      unfold ldAt
      rintro (w | w | ⟨p, hp, hr, w⟩)
      · omega
      · omega
      · have : q = p := by omega
        subst this
        unfold rdb at hr
        rw [beq_iff_eq] at hr
        omega)]
    exact ((s1 q hq).2 e).1
  · rw [h 2 _ (by
      unfold ldAt
      rintro (w | w | ⟨p, hp, hr, w⟩)
      · omega
      · omega
      · have : q = p := by omega
        subst this
        unfold rdb at hr
        rw [beq_iff_eq] at hr
        omega)]
    exact ((s1 q hq).2 e).2
  · rw [h 5 _ (by unfold ldAt; rintro (w | w | ⟨p, hp, -, w⟩) <;> omega)]
    exact s2 b hb
  · by_cases e : b = n
    · subst e; exact h1
    · have l := l1 b (by omega)
      refine ⟨?_, fun q => ?_, fun p hp hr => ⟨?_, ?_⟩⟩
      · rw [h 4 _ (by unfold ldAt; rintro (w | w | ⟨p, hp, -, w⟩) <;> omega)]; exact l.1
      · rw [h 6 _ (by unfold ldAt; rintro (w | w | ⟨p, hp, -, w⟩) <;> omega)]; exact l.2.1 q
      · rw [h 2 _ (by
          unfold ldAt
          rintro (w | w | ⟨p', hp', hr', w⟩)
          · omega
          · omega
          · have : p = p' := by omega
            subst this
            exact e (rdb_eq hr hr'))]
        exact (l.2.2 p hp hr).1
      · rw [h 1 _ (by
          unfold ldAt
          rintro (w | w | ⟨p', hp', hr', w⟩)
          · omega
          · omega
          · have : p = p' := by omega
            subst this
            exact e (rdb_eq hr hr'))]
        exact (l.2.2 p hp hr).2
  · rw [h7, cntB, Nat.add_assoc]; rfl
  · rw [h8, cntB, Nat.add_assoc]; rfl
theorem l_goLead (H : jEnv h j r d ca C) {k : Nat} {s : jGS} {a : Nat → Nat} (hk : k < rP d) (hs : gOk k s) (hG : GateIs d A k s) (hw : fstW (whyN d a k s) (rE d) 0 = none) :
    ∀ (m n : Nat) (A' : Nat → Nat → Int32) (o2 o3 : Option Value), n + m = rB d → Fr k A A' → Ldn d a k s A' n →
    ∃ A2, R 5 41 60 [some (.ref j), some (.int (nI k)), o2, o3, some (.int (nI n))] [] (jJ h j r A') = some (some (.int (-nI 9)), jJ h j r A2) ∧ Fr k A A2 ∧ Ldn d a k s A2 (rB d) := by
  have hd := H.2.1
  have h6 := hd.1
  have h2 := hd.2.2.1
  intro m
  induction m with
  | zero =>
    intro n A' o2 o3 hn hF hL
    obtain rfl : n = rB d := hn
    have hr0 : RoadAt (jJ h j r A') r d := je_road H
    refine ⟨A', ?_, hF, hL⟩
    rw [B41_60]
    simp (disch := omega) only [jj_0, rd_2 hr0, obd_some, obd_none, Option.toList_some, Option.toList_none, List.cons_append, List.nil_append, cond_true, cond_false, nJ_add, nI_mul, nJ_lt, nJ_le, nI_inj, nI_lt0, nI_eq0, nI_gt0, toNat_nI, Nat.lt_irrefl, if_false, B41_91, B41_93]
  | succ m ih =>
    intro n A' o2 o3 hnm hF hL
    have hn : n < rB d := by omega
    have hr0 : RoadAt (jJ h j r A') r d := je_road H
    obtain ⟨A2, e1, e2, e3, e4, e5⟩ := c_lead (A := A') H hk hn hs (GateIs_Fr hd hG (Nat.le_refl k) hF) (hL.1.2 n (by omega)) hL.2.2.1 hL.2.2.2 (fun q => why_com hw q)
    rw [B41_60]
    simp (disch := omega) only [jj_0, rd_2 hr0, obd_some, obd_none, Option.toList_some, Option.toList_none, List.cons_append, List.nil_append, cond_true, cond_false, nJ_add, nI_mul, nJ_lt, nJ_le, nI_inj, nI_lt0, nI_eq0, nI_gt0, toNat_nI, hn, if_true, show n < 2 by omega, jj_o, e1, B41_85]
    exact ih (n + 1) A2 none none (by omega) (Fr_trans hF (ld_Fr hd hn e5)) (ld_step hd hn hL e2 e3 e4 e5)
theorem c_goOn (H : jEnv h j r d ca C) {k : Nat} {s : jGS} {a : Nat → Nat} (hk : k < rP d) (hs : gOk k s) (hG : GateIs d A k s) (ha : ∀ p, a p ≤ rB d) (hC : ∀ p, p < rE d → C (k * rE d + p) = nI (a p)) :
    ∃ A2, mc 41 [.ref j, .int (nI k), .ref ca] (jJ h j r A) = some (some (.int (cmI (fstW (whyN d a k s) (rE d) 0))), jJ h j r A2) ∧ Fr k A A2 ∧
      (fstW (whyN d a k s) (rE d) 0 = none → GateIs d A2 (k + 1) (nxt d a k s) ∧ ∀ p, p < rE d → A2 2 (k * 4 + p) = nI (wnt d a k s p)) := by
  have hd := H.2.1
  have h6 := hd.1
  have h4 := hd.2.1
  have h2 := hd.2.2.1
  have hr0 : RoadAt (jJ h j r A) r d := je_road H
  obtain ⟨A1, e1, f1, g1⟩ := c_seatAll (A := A) H hk hs hG ha hC
  have hG1 := GateIs_Fr hd hG (Nat.le_refl k) f1
  have hgt := hs.2.2.2.2.2.1
  have hgl := hs.2.2.2.2.2.2
  have hcn : (cmI (fstW (whyN d a k s) (rE d) 0) = -nI 9) = (fstW (whyN d a k s) (rE d) 0 = none) := cmI_none (fun m q => by have := fstW_le (whyN_le d a k s) _ _ m q; omega)
  rw [M41]
  simp (disch := omega) only [jj_0, rd_o hr0, obd_some, obd_none, Option.toList_some, Option.toList_none, List.cons_append, List.nil_append, cond_true, cond_false, c_hasPiece hr0 hd, inN_iff, b2i_0, B41_8, hk, not_true_eq_false, if_false, jj_o, e1, B41_20, hcn]
  by_cases hw : fstW (whyN d a k s) (rE d) 0 = none
  · rw [if_pos hw]
    simp (disch := omega) only [jj_7, obd_some, obd_none, Option.toList_some, Option.toList_none, List.cons_append, List.nil_append, cond_true, cond_false, nJ_add, nI_mul, nJ_lt, nJ_le, nI_inj, nI_lt0, nI_eq0, nI_gt0, toNat_nI, jr_7, hG1.2.2.1, jw_7, jj_8, B41_51, jr_8, uA_n, hG1.2.2.2, jw_8]
    obtain ⟨A2, e2, f2, g2⟩ := l_goLead (h := h) (j := j) (r := r) (A := A1) (C := C) (ca := ca) H hk hs hG1 hw (rB d) 0 (uA (uA A1 7 (k + 1) (nI (gt s))) 8 (k + 1) (nI (gl s))) (some (.ref ca)) (some (.int (cmI (fstW (whyN d a k s) (rE d) 0)))) (Nat.zero_add _)
      (Fr_uA (Fr_uA (Fr_refl k A1) (by unfold inRow; omega)) (by unfold inRow; omega))
      ⟨⟨fun q hq => ⟨by rw [uA_n (by omega), uA_n (by omega)]; exact ((g1 hw).1 q hq).1, fun e => ⟨by rw [uA_n (by omega), uA_n (by omega)]; exact (((g1 hw).1 q hq).2 e).1, by rw [uA_n (by omega), uA_n (by omega)]; exact (((g1 hw).1 q hq).2 e).2⟩⟩, fun b hb => by rw [uA_n (by omega), uA_n (by omega)]; exact (g1 hw).2 b hb⟩,
        fun b hb => absurd hb (Nat.not_lt_zero b), by rw [uA_n (by omega), uA_s]; rfl, by rw [uA_s]; rfl⟩
    refine ⟨A2, ?_, Fr_trans f1 f2, fun _ => ?_⟩
    · rw [hw] at e2 ⊢
      exact e2
    · obtain ⟨⟨s1, s2⟩, l1, t7, t8⟩ := g2
      have hrd : ∀ p, ¬ a p = 0 → p < rE d → a p - 1 < rB d ∧ rdb a (a p - 1) p = true := by
        intro p e hp
        have := ha p
        refine ⟨by omega, ?_⟩
        unfold rdb; rw [beq_iff_eq]; omega
      refine ⟨⟨fun p hp => ⟨?_, ?_⟩, fun b hb => ⟨?_, fun q => ⟨?_, ?_⟩⟩, t7, t8⟩, fun p hp => ?_⟩
      · rw [idx4]
        show _ = nI (if a p = 0 then ga s p + wlk d p k else strt d a k s (a p - 1) + rid d (a p - 1) k)
        by_cases e : a p = 0
        · rw [if_pos e]; exact ((s1 p hp).2 e).1
        · rw [if_neg e]
          have w := hrd p e hp
          exact ((l1 (a p - 1) w.1).2.2 p hp w.2).2
      · rw [idx4]; exact (s1 p hp).1
      · rw [idx2]; exact (l1 b hb).1
      · rw [idx2]; exact s2 b (by omega)
      · rw [idx2]
        refine (l1 b hb).2.1 fun e => q ?_
        show (if rdrs d a b = 0 then none else some (strt d a k s b + rid d b k)) = none
        rw [if_pos e]
      · unfold wnt
        by_cases e : a p = 0
        · rw [if_pos e]; exact ((s1 p hp).2 e).2
        · rw [if_neg e]
          have w := hrd p e hp
          exact ((l1 (a p - 1) w.1).2.2 p hp w.2).1
  · rw [if_neg hw]
    exact ⟨A1, rfl, f1, fun q => absurd q hw⟩
end JRows5
