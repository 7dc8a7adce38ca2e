section JRows4
variable {h : jHp} {j r ca : Nat} {d : jRD} {C : Nat → Int32} {A : Nat → Nat → Int32}
def b2n (x : Bool) : Nat := if x = true then 1 else 0
theorem b2n_0 (x : Bool) : (nI (b2n x) = 0) = (x = false) := by cases x <;> (unfold b2n; decide)
theorem tied_0 {d : jRD} {a : Nat → Nat} {s : jGS} {b : Nat} : tied d a 0 s b = false := by
  unfold tied; rw [decide_eq_false (Nat.lt_irrefl 0), Bool.false_and]
theorem l_lead47 (H : jEnv h j r d ca C) {k b : Nat} {s : jGS} {a : Nat → Nat} (hk : k < rP d) (hb : b < rB d) (hs : gOk k s) (hG : GateIs d A k s) (hm : A 5 (k * 2 + b + 2) = nI (rdrs d a b)) :
    mc 50 [.ref j, .int (nI k), .int (nI b)] (jJ h j r A) = R 3 50 47 [some (.ref j), some (.int (nI k)), some (.int (nI b)), some (.int (nI (k * 2 + b))), some (.int (nI (k * 2 + b + 2))), none, none, none, none] [.int (nI (b2n (tied d a k s b)))] (jJ h j r A) := by
  have hd := H.2.1
  have h6 := hd.1
  have h2 := hd.2.2.1
  have hGb := hG.2.1 b hb
  have hm16 := msk_16 (rdb a b) hd.2.1
  have hw16 := hs.2.2.2.1 b
  rw [M50]
  by_cases k0 : 0 < k
  · rw [if_pos (show 0 < nI k by rw [nI_gt0 (by omega)]; exact k0)]
    simp (disch := omega) only [jj_4, jj_5, obd_some, obd_none, Option.toList_some, Option.toList_none, List.cons_append, List.nil_append, cond_true, cond_false, nJ_add, nI_mul, nJ_lt, nJ_le, nI_inj, nI_lt0, nI_eq0, nI_gt0, toNat_nI, jr_4, hGb.1]
    cases hc : gc s b with
    | none =>
      rw [if_pos (show cmI none = -nI 9 from rfl)]
      unfold tied
      rw [hc, Option.isSome_none, Bool.false_and, Bool.and_false]
      rfl
    | some c0 =>
      have hc0 := hs.2.2.1 b c0 hc
      rw [hc] at hGb
      have hG5 := hGb.2 (by simp)
      rw [if_neg (show ¬ cmI (some c0) = -nI 9 by rw [show cmI (some c0) = nI c0 from rfl, neg9_ne (by omega)]; exact id), B50_30]
      simp (disch := omega) only [jj_5, obd_some, obd_none, Option.toList_some, Option.toList_none, List.cons_append, List.nil_append, cond_true, cond_false, nJ_add, nI_mul, nJ_lt, nJ_le, nI_inj, nI_lt0, nI_eq0, nI_gt0, toNat_nI, jr_5, hm, hG5.1]
      unfold tied
      rw [hc, Option.isSome_some, Bool.true_and, decide_eq_true k0, Bool.true_and]
      unfold rdrs at hm ⊢
      simp (disch := omega) only [nI_inj]
      by_cases e : msk (rdb a b) (rE d) = gw s b
      · rw [if_pos e, decide_eq_false (fun q => q e)]; rfl
      · rw [if_neg e, decide_eq_true e]; rfl
  · obtain rfl : k = 0 := by omega
    rw [if_neg (show ¬ 0 < nI 0 by decide), tied_0]
    simp (disch := omega) only [nJ_add, nI_mul, nJ_lt, nJ_le, nI_inj, nI_lt0, nI_eq0, nI_gt0, toNat_nI]
    rfl
theorem l_lead164 (H : jEnv h j r d ca C) {k b c0 : Nat} {s : jGS} {a : Nat → Nat} (hk : k < rP d) (hb : b < rB d) (hs : gOk k s) (hc : gc s b = some c0) :
    R 3 50 112 [some (.ref j), some (.int (nI k)), some (.int (nI b)), some (.int (nI (k * 2 + b))), some (.int (nI (k * 2 + b + 2))), some (.int (nI (b2n (tied d a k s b)))), some (.int (nI c0)), none, none] [.int (nI k), .ref (r + 1), .int (nI (gs s b))] (jJ h j r A)
      = R 3 50 164 [some (.ref j), some (.int (nI k)), some (.int (nI b)), some (.int (nI (k * 2 + b))), some (.int (nI (k * 2 + b + 2))), some (.int (nI (b2n (tied d a k s b)))), some (.int (nI (c0 + (if stnd d a k s b = true then sB d b 4 else 0)))), some (.int (nI (if stnd d a k s b = true then rM d k else gs s b + rM d k))), none] [] (jJ h j r A) := by
  have hd := H.2.1
  have h6 := hd.1
  have h2 := hd.2.2.1
  have hM := hd.2.2.2.1 k
  have hgs := hs.2.2.2.2.1 b
  have hl := sB_le hd b 5
  have hst := sB_le hd b 4
  have hr0 : RoadAt (jJ h j r A) r d := je_road H
  have e139 : stnd d a k s b = true → ∀ o7 : Option Value, R 3 50 139 [some (.ref j), some (.int (nI k)), some (.int (nI b)), some (.int (nI (k * 2 + b))), some (.int (nI (k * 2 + b + 2))), some (.int (nI (b2n (tied d a k s b)))), some (.int (nI c0)), o7, none] [] (jJ h j r A)
      = R 3 50 164 [some (.ref j), some (.int (nI k)), some (.int (nI b)), some (.int (nI (k * 2 + b))), some (.int (nI (k * 2 + b + 2))), some (.int (nI (b2n (tied d a k s b)))), some (.int (nI (c0 + (if stnd d a k s b = true then sB d b 4 else 0)))), some (.int (nI (if stnd d a k s b = true then rM d k else gs s b + rM d k))), none] [] (jJ h j r A) := by
    intro e o7
    rw [B50_139]
    simp (disch := omega) only [jj_0, obd_some, obd_none, Option.toList_some, Option.toList_none, List.cons_append, List.nil_append, cond_true, cond_false, rd_o hr0, c_ofMounts hr0 hd hb (show 4 < 6 by decide), B50_150, rd_5 hr0, rd_a1 hr0, nJ_add, if_pos e]
  rw [B50_112]
  simp (disch := omega) only [rd_a1 hr0, obd_some, obd_none, Option.toList_some, Option.toList_none, List.cons_append, List.nil_append, cond_true, cond_false, nJ_add, nI_mul, nJ_lt, nJ_le, nI_inj, nI_lt0, nI_eq0, nI_gt0, toNat_nI, b2n_0]
  by_cases t0 : tied d a k s b = false
  · rw [if_pos t0]
    by_cases k0 : 0 < k
    · rw [if_pos k0]
      simp (disch := omega) only [jj_0, obd_some, obd_none, Option.toList_some, Option.toList_none, List.cons_append, List.nil_append, cond_true, cond_false, rd_o hr0, c_ofMounts hr0 hd hb (show 5 < 6 by decide), B50_136, nJ_lt]
      by_cases q : sB d b 5 < gs s b + rM d k
      · have est : stnd d a k s b = true := by unfold stnd; rw [decide_eq_true k0, decide_eq_true q]; simp
        rw [if_pos q]
        exact e139 est _
      · have est : ¬ stnd d a k s b = true := by unfold stnd; rw [t0, decide_eq_false q]; simp
        rw [if_neg q, if_neg est, if_neg est]; rfl
    · have est : ¬ stnd d a k s b = true := by unfold stnd; rw [t0, decide_eq_false k0]; simp
      rw [if_neg k0, if_neg est, if_neg est]; rfl
  · have est : stnd d a k s b = true := by unfold stnd; rw [Bool.not_eq_false] at t0; rw [t0]; rfl
    rw [if_neg t0]
    exact e139 est _
theorem c_lead (H : jEnv h j r d ca C) {k b T L : Nat} {s : jGS} {a : Nat → Nat} (hk : k < rP d) (hb : b < rB d) (hs : gOk k s) (hG : GateIs d A k s) (hm : A 5 (k * 2 + b + 2) = nI (rdrs d a b)) (hT : A 7 (k + 1) = nI T) (hL : A 8 (k + 1) = nI L) (hcm : ¬ rdrs d a b = 0 → ¬ gc s b = none) :
    ∃ A2, mc 50 [.ref j, .int (nI k), .int (nI b)] (jJ h j r A) = some (none, jJ h j r A2) ∧ Ld1 d a k s b A2 ∧ A2 7 (k + 1) = nI (T + b2n (tied d a k s b)) ∧ A2 8 (k + 1) = nI (L + b2n (aln d a k s b)) ∧ ∀ i t, ¬ ldAt d a k b i t → A2 i t = A i t := by
  have hd := H.2.1
  have h6 := hd.1
  have h4 := hd.2.1
  have h2 := hd.2.2.1
  have hm16 : rdrs d a b < 16 := msk_16 (rdb a b) hd.2.1
  have hGb := hG.2.1 b hb
  rw [l_lead47 H hk hb hs hG hm, B50_47]
  simp (disch := omega) only [jj_7, obd_some, obd_none, Option.toList_some, Option.toList_none, List.cons_append, List.nil_append, cond_true, cond_false, nJ_add, nI_mul, nJ_lt, nJ_le, nI_inj, nI_lt0, nI_eq0, nI_gt0, toNat_nI, jr_7, hT, b2n_0]
  have e68 : ∀ X : jRs, R 3 50 68 [some (.ref j), some (.int (nI k)), some (.int (nI b)), some (.int (nI (k * 2 + b))), some (.int (nI (k * 2 + b + 2))), some (.int (nI (b2n (tied d a k s b)))), none, none, none] [.int (nI (b2n (tied d a k s b))), .int (nI T), .int (nI (k + 1)), .ref (j + 7)] (jJ h j r A) = X →
      (if tied d a k s b = false then R 3 50 68 [some (.ref j), some (.int (nI k)), some (.int (nI b)), some (.int (nI (k * 2 + b))), some (.int (nI (k * 2 + b + 2))), some (.int (nI (b2n (tied d a k s b)))), none, none, none] [.int (nI 0), .int (nI T), .int (nI (k + 1)), .ref (j + 7)] (jJ h j r A)
        else R 3 50 68 [some (.ref j), some (.int (nI k)), some (.int (nI b)), some (.int (nI (k * 2 + b))), some (.int (nI (k * 2 + b + 2))), some (.int (nI (b2n (tied d a k s b)))), none, none, none] [.int (nI 1), .int (nI T), .int (nI (k + 1)), .ref (j + 7)] (jJ h j r A)) = X := by
    intro X hX
    rw [← hX]
    cases tied d a k s b <;> rfl
  have e5 : uA A 7 (k + 1) (nI (T + b2n (tied d a k s b))) 5 (k * 2 + b + 2) = nI (rdrs d a b) := by rw [uA_n (by omega), hm]
  by_cases m0 : rdrs d a b = 0
  · refine ⟨uA (uA A 7 (k + 1) (nI (T + b2n (tied d a k s b)))) 4 (k * 2 + b + 2) (-nI 9), e68 _ ?_, ⟨?_, fun q => absurd m0 q, fun p hp hr => ?_⟩, ?_, ?_, fun i t hn => ?_⟩
    · rw [B50_68]
      simp (disch := omega) only [obd_some, obd_none, Option.toList_some, Option.toList_none, List.cons_append, List.nil_append, cond_true, cond_false, nJ_add, nI_mul, nJ_lt, nJ_le, nI_inj, nI_lt0, nI_eq0, nI_gt0, toNat_nI, jw_7, jj_5, jr_5, e5]
      rw [if_pos m0]
      simp (disch := omega) only [obd_some, obd_none, Option.toList_some, Option.toList_none, List.cons_append, List.nil_append, cond_true, cond_false, jj_4, jw_4]
    · rw [uA_s]
      show -nI 9 = cmI (if rdrs d a b = 0 then none else some (strt d a k s b + rid d b k))
      rw [if_pos m0]; rfl
    · have q := msk_0 _ m0 hp
      rw [q] at hr
      cases hr
    · rw [uA_n (by omega), uA_s]
    · have ea : aln d a k s b = false := by unfold aln; rw [decide_eq_false (fun q => q m0), Bool.false_and, Bool.and_false]
      rw [uA_n (by omega), uA_n (by omega), hL, ea]; rfl
    · have n1 : ¬ (i = 4 ∧ t = k * 2 + b + 2) := fun q => hn (Or.inl ⟨Or.inl q.1, q.2⟩)
      have n2 : ¬ (i = 7 ∧ t = k + 1) := fun q => hn (Or.inr (Or.inl ⟨Or.inl q.1, q.2⟩))
      rw [uA_n n1, uA_n n2]
  · obtain ⟨c0, hc⟩ := Option.ne_none_iff_exists'.mp (hcm m0)
    have hc0 := hs.2.2.1 b c0 hc
    rw [hc] at hGb
    have hG5 := hGb.2 (by simp)
    have hcb : cmb s b = c0 := by unfold cmb; rw [hc]; rfl
    have hst := sB_le hd b 4
    have hgs := hs.2.2.2.2.1 b
    have hM := hd.2.2.2.1 k
    have hri := rid_le hd b k
    have hst2 := strt_le hd hs a b
    have hr1 : RoadAt (jJ h j r (uA A 7 (k + 1) (nI (T + b2n (tied d a k s b))))) r d := je_road H
    have f4 : uA A 7 (k + 1) (nI (T + b2n (tied d a k s b))) 4 (k * 2 + b) = nI c0 := by rw [uA_n (by omega), hGb.1]; rfl
    have f6 : uA A 7 (k + 1) (nI (T + b2n (tied d a k s b))) 6 (k * 2 + b) = nI (gs s b) := by rw [uA_n (by omega), hG5.2]
    obtain ⟨Ar, hr2, hW⟩ := c_rideOn (h := h) (j := j) (r := r) (d := d) (A := uA A 7 (k + 1) (nI (T + b2n (tied d a k s b)))) (k := k) (m := rdrs d a b) (x := c0 + (if stnd d a k s b = true then sB d b 4 else 0)) (y := rid d b k) (f := rdb a b) (s := s) (by omega) h4 rfl (by split <;> omega) (fun p => by have := hs.1 p; omega) (fun p hp => by rw [uA_n (by omega)]; exact (hG.1 p hp).1)
    rw [show maxB (rdb a b) (ga s) (c0 + (if stnd d a k s b = true then sB d b 4 else 0)) (rE d) = strt d a k s b by unfold strt; rw [hcb]] at hr2 hW
    have hrr : RoadAt (jJ h j r Ar) r d := je_road H
    have w8 : Ar 8 (k + 1) = nI L := by rw [hW.2 8 (k + 1) (fun p _ _ => by omega), uA_n (by omega), hL]
    have w4 : Ar 4 (k * 2 + b) = nI c0 := by rw [hW.2 4 (k * 2 + b) (fun p _ _ => by omega), f4]
    have w7 : Ar 7 (k + 1) = nI (T + b2n (tied d a k s b)) := by rw [hW.2 7 (k + 1) (fun p _ _ => by omega), uA_s]
    have g8 : uA (uA Ar 4 (k * 2 + b + 2) (nI (strt d a k s b + rid d b k))) 6 (k * 2 + b + 2) (nI (if stnd d a k s b = true then rM d k else gs s b + rM d k)) 8 (k + 1) = nI L := by rw [uA_n (by omega), uA_n (by omega), w8]
    have g4 : uA (uA Ar 4 (k * 2 + b + 2) (nI (strt d a k s b + rid d b k))) 6 (k * 2 + b + 2) (nI (if stnd d a k s b = true then rM d k else gs s b + rM d k)) 4 (k * 2 + b) = nI c0 := by rw [uA_n (by omega), uA_n (by omega), w4]
    refine ⟨uA (uA (uA Ar 4 (k * 2 + b + 2) (nI (strt d a k s b + rid d b k))) 6 (k * 2 + b + 2) (nI (if stnd d a k s b = true then rM d k else gs s b + rM d k))) 8 (k + 1) (nI (L + b2n (aln d a k s b))), e68 _ ?_, ⟨?_, fun _ => ?_, fun p hp hr => ?_⟩, ?_, ?_, fun i t hn => ?_⟩
    · rw [B50_68]
      simp (disch := omega) only [obd_some, obd_none, Option.toList_some, Option.toList_none, List.cons_append, List.nil_append, cond_true, cond_false, nJ_add, nI_mul, nJ_lt, nJ_le, nI_inj, nI_lt0, nI_eq0, nI_gt0, toNat_nI, jw_7, jj_5, jr_5, e5]
      rw [if_neg m0]
      simp (disch := omega) only [obd_some, obd_none, Option.toList_some, Option.toList_none, List.cons_append, List.nil_append, cond_true, cond_false, jj_4, jj_6, jj_0, jr_4, jr_6, f4, f6, rd_5 hr1]
      rw [l_lead164 H hk hb hs hc, B50_164]
      simp (disch := omega) only [obd_some, obd_none, Option.toList_some, Option.toList_none, List.cons_append, List.nil_append, cond_true, cond_false, jj_5, jr_5, e5, jj_0, rd_o hr1, c_minutesRidden hr1 hd hb hk, B50_184, jj_o, hr2, B50_187, jj_4, rd_o hrr, c_minutesRidden hrr hd hb hk, B50_206, nJ_add, jw_4, jj_6, jw_6, jj_8, jr_8, g8, b2n_0]
      have e248 : ∀ x : Nat, R 3 50 248 [none, none, none, none, none, none, none, none, none] [.int (nI L + nI x), .int (nI (k + 1)), .ref (j + 8)] (jJ h j r (uA (uA Ar 4 (k * 2 + b + 2) (nI (strt d a k s b + rid d b k))) 6 (k * 2 + b + 2) (nI (if stnd d a k s b = true then rM d k else gs s b + rM d k)))) = some (none, jJ h j r (uA (uA (uA Ar 4 (k * 2 + b + 2) (nI (strt d a k s b + rid d b k))) 6 (k * 2 + b + 2) (nI (if stnd d a k s b = true then rM d k else gs s b + rM d k))) 8 (k + 1) (nI (L + x)))) := by
        intro x
        rw [B50_248]
        simp (disch := omega) only [obd_some, obd_none, Option.toList_some, Option.toList_none, List.cons_append, List.nil_append, cond_true, cond_false, nJ_add, jw_8]
      by_cases t0 : tied d a k s b = false
      · have ea : aln d a k s b = false := by unfold aln; rw [t0, Bool.false_and]
        rw [if_pos t0, B50_246, B50_247, ea]
        exact e248 0
      · rw [if_neg t0, B50_238]
        rw [Bool.not_eq_false] at t0
        simp (disch := omega) only [obd_some, obd_none, Option.toList_some, Option.toList_none, List.cons_append, List.nil_append, cond_true, cond_false, jr_4, g4, nJ_lt]
        by_cases q : c0 < strt d a k s b
        · have ea : aln d a k s b = true := by unfold aln; rw [t0, decide_eq_true m0, hcb, decide_eq_true q]; rfl
          rw [if_pos q, B50_247, ea]
          exact e248 1
        · have ea : aln d a k s b = false := by unfold aln; rw [hcb, decide_eq_false q, Bool.and_false, Bool.and_false]
          rw [if_neg q, B50_246, B50_247, ea]
          exact e248 0
    · rw [uA_n (by omega), uA_n (by omega), uA_s]
      show nI (strt d a k s b + rid d b k) = cmI (if rdrs d a b = 0 then none else some (strt d a k s b + rid d b k))
      rw [if_neg m0]; rfl
    · rw [uA_n (by omega), uA_s]
      show _ = nI (if rdrs d a b = 0 then gs s b else if stnd d a k s b = true then rM d k else gs s b + rM d k)
      rw [if_neg m0]
    · have g := hW.1 p (by omega) (by unfold fE; rw [decide_eq_true hp, hr]; rfl)
      exact ⟨by rw [uA_n (by omega), uA_n (by omega), uA_n (by omega)]; exact g.1, by rw [uA_n (by omega), uA_n (by omega), uA_n (by omega)]; exact g.2⟩
    · rw [uA_n (by omega), uA_n (by omega), uA_n (by omega)]; exact w7
    · rw [uA_s]
    · have n1 : ¬ (i = 4 ∧ t = k * 2 + b + 2) := fun q => hn (Or.inl ⟨Or.inl q.1, q.2⟩)
      have n2 : ¬ (i = 6 ∧ t = k * 2 + b + 2) := fun q => hn (Or.inl ⟨Or.inr q.1, q.2⟩)
      have n3 : ¬ (i = 7 ∧ t = k + 1) := fun q => hn (Or.inr (Or.inl ⟨Or.inl q.1, q.2⟩))
      have n4 : ¬ (i = 8 ∧ t = k + 1) := fun q => hn (Or.inr (Or.inl ⟨Or.inr q.1, q.2⟩))
      rw [uA_n n4, uA_n n2, uA_n n1, hW.2 i t (fun p hp hf => ?_), uA_n n3]
      unfold fE at hf
      rw [Bool.and_eq_true, decide_eq_true_eq] at hf
      exact fun q => hn (Or.inr (Or.inr ⟨p, hf.1, hf.2, q⟩))
end JRows4
