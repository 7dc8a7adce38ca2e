/-! The law's rows, one after another. -/
theorem fs_step {d : jRD} (hd : rdOk d) {n : Nat} {fe so : Int32} (h : FsI d n fe so) (hn : rgt d n = true) (hty : rec4 d n 3 ≤ 12) (hbd : ∀ m, rec4 d m 3 ≤ 12) :
    (nI (rec4 d n 0) < so → FsI d (n + 1) (nI (rec4 d n 3)) (nI (rec4 d n 0))) ∧
    (¬ nI (rec4 d n 0) < so → nI (rec4 d n 0) = so → nI (rec4 d n 3) < fe → FsI d (n + 1) (nI (rec4 d n 3)) so) ∧
    (¬ nI (rec4 d n 0) < so → nI (rec4 d n 0) = so → ¬ nI (rec4 d n 3) < fe → FsI d (n + 1) fe so) ∧
    (¬ nI (rec4 d n 0) < so → ¬ nI (rec4 d n 0) = so → FsI d (n + 1) fe so) := by
  have h0 := (fsi_d hd n).1
  rcases h with ⟨h1, h2, h3⟩ | ⟨s, t, h1, h2, ⟨m, m1, m2, m3⟩, h4, ⟨m', k1, k2, k3, k4⟩, h5⟩
  · have lt : nI (rec4 d n 0) < so := by rw [h3, nJ_lt (by omega) (by omega)]; omega
    exact ⟨fun _ => FsI_new hn rfl (fun m a c => absurd c (h1 m a)), fun z => absurd lt z, fun z => absurd lt z, fun z => absurd lt z⟩
  · have hs := (fsi_d hd m).1
    have ht := hbd m'
    have e1 : (nI (rec4 d n 0) < so) = (rec4 d n 0 < s) := by rw [h2, nJ_lt (by omega) (by omega)]
    have e2 : (nI (rec4 d n 0) = so) = (rec4 d n 0 = s) := by rw [h2, nI_inj (by omega) (by omega)]
    have e3 : (nI (rec4 d n 3) < fe) = (rec4 d n 3 < t) := by rw [h1, nJ_lt (by omega) (by omega)]
    rw [e1, e2, e3]
    refine ⟨fun z => FsI_new hn rfl (fun m a c => by have := h4 m a c; omega), fun z1 z2 z3 => ?_, fun z1 z2 z3 => ?_, fun z1 z2 => ?_⟩
    · refine Or.inr ⟨s, rec4 d n 3, rfl, h2, ⟨n, by omega, hn, z2⟩, fun m a c => ?_, ⟨n, by omega, hn, z2, rfl⟩, fun m a c f => ?_⟩
      · by_cases y : m = n
        · subst y; omega
        · exact h4 m (by omega) c
      · by_cases y : m = n
        · subst y; exact Nat.le_refl _
        · have := h5 m (by omega) c f; omega
    · refine Or.inr ⟨s, t, h1, h2, ⟨m, by omega, m2, m3⟩, fun m a c => ?_, ⟨m', by omega, k2, k3, k4⟩, fun m a c f => ?_⟩
      · by_cases y : m = n
        · subst y; omega
        · exact h4 m (by omega) c
      · by_cases y : m = n
        · subst y; omega
        · exact h5 m (by omega) c f
    · refine Or.inr ⟨s, t, h1, h2, ⟨m, by omega, m2, m3⟩, fun m a c => ?_, ⟨m', by omega, k2, k3, k4⟩, fun m a c f => ?_⟩
      · by_cases y : m = n
        · subst y; omega
        · exact h4 m (by omega) c
      · by_cases y : m = n
        · subst y; exact absurd f z2
        · exact h5 m (by omega) c f
theorem WL.oth {x : Nat} {S : jST} {b L : Nat} {xs : Nat → Int32} {r p : Nat} {fr : Nat → Int32} {F : Nat → Nat → Int32} {h : jHp} (I : WL x S b L xs r p fr F h) {q n : Nat} {f0 : Nat → Int32} (K : La h q n f0) (hq : p + 6 ≤ q) (g : Nat → Int32) : WL x S b L xs r p fr F (hL h q n g) := by
  have hr := I.2.2.2
  exact ⟨I.1.mvL K g, I.2.1.mvL (by omega) g, fun i hi => (I.2.2.1 i hi).mvL (by omega) g, hr⟩
theorem WL.hi {x : Nat} {S : jST} {b L : Nat} {xs : Nat → Int32} {r p : Nat} {fr : Nat → Int32} {F : Nat → Nat → Int32} {h : jHp} (I : WL x S b L xs r p fr F h) : p + 6 ≤ h.2.1 := by
  have := (I.2.2.1 5 (by omega)).lt I.1.wf
  omega
section LRow2
variable {x : Nat} {S : jST} {b L : Nat} {xs : Nat → Int32} {r p : Nat} {fr : Nat → Int32} {d : jRD} {e cl rw few n : Nat} {can fe so : Int32}
/-- the row's cells, from the last to the first -/
theorem l_act {a : Nat} {h : jHp} {F : Nat → Nat → Int32} (I : WL x S b L xs r p fr F h) {f0 : Nat → Int32} (K : La h a 24 f0) (ha : p + 6 ≤ a) (hr : RdA d fr) (hd : rdOk d) (hcl : cl = rP d * rE d) (hc24 : cl ≤ 24) (hn : n < 100000) : ∀ j f left, j ≤ cl → left = n / (rB d + 1) ^ (cl - j) → (∀ i, j ≤ i → i < cl → f i = nI (dg d n i)) →
    ∃ f' left', R 26 0 297 [some (.ref b), some (.ref x), some (.int (nI e)), some (.ref r), none, none, none, some (.int (nI cl)), some (.int (nI rw)), some (.int (nI few)), some (.int can), some (.ref p), some (.ref (p + 1)), some (.ref (p + 2)), some (.ref (p + 3)), some (.ref (p + 4)), some (.ref (p + 5)), some (.int fe), some (.int so), some (.int (nI n)), some (.ref a), some (.int (nI left)), some (.int (pvI j)), none, none, none, none, none, none, none, none, none, none, none, none, none, none, none, none, none, none, none] [] (hL h a 24 f) = R 26 0 297 [some (.ref b), some (.ref x), some (.int (nI e)), some (.ref r), none, none, none, some (.int (nI cl)), some (.int (nI rw)), some (.int (nI few)), some (.int can), some (.ref p), some (.ref (p + 1)), some (.ref (p + 2)), some (.ref (p + 3)), some (.ref (p + 4)), some (.ref (p + 5)), some (.int fe), some (.int so), some (.int (nI n)), some (.ref a), some (.int (nI left')), some (.int (pvI 0)), none, none, none, none, none, none, none, none, none, none, none, none, none, none, none, none, none, none, none] [] (hL h a 24 f') ∧ CtA d (dg d n) f'
  | 0, f, left, _, _, hf => ⟨f, left, rfl, fun i hi => hf i (Nat.zero_le i) (by omega)⟩
  | j + 1, f, left, hj, hl, hf => by
    have h2 := hd.2.2.1
    have hlt : left < 100000 := by
      have := Nat.div_le_self n ((rB d + 1) ^ (cl - (j + 1)))
      omega
    have W1 := I.oth K ha f
    have K1 := K.own f
    have r2 : fr 2 = nI (rB d) := hr.2.2.1
    have hmod : left % (rB d + 1) = dg d n j := by
      unfold dg
      rw [hl, ← hcl, show cl - 1 - j = cl - (j + 1) by omega]
    obtain ⟨f', left', q1, q2⟩ := l_act I K ha hr hd hcl hc24 hn j (upd f j (nI (left % (rB d + 1)))) (left / (rB d + 1)) (by omega) (by
      rw [hl, Nat.div_div_eq_div_mul, ← Nat.pow_succ, show (cl - (j + 1)).succ = cl - j by omega]) (fun i h1 h2 => by
      by_cases y : i = j
      · subst y; rw [upd_s, hmod]
      · rw [upd_n y]; exact hf i (by omega) h2)
    refine ⟨f', left', ?_, q2⟩
    have e0 : ∀ h', R 26 0 297 [some (.ref b), some (.ref x), some (.int (nI e)), some (.ref r), none, none, none, some (.int (nI cl)), some (.int (nI rw)), some (.int (nI few)), some (.int can), some (.ref p), some (.ref (p + 1)), some (.ref (p + 2)), some (.ref (p + 3)), some (.ref (p + 4)), some (.ref (p + 5)), some (.int fe), some (.int so), some (.int (nI n)), some (.ref a), some (.int (nI left)), some (.int (pvI (j + 1))), none, none, none, none, none, none, none, none, none, none, none, none, none, none, none, none, none, none, none] [] h' = R 26 0 297 [some (.ref b), some (.ref x), some (.int (nI e)), some (.ref r), none, none, none, some (.int (nI cl)), some (.int (nI rw)), some (.int (nI few)), some (.int can), some (.ref p), some (.ref (p + 1)), some (.ref (p + 2)), some (.ref (p + 3)), some (.ref (p + 4)), some (.ref (p + 5)), some (.int fe), some (.int so), some (.int (nI n)), some (.ref a), some (.int (nI left)), some (.int (nI j)), none, none, none, none, none, none, none, none, none, none, none, none, none, none, none, none, none, none, none] [] h' := fun _ => rfl
    have W2 := I.oth K ha (upd f j (nI (left % (rB d + 1))))
    have b1 : ¬ nI (rB d + 1) = 0 := by rw [nI_eq0 (by omega)]; omega
    rw [e0, B0_297, if_neg (nI_nneg (by omega)), W1.rr (by omega), obd_some, r2, B0_312, nJ_add, if_neg b1, nI_mod (by omega) (by omega), la_w _ K1 (by omega) (by omega), obd_some, hL_hL, W2.rr (by omega), obd_some, r2, nJ_add, B0_322, if_neg b1, nI_div (by omega) (by omega), pvI_s]
    exact q1
/-- what is kept of the rows below n -/
def RwI (d : jRD) (few n : Nat) (F : Nat → Nat → Int32) (can fe so : Int32) : Prop := can = nI (acc d n).2 ∧ FsI d n fe so ∧ ∀ j, j < 6 → BkI d few n F j
theorem l_row {h : jHp} {F : Nat → Nat → Int32} (I : WL x S b L xs r p fr F h) (hr : RdA d fr) (hd : rdOk d) (hE : 0 < rE d) (hP : 0 < rP d) (hcl : cl = rP d * rE d) (hrw : rw = nRows d) (hn : n < rw) (hrl : rw ≤ 729) (hfew : few < 100) (R0 : RwI d few n F can fe so) :
    ∃ F' h' can' fe' so', R 26 0 274 [some (.ref b), some (.ref x), some (.int (nI e)), some (.ref r), none, none, none, some (.int (nI cl)), some (.int (nI rw)), some (.int (nI few)), some (.int can), some (.ref p), some (.ref (p + 1)), some (.ref (p + 2)), some (.ref (p + 3)), some (.ref (p + 4)), some (.ref (p + 5)), some (.int fe), some (.int so), some (.int (nI n)), none, none, none, none, none, none, none, none, none, none, none, none, none, none, none, none, none, none, none, none, none, none] [] h = R 26 0 274 [some (.ref b), some (.ref x), some (.int (nI e)), some (.ref r), none, none, none, some (.int (nI cl)), some (.int (nI rw)), some (.int (nI few)), some (.int can'), some (.ref p), some (.ref (p + 1)), some (.ref (p + 2)), some (.ref (p + 3)), some (.ref (p + 4)), some (.ref (p + 5)), some (.int fe'), some (.int so'), some (.int (nI (n + 1))), none, none, none, none, none, none, none, none, none, none, none, none, none, none, none, none, none, none, none, none, none, none] [] h' ∧ WL x S b L xs r p fr F' h' ∧ RwI d few (n + 1) F' can' fe' so' ∧ h.2.1 ≤ h'.2.1 ∧ h'.2.1 ≤ h.2.1 + 4 ∧ h.2.2 ≤ h'.2.2 ∧ h'.2.2 ≤ h.2.2 + 88 := by
  have h6 := hd.1
  have h4 := hd.2.1
  have hc0 : 0 < cl := by rw [hcl]; exact Nat.mul_pos hP hE
  have hc24 : cl ≤ 24 := by rw [hcl]; exact (cell_lt hd hP hE).2.2
  have w := I.1.wf
  have hi := I.hi
  obtain ⟨r1, r2, r3⟩ := R0
  have A0 : La (nwL h 24) h.2.1 24 (fun _ => 0) := nw_own I.1.2.2
  have I0 := I.kp (KpL.nw 24 w)
  have z0 : (nwL h 24).2 = (h.2.1 + 1, h.2.2 + 24) := rfl
  obtain ⟨f', left', e1, cf⟩ := l_act (e := e) (rw := rw) (few := few) (can := can) (fe := fe) (so := so) I0 A0 hi hr hd hcl hc24 (show n < 100000 by omega) cl (fun _ => 0) n (Nat.le_refl _) (by rw [Nat.sub_self, Nat.pow_zero, Nat.div_one]) (fun i a c => absurd c (by omega))
  rw [hL_self A0] at e1
  rw [B0_274, if_pos (show nI n < nI rw by rw [nJ_lt (by omega) (by omega)]; exact hn), newI_nw (by omega), obd_some, B0_291, pvI_e hc0, e1, B0_297, if_pos (show pvI 0 < 0 by decide)]
  have I1 := I0.oth A0 hi f'
  have A1 := A0.own f'
  have z1 : (hL (nwL h 24) h.2.1 24 f').2 = (h.2.1 + 1, h.2.2 + 24) := z0
  generalize hL (nwL h 24) h.2.1 24 f' = h1 at I1 A1 z1 ⊢
  obtain ⟨q, h2, g, e2, Q, K, hq, s1, s2, hg⟩ := m_go I1.1.wf I1.1.2.2 I1.2.1 hr A1 cf hd hE (dg_le d n)
  rw [e2]
  simp only [obd_some, obd_none, Option.toList_some, Option.toList_none, List.cons_append, List.nil_append, cond_true, cond_false]
  have I2 := I1.kp K
  have y1 : h2.2.1 ≤ h.2.1 + 4 := by rw [z1] at s1; exact s1
  have y2 : h2.2.2 ≤ h.2.2 + 88 := by rw [z1] at s2; exact s2
  have y3 : h.2.1 ≤ h2.2.1 := by have := K.2.2.2.2.1; rw [z1] at this; have : h.2.1 + 1 ≤ h2.2.1 := this; omega
  have y4 : h.2.2 ≤ h2.2.2 := by have := K.2.2.2.2.2; rw [z1] at this; have : h.2.2 + 24 ≤ h2.2.2 := this; omega
  have hq2 : p + 6 ≤ q := by rw [z1] at hq; have : h.2.1 + 1 ≤ q := hq; omega
  rw [B0_339r, la_r Q (by omega) (by omega), obd_some]
  rcases hg with ⟨w1, w2, w3⟩ | ⟨w1, w2⟩
  · -- it can be
    have hrg : rgt d n = true := by
      unfold rgt
      rw [w1]; rfl
    have hty : ∀ m, rec4 d m 3 ≤ 12 := by
      intro m
      have h2 := (sq_ok hd (dg d m) 0 (show 0 ≤ 60 by omega) (rP d)).2.2.2.2.2.1
      show gt (sq d (dg d m) 0 0 (rP d)) ≤ 12
      omega
    have t3 : g 57 = nI (rec4 d n 3) := w3.2.2
    obtain ⟨F3, h3, e3, I3, Q3, z3, b3⟩ := l_ways (e := e) (cl := cl) (rw := rw) (can := can + nI 1) (fe := fe) (so := so) hr hd hE (show n < 100000 by omega) hrg hfew w3 hq2 6 0 F h2 (some (.ref h.2.1)) (some (.int (nI left'))) (by omega) I2 Q (fun j hj => absurd hj (Nat.not_lt_zero j)) (fun j _ hj => r3 j hj)
    rw [w2, if_pos (show -nI 9 < 0 by decide), B0_355r, e3]
    have hcan : can + nI 1 = nI (acc d (n + 1)).2 := by
      rw [r1, nJ_add, acc, if_pos hrg]
    obtain ⟨p1, p2, p3, p4⟩ := fs_step hd r2 hrg (hty n) hty
    have v1 : h3.2.1 ≤ h.2.1 + 4 := by rw [z3]; exact y1
    have v2 : h3.2.2 ≤ h.2.2 + 88 := by rw [z3]; exact y2
    have v3 : h.2.1 ≤ h3.2.1 := by rw [z3]; exact y3
    have v4 : h.2.2 ≤ h3.2.2 := by rw [z3]; exact y4
    have q57 : alI h3 q (nI 57) = some (nI (rec4 d n 3)) := by rw [la_r Q3 (by omega) (by omega), t3]
    by_cases a1 : nI (rec4 d n 0) < so
    · refine ⟨F3, h3, can + nI 1, nI (rec4 d n 3), nI (rec4 d n 0), ?_, I3, ⟨hcan, p1 a1, b3⟩, v3, v1, v4, v2⟩
      rw [B0_520r, if_pos a1, q57, obd_some, B0_556, if_pos a1, B0_574, nJ_add]
    · by_cases a2 : nI (rec4 d n 0) = so
      · by_cases a3 : nI (rec4 d n 3) < fe
        · refine ⟨F3, h3, can + nI 1, nI (rec4 d n 3), so, ?_, I3, ⟨hcan, p2 a1 a2 a3, b3⟩, v3, v1, v4, v2⟩
          rw [B0_520r, if_neg a1, if_pos a2, B0_540rr, q57, obd_some, if_pos a3, obd_some, B0_556, if_neg a1, B0_574, nJ_add]
        · refine ⟨F3, h3, can + nI 1, fe, so, ?_, I3, ⟨hcan, p3 a1 a2 a3, b3⟩, v3, v1, v4, v2⟩
          rw [B0_520r, if_neg a1, if_pos a2, B0_540rr, q57, obd_some, if_neg a3, B0_556, if_neg a1, B0_574, nJ_add]
      · refine ⟨F3, h3, can + nI 1, fe, so, ?_, I3, ⟨hcan, p4 a1 a2, b3⟩, v3, v1, v4, v2⟩
        rw [B0_520r, if_neg a1, if_neg a2, B0_556, if_neg a1, B0_574, nJ_add]
  · -- it cannot
    have hrg : ¬ rgt d n = true := by
      unfold rgt
      intro z
      exact w1 (Option.isNone_iff_eq_none.mp z)
    refine ⟨F, h2, can, fe, so, ?_, I2, ⟨?_, FsI_pass r2 hrg, fun j hj => ?_⟩, y3, y1, y4, y2⟩
    · rw [if_neg w2, B0_574, nJ_add]
    · rw [r1, acc, if_neg hrg]
    · obtain ⟨o, a1, a2⟩ := r3 j hj
      exact ⟨o, bst_pass a1 (fun z => hrg z.1), a2⟩
/-- all rows -/
theorem l_rows (hr : RdA d fr) (hd : rdOk d) (hE : 0 < rE d) (hP : 0 < rP d) (hcl : cl = rP d * rE d) (hrw : rw = nRows d) (hrl : rw ≤ 729) (hfew : few < 100) : ∀ m n F h can fe so, n + m = rw → WL x S b L xs r p fr F h → RwI d few n F can fe so →
    ∃ F' h' can' fe' so', R 26 0 274 [some (.ref b), some (.ref x), some (.int (nI e)), some (.ref r), none, none, none, some (.int (nI cl)), some (.int (nI rw)), some (.int (nI few)), some (.int can), some (.ref p), some (.ref (p + 1)), some (.ref (p + 2)), some (.ref (p + 3)), some (.ref (p + 4)), some (.ref (p + 5)), some (.int fe), some (.int so), some (.int (nI n)), none, none, none, none, none, none, none, none, none, none, none, none, none, none, none, none, none, none, none, none, none, none] [] h = R 26 0 274 [some (.ref b), some (.ref x), some (.int (nI e)), some (.ref r), none, none, none, some (.int (nI cl)), some (.int (nI rw)), some (.int (nI few)), some (.int can'), some (.ref p), some (.ref (p + 1)), some (.ref (p + 2)), some (.ref (p + 3)), some (.ref (p + 4)), some (.ref (p + 5)), some (.int fe'), some (.int so'), some (.int (nI rw)), none, none, none, none, none, none, none, none, none, none, none, none, none, none, none, none, none, none, none, none, none, none] [] h' ∧ WL x S b L xs r p fr F' h' ∧ RwI d few rw F' can' fe' so' ∧ h.2.1 ≤ h'.2.1 ∧ h'.2.1 ≤ h.2.1 + 4 * m ∧ h.2.2 ≤ h'.2.2 ∧ h'.2.2 ≤ h.2.2 + 88 * m
  | 0, n, F, h, can, fe, so, hn, I, R0 => by
    obtain rfl : n = rw := hn
    exact ⟨F, h, can, fe, so, rfl, I, R0, Nat.le_refl _, Nat.le_add_right _ _, Nat.le_refl _, Nat.le_add_right _ _⟩
  | m + 1, n, F, h, can, fe, so, hn, I, R0 => by
    obtain ⟨F1, h1, can1, fe1, so1, e1, I1, R1, a1, a2, a3, a4⟩ := l_row (e := e) I hr hd hE hP hcl hrw (show n < rw by omega) hrl hfew R0
    obtain ⟨F2, h2, can2, fe2, so2, e2, I2, R2, b1, b2, b3, b4⟩ := l_rows hr hd hE hP hcl hrw hrl hfew m (n + 1) F1 h1 can1 fe1 so1 (by omega) I1 R1
    exact ⟨F2, h2, can2, fe2, so2, e1.trans e2, I2, R2, by omega, by omega, by omega, by omega⟩
end LRow2
