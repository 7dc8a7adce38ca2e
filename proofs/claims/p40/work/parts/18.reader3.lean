section ReaderRows3
variable {h : jHp} {b i n r t a : Nat} {d : jRD} {sd : jSD}
/-- the piece after so many becomes this one -/
def setPc (d : jRD) (k : Nat) (w : Nat × Nat) : jRD := setPn (setA d (updN (rM d) k w.1) (updN (rG d) k w.2) (rQ d) (rO d)) (k + 1) (rE d) (rB d)
def setPcs (d : jRD) : Nat → List (Nat × Nat) → jRD
  | _, [] => d
  | k, w :: ws => setPcs (setPc d k w) (k + 1) ws
theorem updN_le {f : Nat → Nat} {k x c : Nat} (hf : ∀ j, f j ≤ c) (hx : x ≤ c) : ∀ j, updN f k x j ≤ c := by
  intro j; unfold updN; split; exact hx; exact hf j
theorem c_readPiece (H : rOk h b i n r a sd) (hd : rdOk d) (ht : t ≤ n) {k : Nat} (hk : k < 6) :
    rdEnd h b i n r a (mc 18 [.ref a, .int (nI k)] (rH h b i n r t a d)) (sPiece (cdOf (sC sd) i n) t) (fun w t' d' => t' = t + 2 ∧ d' = setPc d k w) d := by
  have h120 := n_le H
  rw [M18]
  simp only [rr_o, c_isAt H ht (show 49 < 1000 by decide) (show 57 < 1000 by decide), obd_some, obd_none, Option.toList_some, Option.toList_none, List.cons_append, List.nil_append, cond_true, cond_false, B18_8, b2i_0]
  unfold sPiece
  by_cases a1 : dgt (cdOf (sC sd) i n t) 49 57
  · have e1 := dgt_dv (by decide) a1
    have e1l := cd_lt (by decide) a1
    rw [if_neg (fun q => q a1), if_pos a1]
    simp only [rr_4, rr_o, c_code H ht, obd_some, obd_none, Option.toList_some, Option.toList_none, List.cons_append, List.nil_append, cond_true, cond_false, B18_20, nJ_add, rr_p, e1.1]
    rw [c_isAt H (show t + 1 ≤ n by omega) (by decide) (by decide)]
    simp only [obd_some, obd_none, Option.toList_some, Option.toList_none, List.cons_append, List.nil_append, cond_true, cond_false, B18_42, b2i_0]
    by_cases a2 : dgt (cdOf (sC sd) i n (t + 1)) 48 50
    · have e2 := dgt_dv (by decide) a2
      have e2l := cd_lt (by decide) a2
      rw [if_neg (fun q => q a2), if_pos a2]
      have hr : RoadAt (rH h b i n r (t + 1) a d) r d := rr_road H
      rw [rr_3, obd_some, rd_5 hr, obd_some, rr_asI (d := d) (k := 1) H (by decide) (by decide) rfl (by decide) hk (roA_1 d k _) rfl, obd_some, rr_3, obd_some]
      have hr2 := rr_road (t := t + 1) (d := setA d (updN (rM d) k (dv (cdOf (sC sd) i n t))) (rG d) (rQ d) (rO d)) H
      rw [rd_6 hr2, obd_some]
      simp only [rr_o, c_code H (show t + 1 ≤ n by omega), obd_some, obd_none, Option.toList_some, Option.toList_none, List.cons_append, List.nil_append, cond_true, cond_false, B18_72, e2.1]
      rw [rr_asI (k := 2) H (by decide) (by decide) rfl (by decide) hk (roA_2 _ k _) rfl, obd_some, rr_3, obd_some, nJ_add, rr_pF H rfl (rdF_0 _ (k + 1)) rfl, obd_some, rr_4, obd_some, nJ_add, rr_p, obd_some]
      obtain ⟨d1, d2, d3, d4, d5, d6, d7, d8⟩ := hd
      exact ⟨t + 2, setPc d k (dv (cdOf (sC sd) i n t), dv (cdOf (sC sd) i n (t + 1))), by omega, ⟨hk, d2, d3, updN_le d4 (by dsimp only; omega), updN_le d5 (by dsimp only; omega), d6, d7, d8⟩, rfl, rfl, rfl⟩
    · rw [if_pos a2, if_neg a2]
      simp only [rr_4, obd_some, obd_none, Option.toList_some, Option.toList_none, List.cons_append, List.nil_append, cond_true, cond_false]
      exact ⟨by omega, t + 1, d, by omega, hd, rfl, rfl⟩
  · rw [if_pos a1, if_neg a1]
    simp only [rr_4, obd_some, obd_none, Option.toList_some, Option.toList_none, List.cons_append, List.nil_append, cond_true, cond_false]
    exact ⟨ht, t, d, ht, hd, rfl, rfl⟩
theorem l_pieces (H : rOk h b i n r a sd) : ∀ (m k : Nat) (d : jRD) (t : Nat) (o2 : Option Value), rdOk d → t ≤ n → k + m = 6 →
    rdEnd h b i n r a (R 5 14 26 [some (.ref a), some (.int (nI k)), o2] [] (rH h b i n r t a d)) (sPieces (cdOf (sC sd) i n) m (decide (k = 0)) t) (fun w t' d' => t' = w.2 ∧ d' = setPcs d k w.1) d := by
  intro m
  induction m with
  | zero =>
    intro k d t o2 hd ht hk
    obtain rfl : k = 6 := hk
    rw [B14_26]
    simp (disch := omega) only [nJ_add, nI_mul, nJ_lt, nJ_le, nI_inj, nI_lt0, nI_eq0, nI_gt0, toNat_nI, Nat.lt_irrefl, if_false]
    exact ⟨t, d, ht, hd, rfl, rfl, rfl⟩
  | succ m ih =>
    intro k d t o2 hd ht hk
    have key : rdEnd h b i n r a (obd none (mc 18 [.ref a, .int (nI k)] (rH h b i n r t a d)) fun x1 => R 5 14 52 [some (.ref a), some (.int (nI k)), none] (x1.1.toList ++ []) x1.2)
        (match sPiece (cdOf (sC sd) i n) t with
          | .inl f => .inl f
          | .inr w => match sPieces (cdOf (sC sd) i n) m false (t + 2) with
            | .inl f => .inl f
            | .inr z => .inr (w :: z.1, z.2)) (fun w t' d' => t' = w.2 ∧ d' = setPcs d k w.1) d := by
      have g := c_readPiece H hd ht (show k < 6 by omega)
      cases hs : sPiece (cdOf (sC sd) i n) t with
      | inl f =>
        rw [hs] at g
        obtain ⟨hf1, t', d', ht', hd', e, el⟩ := g
        rw [e]
        have hf9 := neg9_ne (t := f) (by have := n_le H; omega)
        simp only [obd_some, obd_none, Option.toList_some, Option.toList_none, List.cons_append, List.nil_append, cond_true, cond_false, B14_52, hf9, if_false]
        exact ⟨hf1, t', d', ht', hd', rfl, el⟩
      | inr w =>
        rw [hs] at g
        obtain ⟨t', d', ht', hd', e, h1, h2⟩ := g
        rw [e]
        simp only [obd_some, obd_none, Option.toList_some, Option.toList_none, List.cons_append, List.nil_append, cond_true, cond_false, B14_52, if_true, nJ_add]
        have g2 := ih (k + 1) d' t' (some (.int (-nI 9))) hd' ht' (by omega)
        rw [show decide (k + 1 = 0) = false from decide_eq_false (by omega), h1] at g2
        rw [h1]
        cases hs2 : sPieces (cdOf (sC sd) i n) m false (t + 2) with
        | inl f =>
          rw [hs2] at g2
          exact rdEnd_d (show rL d' = rL d by rw [h2]; rfl) g2
        | inr z =>
          rw [hs2] at g2
          obtain ⟨t3, d3, ht3, hd3, e3, h3, h4⟩ := g2
          exact ⟨t3, d3, ht3, hd3, e3, h3, by rw [h4, h2]; rfl⟩
    rw [B14_26]
    unfold sPieces
    by_cases k0 : k = 0
    · subst k0
      rw [if_pos (show nI 0 < nI 6 by decide), if_pos (show nI 0 = 0 from rfl), if_pos (Or.inl (show decide (0 = 0) = true from rfl)), rr_o, obd_some]
      exact key
    · rw [if_pos (show nI k < nI 6 by rw [nJ_lt (by omega) (by omega)]; omega), if_neg (show ¬ nI k = 0 by rw [nI_eq0 (by omega)]; exact k0)]
      simp only [rr_o, c_isAt H ht (show 49 < 1000 by decide) (show 57 < 1000 by decide), obd_some, obd_none, Option.toList_some, Option.toList_none, List.cons_append, List.nil_append, cond_true, cond_false, B14_44, b2i_0]
      by_cases a1 : dgt (cdOf (sC sd) i n t) 49 57
      · rw [if_neg (fun q => q a1), if_pos (Or.inr a1)]
        exact key
      · rw [if_pos a1, if_neg (fun q => q.elim (fun q => k0 (of_decide_eq_true q)) a1)]
        exact ⟨t, d, ht, hd, rfl, rfl, rfl⟩
theorem c_readPieces (H : rOk h b i n r a sd) (hd : rdOk d) (ht : t ≤ n) :
    rdEnd h b i n r a (mc 14 [.ref a] (rH h b i n r t a d)) (if cdOf (sC sd) i n t = nI 109 then sPieces (cdOf (sC sd) i n) 6 true (t + 1) else .inl t) (fun w t' d' => t' = w.2 ∧ d' = setPcs d 0 w.1) d := by
  rw [M14]
  simp only [rr_o, c_code H ht, obd_some, obd_none, Option.toList_some, Option.toList_none, List.cons_append, List.nil_append, cond_true, cond_false, B14_4]
  by_cases a1 : cdOf (sC sd) i n t = nI 109
  · have e1l := cd_eq (by decide) (by decide) a1
    rw [if_pos a1, if_pos a1]
    simp only [rr_4, nJ_add, rr_p, obd_some, obd_none, Option.toList_some, Option.toList_none, List.cons_append, List.nil_append, cond_true, cond_false]
    exact l_pieces H 6 0 d (t + 1) none hd (by omega) rfl
  · rw [if_neg a1, if_neg a1]
    simp only [rr_4, obd_some, obd_none, Option.toList_some, Option.toList_none, List.cons_append, List.nil_append, cond_true, cond_false]
    exact ⟨ht, t, d, ht, hd, rfl, rfl⟩
/-- one person more, one beast more -/
def setE1 (d : jRD) (x : List Nat) : jRD := setRows (setPn d (rP d) (rE d + 1) (rB d)) 3 (4 * rE d) x
def setB1 (d : jRD) (x : List Nat) : jRD := setRows (setPn d (rP d) (rE d) (rB d + 1)) 4 (6 * rB d) x
theorem c_readPerson (H : rOk h b i n r a sd) (hd : rdOk d) (ht : t < n) (h2 : rE d < 4) :
    rdEnd h b i n r a (mc 20 [.ref a] (rH h b i n r t a d)) (sNums (cdOf (sC sd) i n) bndP true (t + 1)) (fun w t' d' => t' = w.2 ∧ d' = setE1 d w.1 ∧ w.1.length = 4) d := by
  have h120 := n_le H
  have hr := rr_road (t := t) (d := d) H
  have hd2 : rdOk (setPn d (rP d) (rE d + 1) (rB d)) := ⟨hd.1, h2, hd.2.2⟩
  rw [M20, rr_3, obd_some, rd_1 hr, obd_some, obd_some, rd_1 hr, obd_some, nJ_add, rr_pF H rfl (rdF_1 d (rE d + 1)) rfl, obd_some, rr_4, obd_some, B20_33, nJ_add, rr_p, obd_some, nI_mul, Nat.mul_comm (rE d) 4]
  exact rdEnd_d (show rL (setPn d (rP d) (rE d + 1) (rB d)) = rL d from rfl) (l_person H (show 4 * rE d + 4 ≤ 16 by omega) 4 0 _ (t + 1) none none hd2 ht rfl)
theorem c_readBeast (H : rOk h b i n r a sd) (hd : rdOk d) (ht : t < n) (h2 : rB d < 2) :
    rdEnd h b i n r a (mc 22 [.ref a] (rH h b i n r t a d)) (sNums (cdOf (sC sd) i n) bndB true (t + 1)) (fun w t' d' => t' = w.2 ∧ d' = setB1 d w.1 ∧ w.1.length = 6) d := by
  have h120 := n_le H
  have hr := rr_road (t := t) (d := d) H
  have hd2 : rdOk (setPn d (rP d) (rE d) (rB d + 1)) := ⟨hd.1, hd.2.1, h2, hd.2.2.2⟩
  rw [M22, rr_3, obd_some, rd_2 hr, obd_some, obd_some, rd_2 hr, obd_some, nJ_add, rr_pF H rfl (rdF_2 d (rB d + 1)) rfl, obd_some, rr_4, obd_some, B22_34, nJ_add, rr_p, obd_some, nI_mul, Nat.mul_comm (rB d) 6]
  exact rdEnd_d (show rL (setPn d (rP d) (rE d) (rB d + 1)) = rL d from rfl) (l_beast H (show 6 * rB d + 6 ≤ 12 by omega) 6 0 _ (t + 1) none none hd2 ht rfl)
/-- no person may begin here -/
theorem l_folk103 (H : rOk h b i n r a sd) (ht : t ≤ n) (hd : rdOk d) (hn : ¬ (cdOf (sC sd) i n t = nI 112 ∧ rE d < 4 ∧ rB d = 0)) (k l2 : Int32) :
    R 6 19 65 [some (.ref a), some (.int k), some (.int l2)] [.int (cdOf (sC sd) i n t)] (rH h b i n r t a d) = R 6 19 103 [some (.ref a), some (.int k), some (.int l2)] [.int (cdOf (sC sd) i n t)] (rH h b i n r t a d) := by
  have hr := rr_road (t := t) (d := d) H
  have q2 := hd.2.1
  have q3 := hd.2.2.1
  rw [B19_65]
  simp (disch := omega) only [rr_o, c_code H ht, rr_3, rd_1 hr, rd_2 hr, obd_some, obd_none, Option.toList_some, Option.toList_none, List.cons_append, List.nil_append, cond_true, cond_false, nJ_add, nI_mul, nJ_lt, nJ_le, nI_inj, nI_lt0, nI_eq0, nI_gt0, toNat_nI]
  by_cases a1 : cdOf (sC sd) i n t = nI 112
  · rw [if_pos a1]
    by_cases a2 : rE d < 4
    · rw [if_pos a2, if_neg (fun q => hn ⟨a1, a2, q⟩)]
    · rw [if_neg a2]
  · rw [if_neg a1]
/-- no beast may begin here, either -/
theorem l_folk134 (H : rOk h b i n r a sd) (hd : rdOk d) (hm : ¬ (cdOf (sC sd) i n t = nI 98 ∧ 0 < rE d ∧ rB d < 2)) (k l2 : Int32) :
    R 6 19 103 [some (.ref a), some (.int k), some (.int l2)] [.int (cdOf (sC sd) i n t)] (rH h b i n r t a d) = R 6 19 134 [some (.ref a), some (.int k), some (.int l2)] [] (rH h b i n r t a d) := by
  have hr := rr_road (t := t) (d := d) H
  have q2 := hd.2.1
  have q3 := hd.2.2.1
  rw [B19_103]
  by_cases a1 : cdOf (sC sd) i n t = nI 98
  · rw [if_pos a1]
    simp (disch := omega) only [rr_3, rd_1 hr, rd_2 hr, obd_some, obd_none, Option.toList_some, Option.toList_none, List.cons_append, List.nil_append, cond_true, cond_false, nJ_add, nI_mul, nJ_lt, nJ_le, nI_inj, nI_lt0, nI_eq0, nI_gt0, toNat_nI]
    by_cases a2 : 0 < rE d
    · rw [if_pos a2, if_neg (fun q => hm ⟨a1, a2, q⟩)]
    · rw [if_neg a2]
  · rw [if_neg a1]
def setEs (d : jRD) : List (List Nat) → jRD
  | [] => d
  | x :: xs => setEs (setE1 d x) xs
def setBs (d : jRD) : List (List Nat) → jRD
  | [] => d
  | x :: xs => setBs (setB1 d x) xs
theorem setRows_P (k : Nat) : ∀ (xs : List Nat) (u : Nat) (d : jRD), rP (setRows d k u xs) = rP d ∧ rE (setRows d k u xs) = rE d ∧ rB (setRows d k u xs) = rB d ∧ rL (setRows d k u xs) = rL d
  | [], _, _ => ⟨rfl, rfl, rfl, rfl⟩
  | x :: xs, u, d => by
    have g := setRows_P k xs (u + 1) (setRow d k u x)
    rw [setRows]
    have e : rP (setRow d k u x) = rP d ∧ rE (setRow d k u x) = rE d ∧ rB (setRow d k u x) = rB d ∧ rL (setRow d k u x) = rL d := by
      unfold setRow; split <;> exact ⟨rfl, rfl, rfl, rfl⟩
    exact ⟨g.1.trans e.1, g.2.1.trans e.2.1, g.2.2.1.trans e.2.2.1, g.2.2.2.trans e.2.2.2⟩
theorem l_folk (H : rOk h b i n r a sd) : ∀ (m k : Nat) (d : jRD) (t : Nat) (o2 : Option Value), rdOk d → t ≤ n → k + m = 7 →
    rdEnd h b i n r a (R 6 19 2 [some (.ref a), some (.int (nI k)), o2] [] (rH h b i n r t a d)) (sFolk (cdOf (sC sd) i n) n m (rE d) (rB d) t) (fun w _ d' => d' = setBs (setEs d w.1) w.2 ∧ (rB d = 0 ∨ w.1 = [])) d := by
  intro m
  induction m with
  | zero =>
    intro k d t o2 hd ht hk
    obtain rfl : k = 7 := hk
    rw [B19_2, if_pos (show nI 6 < nI 7 by decide), rr_4, obd_some]
    exact ⟨ht, t, d, ht, hd, rfl, rfl⟩
  | succ m ih =>
    intro k d t o2 hd ht hk
    have h120 := n_le H
    have hr := rr_road (t := t) (d := d) H
    have q2 := hd.2.1
    have q3 := hd.2.2.1
    have main : ¬ (n ≤ t ∧ 0 < rE d) → rdEnd h b i n r a (R 6 19 36 [some (.ref a), some (.int (nI k)), none] [.int (cdOf (sC sd) i n t)] (rH h b i n r t a d)) (sFolk (cdOf (sC sd) i n) n (m + 1) (rE d) (rB d) t) (fun w _ d' => d' = setBs (setEs d w.1) w.2 ∧ (rB d = 0 ∨ w.1 = [])) d := by
      intro hne
      rw [B19_36]
      unfold sFolk
      rw [if_neg hne]
      by_cases a1 : cdOf (sC sd) i n t = nI 59
      · have e1l := cd_eq (by decide) (by decide) a1
        rw [if_pos a1, if_neg (fun q => q a1)]
        simp only [rr_4, nJ_add, rr_p, rr_o, c_code H (show t + 1 ≤ n by omega), obd_some, obd_none, Option.toList_some, Option.toList_none, List.cons_append, List.nil_append, cond_true, cond_false]
        have hr1 := rr_road (t := t + 1) (d := d) H
        by_cases a2 : cdOf (sC sd) i n (t + 1) = nI 112 ∧ rE d < 4 ∧ rB d = 0
        · have c1l := cd_eq (by decide) (by decide) a2.1
          rw [if_pos a2, B19_65, if_pos a2.1]
          simp (disch := omega) only [rr_3, rd_1 hr1, rd_2 hr1, obd_some, obd_none, Option.toList_some, Option.toList_none, List.cons_append, List.nil_append, cond_true, cond_false, nJ_add, nI_mul, nJ_lt, nJ_le, nI_inj, nI_lt0, nI_eq0, nI_gt0, toNat_nI, a2.2.1, if_true, rr_o]
          rw [if_pos a2.2.2]
          have g := c_readPerson (t := t + 1) H hd c1l a2.2.1
          cases hs : sNums (cdOf (sC sd) i n) bndP true (t + 1 + 1) with
          | inl f =>
            rw [hs] at g
            obtain ⟨hf1, t', d', ht', hd', e, el⟩ := g
            rw [e]
            have hf9 := neg9_ne (t := f) (by omega)
            simp only [obd_some, obd_none, Option.toList_some, Option.toList_none, List.cons_append, List.nil_append, cond_true, cond_false, B19_95, B19_134, hf9, if_false]
            exact ⟨hf1, t', d', ht', hd', rfl, el⟩
          | inr w =>
            rw [hs] at g
            obtain ⟨t', d', ht', hd', e, g1, g2, g3⟩ := g
            rw [e]
            simp only [obd_some, obd_none, Option.toList_some, Option.toList_none, List.cons_append, List.nil_append, cond_true, cond_false, B19_95, B19_134, if_true, nJ_add]
            have g4 := ih (k + 1) d' t' (some (.int (-nI 9))) hd' ht' (by omega)
            have s1 := setRows_P 3 w.1 (4 * rE d) (setPn d (rP d) (rE d + 1) (rB d))
            have sE : rE d' = rE d + 1 := by rw [g2]; exact s1.2.1
            have sBq : rB d' = rB d := by rw [g2]; exact s1.2.2.1
            rw [sE, sBq, g1] at g4
            rw [g1]
            cases hs2 : sFolk (cdOf (sC sd) i n) n m (rE d + 1) (rB d) w.2 with
            | inl f =>
              rw [hs2] at g4
              exact rdEnd_d (show rL d' = rL d by rw [g2]; exact s1.2.2.2) g4
            | inr z =>
              rw [hs2] at g4
              obtain ⟨t3, d3, ht3, hd3, e3, h3, h4⟩ := g4
              exact ⟨t3, d3, ht3, hd3, e3, by rw [h3, g2]; rfl, Or.inl a2.2.2⟩
        · rw [if_neg a2, l_folk103 H (show t + 1 ≤ n by omega) hd a2]
          by_cases a3 : cdOf (sC sd) i n (t + 1) = nI 98 ∧ 0 < rE d ∧ rB d < 2
          · have c1l := cd_eq (by decide) (by decide) a3.1
            rw [if_pos a3, B19_103, if_pos a3.1]
            simp (disch := omega) only [rr_3, rd_1 hr1, rd_2 hr1, obd_some, obd_none, Option.toList_some, Option.toList_none, List.cons_append, List.nil_append, cond_true, cond_false, nJ_add, nI_mul, nJ_lt, nJ_le, nI_inj, nI_lt0, nI_eq0, nI_gt0, toNat_nI, a3.2.1, a3.2.2, if_true, rr_o]
            have g := c_readBeast (t := t + 1) H hd c1l a3.2.2
            cases hs : sNums (cdOf (sC sd) i n) bndB true (t + 1 + 1) with
            | inl f =>
              rw [hs] at g
              obtain ⟨hf1, t', d', ht', hd', e, el⟩ := g
              rw [e]
              have hf9 := neg9_ne (t := f) (by omega)
              simp only [obd_some, obd_none, Option.toList_some, Option.toList_none, List.cons_append, List.nil_append, cond_true, cond_false, B19_133, B19_134, hf9, if_false]
              exact ⟨hf1, t', d', ht', hd', rfl, el⟩
            | inr w =>
              rw [hs] at g
              obtain ⟨t', d', ht', hd', e, g1, g2, g3⟩ := g
              rw [e]
              simp only [obd_some, obd_none, Option.toList_some, Option.toList_none, List.cons_append, List.nil_append, cond_true, cond_false, B19_133, B19_134, if_true, nJ_add]
              have g4 := ih (k + 1) d' t' (some (.int (-nI 9))) hd' ht' (by omega)
              have s1 := setRows_P 4 w.1 (6 * rB d) (setPn d (rP d) (rE d) (rB d + 1))
              have sE : rE d' = rE d := by rw [g2]; exact s1.2.1
              have sBq : rB d' = rB d + 1 := by rw [g2]; exact s1.2.2.1
              rw [sE, sBq, g1] at g4
              rw [g1]
              cases hs2 : sFolk (cdOf (sC sd) i n) n m (rE d) (rB d + 1) w.2 with
              | inl f =>
                rw [hs2] at g4
                exact rdEnd_d (show rL d' = rL d by rw [g2]; exact s1.2.2.2) g4
              | inr z =>
                rw [hs2] at g4
                obtain ⟨t3, d3, ht3, hd3, e3, h3, h4⟩ := g4
                have hz : z.1 = [] := h4.resolve_left (by omega)
                exact ⟨t3, d3, ht3, hd3, e3, by rw [h3, g2, hz]; rfl, Or.inr hz⟩
          · rw [if_neg a3, l_folk134 H hd a3]
            have hf9 := neg9_ne (t := t + 1) (by omega)
            simp only [B19_134, hf9, if_false]
            exact ⟨by omega, t + 1, d, by omega, hd, rfl, rfl⟩
      · rw [if_neg a1, if_pos a1]
        simp only [rr_4, obd_some, obd_none, Option.toList_some, Option.toList_none, List.cons_append, List.nil_append, cond_true, cond_false]
        exact ⟨ht, t, d, ht, hd, rfl, rfl⟩
    rw [B19_2]
    simp (disch := omega) only [nJ_add, nI_mul, nJ_lt, nJ_le, nI_inj, nI_lt0, nI_eq0, nI_gt0, toNat_nI, show ¬ 6 < k by omega, if_false, rr_4, rr_2, obd_some, obd_none, Option.toList_some, Option.toList_none, List.cons_append, List.nil_append, cond_true, cond_false, rr_o, c_code H ht, rr_3, rd_1 hr]
    by_cases b1 : t < n
    · rw [if_pos b1]
      exact main (by omega)
    · rw [if_neg b1]
      by_cases b2 : 0 < rE d
      · rw [if_pos b2]
        unfold sFolk
        rw [if_pos ⟨by omega, b2⟩]
        exact ⟨t, d, ht, hd, rfl, rfl, Or.inr rfl⟩
      · rw [if_neg b2]
        exact main (fun q => b2 q.2)
/-- the road of a text, over what was in its place -/
def rdOf (d : jRD) (w : List (Nat × Nat) × List (List Nat) × List (List Nat)) : jRD := setBs (setEs (setPcs (setPn d 0 0 0) 0 w.1) w.2.1) w.2.2
theorem setPcs_E : ∀ (ws : List (Nat × Nat)) (k : Nat) (d : jRD), rE (setPcs d k ws) = rE d ∧ rB (setPcs d k ws) = rB d ∧ rL (setPcs d k ws) = rL d
  | [], _, _ => ⟨rfl, rfl, rfl⟩
  | w :: ws, k, d => setPcs_E ws (k + 1) (setPc d k w)
theorem c_read (H : rOk h b i n r a sd) (hd : rdOk d) :
    rdEnd h b i n r a (mc 12 [.ref a] (rH h b i n r 0 a d)) (sText (cdOf (sC sd) i n) n) (fun w _ d' => d' = rdOf d w) d := by
  have h120 := n_le H
  have hr := rr_road (t := 0) (d := d) H
  rw [M12, rr_3, obd_some, rd_o hr, obd_some, M13, rr_pF H rfl (rdF_0 d 0) rfl, obd_some, rr_pF H rfl (rdF_1 _ 0) rfl, obd_some, rr_pF H rfl (rdF_2 _ 0) rfl, obd_some, obd_some]
  simp only [obd_some, obd_none, Option.toList_some, Option.toList_none, List.cons_append, List.nil_append, cond_true, cond_false, B12_7, rr_o]
  have hd0 : rdOk (setPn d 0 0 0) := ⟨by show 0 ≤ 6; omega, by show 0 ≤ 4; omega, by show 0 ≤ 2; omega, hd.2.2.2⟩
  have g := c_readPieces (t := 0) H hd0 (Nat.zero_le _)
  have fin : ∀ (x : jRs), rdEnd h b i n r a x (if cdOf (sC sd) i n 0 = nI 109 then sPieces (cdOf (sC sd) i n) 6 true (0 + 1) else .inl 0) (fun w t' d' => t' = w.2 ∧ d' = setPcs (setPn d 0 0 0) 0 w.1) (setPn d 0 0 0) →
      rdEnd h b i n r a (obd none x fun x1 => R 7 12 11 [some (.ref a), none] (x1.1.toList ++ []) x1.2) (sText (cdOf (sC sd) i n) n) (fun w _ d' => d' = rdOf d w) d := by
    intro x g
    unfold sText
    by_cases a1 : cdOf (sC sd) i n 0 = nI 109
    · rw [if_pos a1] at g ⊢
      cases hs : sPieces (cdOf (sC sd) i n) 6 true 1 with
      | inl f =>
        rw [hs] at g
        obtain ⟨hf1, t', d', ht', hd', e, el⟩ := g
        rw [e]
        have hf9 := neg9_ne (t := f) (by omega)
        simp only [obd_some, obd_none, Option.toList_some, Option.toList_none, List.cons_append, List.nil_append, cond_true, cond_false, B12_11, hf9, if_false]
        exact ⟨hf1, t', d', ht', hd', rfl, el⟩
      | inr w =>
        rw [hs] at g
        obtain ⟨t', d', ht', hd', e, g1, g2⟩ := g
        rw [e]
        simp only [obd_some, obd_none, Option.toList_some, Option.toList_none, List.cons_append, List.nil_append, cond_true, cond_false, B12_11, if_true, rr_o, M19]
        have g4 := l_folk H 7 0 d' t' none hd' ht' rfl
        have s1 := setPcs_E w.1 0 (setPn d 0 0 0)
        have sE : rE d' = 0 := by rw [g2]; exact s1.1
        have sBq : rB d' = 0 := by rw [g2]; exact s1.2.1
        rw [sE, sBq, g1] at g4
        rw [g1]
        cases hs2 : sFolk (cdOf (sC sd) i n) n 7 0 0 w.2 with
        | inl f =>
          rw [hs2] at g4
          obtain ⟨hf1, t3, d3, ht3, hd3, e3, el3⟩ := g4
          rw [e3]
          simp only [obd_some, obd_none, Option.toList_some, Option.toList_none, List.cons_append, List.nil_append, cond_true, cond_false, B12_22]
          exact ⟨hf1, t3, d3, ht3, hd3, rfl, el3.trans (by rw [g2]; exact s1.2.2)⟩
        | inr z =>
          rw [hs2] at g4
          obtain ⟨t3, d3, ht3, hd3, e3, h3, h4⟩ := g4
          rw [e3]
          simp only [obd_some, obd_none, Option.toList_some, Option.toList_none, List.cons_append, List.nil_append, cond_true, cond_false, B12_22]
          exact ⟨t3, d3, ht3, hd3, rfl, by rw [h3, g2]; rfl⟩
    · rw [if_neg a1] at g ⊢
      obtain ⟨hf1, t', d', ht', hd', e, el⟩ := g
      rw [e]
      have hf9 := neg9_ne (t := 0) (by omega)
      simp only [obd_some, obd_none, Option.toList_some, Option.toList_none, List.cons_append, List.nil_append, cond_true, cond_false, B12_11, hf9, if_false]
      exact ⟨hf1, t', d', ht', hd', rfl, el⟩
  exact fin _ g
end ReaderRows3
