section ReaderRows2
variable {h : jHp} {b i n r t a : Nat} {d : jRD} {sd : jSD}
theorem i32_assoc (x c y : Int32) : (x + c) - y = x + (c - y) := by rw [Int32.sub_eq_add_neg, Int32.sub_eq_add_neg, Int32.add_assoc]
theorem l_num36 (H : rOk h b i n r a sd) (hd : rdOk d) (ht : t ≤ n) {k u lo hi : Nat} (hk : (k = 3 ∧ u < 16) ∨ (k = 4 ∧ u < 12)) (hlo : lo < 1000) (hhi : hi ≤ 99) :
    rdEnd h b i n r a (R 4 21 36 [some (.ref a), some (.ref (r + k)), some (.int (nI u)), none, some (.int (nI lo)), some (.int (nI hi)), none, none] [.int (b2i (dgt (cdOf (sC sd) i n t) 48 57))] (rH h b i n r t a d))
      (sNum (cdOf (sC sd) i n) t lo hi) (fun w t' d' => t' = w.2 ∧ d' = setRow d k u w.1) d := by
  have h120 := n_le H
  rw [B21_36]
  simp only [b2i_0]
  unfold sNum
  by_cases a1 : dgt (cdOf (sC sd) i n t) 48 57
  · have e1 := dgt_dv (by decide) a1
    have e1l := cd_lt (by decide) a1
    rw [if_neg (fun q => q a1), if_pos a1]
    simp only [rr_4, rr_o, c_code H ht, obd_some, obd_none, Option.toList_some, Option.toList_none, List.cons_append, List.nil_append, cond_true, cond_false, B21_54, nJ_add, rr_p, e1.1]
    rw [c_isAt H (by omega) (by decide) (by decide)]
    simp only [obd_some, obd_none, Option.toList_some, Option.toList_none, List.cons_append, List.nil_append, cond_true, cond_false, B21_77, b2i_0]
    by_cases a2 : dgt (cdOf (sC sd) i n (t + 1)) 48 57
    · have e2 := dgt_dv (by decide) a2
      have e2l := cd_lt (by decide) a2
      rw [if_neg (fun q => q a2), if_pos a2]
      simp only [rr_4, rr_o, c_code H (show t + 1 ≤ n by omega), obd_some, obd_none, Option.toList_some, Option.toList_none, List.cons_append, List.nil_append, cond_true, cond_false, B21_89, nJ_add, nI_mul, rr_p, i32_assoc, e2.1]
      have key := l_num105 (t := t + 1 + 1) (lo := lo) (hi := hi) (v := 10 * dv (cdOf (sC sd) i n t) + dv (cdOf (sC sd) i n (t + 1))) (f := t) H hd (by omega) hk hlo hhi (by omega) ht (some (.ref a)) none
      by_cases a3 : lo ≤ 10 * dv (cdOf (sC sd) i n t) + dv (cdOf (sC sd) i n (t + 1)) ∧ 10 * dv (cdOf (sC sd) i n t) + dv (cdOf (sC sd) i n (t + 1)) ≤ hi
      · rw [if_pos a3] at key ⊢
        exact key
      · rw [if_neg a3] at key ⊢
        exact key
    · rw [if_pos a2, if_neg a2]
      have key := l_num105 (t := t + 1) (lo := lo) (hi := hi) (v := dv (cdOf (sC sd) i n t)) (f := t) H hd (by omega) hk hlo hhi (by omega) ht (some (.ref a)) none
      by_cases a3 : lo ≤ dv (cdOf (sC sd) i n t) ∧ dv (cdOf (sC sd) i n t) ≤ hi
      · rw [if_pos a3] at key ⊢
        exact key
      · rw [if_neg a3] at key ⊢
        exact key
  · rw [if_pos a1, if_neg a1]
    simp only [rr_4, obd_some, obd_none, Option.toList_some, Option.toList_none, List.cons_append, List.nil_append, cond_true, cond_false]
    exact ⟨ht, t, d, ht, hd, rfl, rfl⟩
theorem c_readNumber (H : rOk h b i n r a sd) (hd : rdOk d) (ht : t ≤ n) {k u lo hi : Nat} (cm : Bool) (hk : (k = 3 ∧ u < 16) ∨ (k = 4 ∧ u < 12)) (hlo : lo < 1000) (hhi : hi ≤ 99) :
    rdEnd h b i n r a (mc 21 [.ref a, .ref (r + k), .int (nI u), .int (nI (cond cm 1 0)), .int (nI lo), .int (nI hi)] (rH h b i n r t a d))
      (sNum1 (cdOf (sC sd) i n) cm t lo hi) (fun w t' d' => t' = w.2 ∧ d' = setRow d k u w.1) d := by
  have h120 := n_le H
  rw [M21]
  unfold sNum1
  cases cm with
  | false =>
    rw [if_pos (show nI (cond false 1 0) = 0 from rfl), if_neg (show ¬ (false = true ∧ ¬ cdOf (sC sd) i n t = nI 44) from fun q => absurd q.1 (by decide))]
    simp only [cond_false, rr_o, c_isAt H ht (show 48 < 1000 by decide) (show 57 < 1000 by decide), obd_some, obd_none, Option.toList_some, Option.toList_none, List.cons_append, List.nil_append, cond_true, cond_false]
    exact l_num36 H hd ht hk hlo hhi
  | true =>
    simp only [cond_true, rr_o, c_code H ht, obd_some, obd_none, Option.toList_some, Option.toList_none, List.cons_append, List.nil_append, cond_true, cond_false, B21_8]
    rw [if_neg (show ¬ nI 1 = 0 by decide)]
    by_cases a1 : cdOf (sC sd) i n t = nI 44
    · have e1l := cd_eq (by decide) (by decide) a1
      rw [if_pos a1, if_neg (fun q => q.2 a1), if_pos trivial]
      simp only [rr_4, rr_p, nJ_add, rr_o, c_isAt H (show t + 1 ≤ n by omega) (show 48 < 1000 by decide) (show 57 < 1000 by decide), obd_some, obd_none, Option.toList_some, Option.toList_none, List.cons_append, List.nil_append, cond_true, cond_false]
      exact l_num36 H hd (by omega) hk hlo hhi
    · rw [if_neg a1, if_pos ⟨trivial, a1⟩]
      simp only [rr_4, obd_some, obd_none, Option.toList_some, Option.toList_none, List.cons_append, List.nil_append, cond_true, cond_false]
      exact ⟨ht, t, d, ht, hd, rfl, rfl⟩
/-- rows u, u + 1 .. become such numbers -/
def setRows (d : jRD) (k : Nat) : Nat → List Nat → jRD
  | _, [] => d
  | u, x :: xs => setRows (setRow d k u x) k (u + 1) xs
theorem decide_pos {j : Nat} (h : 0 < j) : decide (0 < j) = true := decide_eq_true h
theorem sNum1_eq (cd : Nat → Int32) (j t lo hi : Nat) : sNum1 cd (decide (0 < j)) t lo hi = if decide (j = 0) = false ∧ ¬ cd t = nI 44 then .inl t else sNum cd (if decide (j = 0) = true then t else t + 1) lo hi := by
  unfold sNum1
  by_cases j0 : j = 0
  · subst j0
    rw [if_neg (show ¬ (decide (0 < 0) = true ∧ ¬ cd t = nI 44) from fun q => absurd q.1 (by decide)), if_neg (show ¬ (decide (0 = 0) = false ∧ ¬ cd t = nI 44) from fun q => absurd q.1 (by decide))]; rfl
  · have q1 : decide (0 < j) = true := decide_eq_true (by omega)
    have q2 : decide (j = 0) = false := decide_eq_false j0
    rw [q1, q2]
    by_cases e : cd t = nI 44
    · rw [if_neg (show ¬ (true = true ∧ ¬ cd t = nI 44) from fun q => q.2 e), if_neg (show ¬ (false = false ∧ ¬ cd t = nI 44) from fun q => q.2 e)]; rfl
    · rw [if_pos ⟨rfl, e⟩, if_pos ⟨rfl, e⟩]
/-- one turn of the readers' loops, over what the number comes to -/
theorem l_turn (H : rOk h b i n r a sd) (hd : rdOk d) (ht : t ≤ n) {k u j lo hi : Nat} {qs : List (Nat × Nat)} (hk : (k = 3 ∧ u + j < 16) ∨ (k = 4 ∧ u + j < 12)) (hlo : lo < 1000) (hhi : hi ≤ 99) (K : Option Value × jHp → jRs) (m : Nat)
    (hf : ∀ f t', f ≤ n → t' ≤ n → ∀ d', K (some (.int (nI f)), rH h b i n r t' a d') = some (some (.int (nI f)), rH h b i n r t' a d'))
    (hg : ∀ w : Nat × Nat, w.2 ≤ n → rdOk (setRow d k (u + j) w.1) → rdEnd h b i n r a (K (some (.int (-nI 9)), rH h b i n r w.2 a (setRow d k (u + j) w.1))) (sNums (cdOf (sC sd) i n) qs false w.2) (fun w' t' d' => t' = w'.2 ∧ d' = setRows (setRow d k (u + j) w.1) k (u + (j + 1)) w'.1 ∧ w'.1.length = m) d) :
    rdEnd h b i n r a (obd none (mc 21 [.ref a, .ref (r + k), .int (nI (u + j)), .int (nI (cond (decide (0 < j)) 1 0)), .int (nI lo), .int (nI hi)] (rH h b i n r t a d)) K)
      (sNums (cdOf (sC sd) i n) ((lo, hi) :: qs) (decide (j = 0)) t) (fun w t' d' => t' = w.2 ∧ d' = setRows d k (u + j) w.1 ∧ w.1.length = m + 1) d := by
  have key := c_readNumber (k := k) (u := u + j) (lo := lo) (hi := hi) H hd ht (decide (0 < j)) hk hlo hhi
  rw [sNum1_eq] at key
  unfold sNums
  by_cases e1 : decide (j = 0) = false ∧ ¬ cdOf (sC sd) i n t = nI 44
  · rw [if_pos e1] at key ⊢
    obtain ⟨hf1, t', d', ht', hd', e, el⟩ := key
    rw [e, obd_some, hf t t' hf1 ht']
    exact ⟨hf1, t', d', ht', hd', rfl, el⟩
  · rw [if_neg e1] at key ⊢
    dsimp only
    cases hs : sNum (cdOf (sC sd) i n) (if decide (j = 0) = true then t else t + 1) lo hi with
    | inl f =>
      rw [hs] at key
      obtain ⟨hf1, t', d', ht', hd', e, el⟩ := key
      rw [e, obd_some, hf f t' hf1 ht']
      exact ⟨hf1, t', d', ht', hd', rfl, el⟩
    | inr w =>
      rw [hs] at key
      obtain ⟨t', d', ht', hd', e, rfl, rfl⟩ := key
      have g := hg w ht' hd'
      rw [e, obd_some]
      dsimp only
      cases hs2 : sNums (cdOf (sC sd) i n) qs false w.2 with
      | inl f =>
        rw [hs2] at g
        exact g
      | inr z =>
        rw [hs2] at g
        obtain ⟨t', d', ht', hd', e, h1, h2, h3⟩ := g
        exact ⟨t', d', ht', hd', e, h1, h2, by rw [List.length_cons, h3]⟩
theorem bndP_drop : ∀ j, j < 4 → ∃ lo hi, bndP.drop j = (lo, hi) :: bndP.drop (j + 1) ∧ lo < 1000 ∧ hi ≤ 99 ∧ (lo = if j = 3 then 0 else 1) ∧ (hi = if j = 3 then 99 else 60) := by
  intro j hj
  rcases (by omega : j = 0 ∨ j = 1 ∨ j = 2 ∨ j = 3) with rfl | rfl | rfl | rfl
  · exact ⟨1, 60, rfl, by decide, by decide, rfl, rfl⟩
  · exact ⟨1, 60, rfl, by decide, by decide, rfl, rfl⟩
  · exact ⟨1, 60, rfl, by decide, by decide, rfl, rfl⟩
  · exact ⟨0, 99, rfl, by decide, by decide, rfl, rfl⟩
theorem bndB_drop : ∀ j, j < 6 → ∃ lo hi, bndB.drop j = (lo, hi) :: bndB.drop (j + 1) ∧ lo < 1000 ∧ hi ≤ 99 ∧ (lo = if j = 4 then 0 else if j = 5 then 9 else 1) ∧ (hi = if j = 3 then 2 else if j = 4 then 30 else if j = 5 then 99 else 60) := by
  intro j hj
  rcases (by omega : j = 0 ∨ j = 1 ∨ j = 2 ∨ j = 3 ∨ j = 4 ∨ j = 5) with rfl | rfl | rfl | rfl | rfl | rfl
  · exact ⟨1, 60, rfl, by decide, by decide, rfl, rfl⟩
  · exact ⟨1, 60, rfl, by decide, by decide, rfl, rfl⟩
  · exact ⟨1, 60, rfl, by decide, by decide, rfl, rfl⟩
  · exact ⟨1, 2, rfl, by decide, by decide, rfl, rfl⟩
  · exact ⟨0, 30, rfl, by decide, by decide, rfl, rfl⟩
  · exact ⟨9, 99, rfl, by decide, by decide, rfl, rfl⟩
theorem not_dec {j : Nat} (h : ¬ 0 < j) : decide (0 < j) = false := decide_eq_false h
theorem b_person (H : rOk h b i n r a sd) {u j lo hi : Nat} (hj : j < 4) (hlo : lo = if j = 3 then 0 else 1) (hhi : hi = if j = 3 then 99 else 60) (o4 o5 : Option Value) :
    R 5 20 38 [some (.ref a), some (.int (nI u)), some (.int (-nI 9)), some (.int (nI j)), o4, o5] [] (rH h b i n r t a d) =
    obd none (mc 21 [.ref a, .ref (r + 3), .int (nI (u + j)), .int (nI (cond (decide (0 < j)) 1 0)), .int (nI lo), .int (nI hi)] (rH h b i n r t a d)) fun x5 => R 5 20 102 [some (.ref a), some (.int (nI u)), none, some (.int (nI j)), some (.int (nI lo)), some (.int (nI hi))] (x5.1.toList ++ []) x5.2 := by
  have hr := rr_road (t := t) (d := d) H
  rw [B20_38]
  simp (disch := omega) only [nJ_add, nI_mul, nJ_lt, nJ_le, nI_inj, nI_lt0, nI_eq0, nI_gt0, toNat_nI, hj, if_true, B20_59, B20_73, rr_3, rr_o, obd_some, obd_none, Option.toList_some, Option.toList_none, List.cons_append, List.nil_append, cond_true, cond_false, rd_7 hr]
  subst hlo; subst hhi
  by_cases e : j = 3
  · subst e
    simp only [if_true]
    rfl
  · simp only [e, if_false]
    by_cases e0 : 0 < j
    · simp only [e0, if_true, decide_true, cond_true]
    · simp only [e0, if_false, decide_false, cond_false]
theorem b_beast (H : rOk h b i n r a sd) {u j lo hi : Nat} (hj : j < 6) (hlo : lo = if j = 4 then 0 else if j = 5 then 9 else 1) (hhi : hi = if j = 3 then 2 else if j = 4 then 30 else if j = 5 then 99 else 60) (o4 o5 : Option Value) :
    R 5 22 39 [some (.ref a), some (.int (nI u)), some (.int (-nI 9)), some (.int (nI j)), o4, o5] [] (rH h b i n r t a d) =
    obd none (mc 21 [.ref a, .ref (r + 4), .int (nI (u + j)), .int (nI (cond (decide (0 < j)) 1 0)), .int (nI lo), .int (nI hi)] (rH h b i n r t a d)) fun x5 => R 5 22 133 [some (.ref a), some (.int (nI u)), none, some (.int (nI j)), some (.int (nI lo)), some (.int (nI hi))] (x5.1.toList ++ []) x5.2 := by
  have hr := rr_road (t := t) (d := d) H
  have key : ∀ lo hi : Nat, R 5 22 104 [some (.ref a), some (.int (nI u)), none, some (.int (nI j)), some (.int (nI lo)), none] [.int (nI hi)] (rH h b i n r t a d) = obd none (mc 21 [.ref a, .ref (r + 4), .int (nI (u + j)), .int (nI (cond (decide (0 < j)) 1 0)), .int (nI lo), .int (nI hi)] (rH h b i n r t a d)) fun x5 => R 5 22 133 [some (.ref a), some (.int (nI u)), none, some (.int (nI j)), some (.int (nI lo)), some (.int (nI hi))] (x5.1.toList ++ []) x5.2 := by
    intro lo hi
    rw [B22_104]
    simp only [rr_3, rr_o, obd_some, obd_none, Option.toList_some, Option.toList_none, List.cons_append, List.nil_append, cond_true, cond_false, rd_8 hr, nJ_add, nI_gt0 (show j < 2147483648 by omega)]
    by_cases e0 : 0 < j
    · simp only [e0, if_true, decide_true, cond_true]
    · simp only [e0, if_false, decide_false, cond_false]
  rw [B22_39, if_pos (show nI j < nI 6 by rw [nJ_lt (by omega) (by omega)]; exact hj), if_pos (show -nI 9 = -nI 9 from rfl)]
  subst hlo; subst hhi
  rcases (by omega : j = 0 ∨ j = 1 ∨ j = 2 ∨ j = 3 ∨ j = 4 ∨ j = 5) with rfl | rfl | rfl | rfl | rfl | rfl
  · rw [if_neg (show ¬ nI 0 = nI 4 by decide), if_neg (show ¬ nI 0 = nI 5 by decide), B22_71, if_neg (show ¬ nI 0 = nI 3 by decide), if_neg (show ¬ nI 0 = nI 4 by decide), if_neg (show ¬ nI 0 = nI 5 by decide)]; exact key 1 60
  · rw [if_neg (show ¬ nI 1 = nI 4 by decide), if_neg (show ¬ nI 1 = nI 5 by decide), B22_71, if_neg (show ¬ nI 1 = nI 3 by decide), if_neg (show ¬ nI 1 = nI 4 by decide), if_neg (show ¬ nI 1 = nI 5 by decide)]; exact key 1 60
  · rw [if_neg (show ¬ nI 2 = nI 4 by decide), if_neg (show ¬ nI 2 = nI 5 by decide), B22_71, if_neg (show ¬ nI 2 = nI 3 by decide), if_neg (show ¬ nI 2 = nI 4 by decide), if_neg (show ¬ nI 2 = nI 5 by decide)]; exact key 1 60
  · rw [if_neg (show ¬ nI 3 = nI 4 by decide), if_neg (show ¬ nI 3 = nI 5 by decide), B22_71, if_pos (show nI 3 = nI 3 from rfl)]; exact key 1 2
  · rw [if_pos (show nI 4 = nI 4 from rfl), B22_71, if_neg (show ¬ nI 4 = nI 3 by decide), if_pos (show nI 4 = nI 4 from rfl)]; exact key 0 30
  · rw [if_neg (show ¬ nI 5 = nI 4 by decide), if_pos (show nI 5 = nI 5 from rfl), B22_71, if_neg (show ¬ nI 5 = nI 3 by decide), if_neg (show ¬ nI 5 = nI 4 by decide), if_pos (show nI 5 = nI 5 from rfl)]; exact key 9 99
theorem l_person (H : rOk h b i n r a sd) {u : Nat} (hu : u + 4 ≤ 16) : ∀ (m j : Nat) (d : jRD) (t : Nat) (o4 o5 : Option Value), rdOk d → t ≤ n → j + m = 4 →
    rdEnd h b i n r a (R 5 20 38 [some (.ref a), some (.int (nI u)), some (.int (-nI 9)), some (.int (nI j)), o4, o5] [] (rH h b i n r t a d))
      (sNums (cdOf (sC sd) i n) (bndP.drop j) (decide (j = 0)) t) (fun w t' d' => t' = w.2 ∧ d' = setRows d 3 (u + j) w.1 ∧ w.1.length = m) d := by
  intro m
  induction m with
  | zero =>
    intro j d t o4 o5 hd ht hj
    obtain rfl : j = 4 := hj
    rw [B20_38]
    simp (disch := omega) only [nJ_add, nI_mul, nJ_lt, nJ_le, nI_inj, nI_lt0, nI_eq0, nI_gt0, toNat_nI, Nat.lt_irrefl, if_false, B20_109, B20_110]
    exact ⟨t, d, ht, hd, rfl, rfl, rfl, rfl⟩
  | succ m ih =>
    intro j d t o4 o5 hd ht hj
    have hj4 : j < 4 := by omega
    obtain ⟨lo, hi, e1, hlo, hhi, e2, e3⟩ := bndP_drop j hj4
    rw [b_person H hj4 e2 e3, e1]
    refine l_turn H hd ht (Or.inl ⟨rfl, by omega⟩) hlo hhi _ m (fun f t' hf ht' d' => ?_) (fun w hw hd' => ?_)
    · simp only [obd_some, obd_none, Option.toList_some, Option.toList_none, List.cons_append, List.nil_append, cond_true, cond_false, B20_102, B20_38]
      have hf9 := neg9_ne (t := f) (by have := n_le H; omega)
      simp only [hf9, if_false, B20_109, B20_110, ite_self]
    · simp only [obd_some, obd_none, Option.toList_some, Option.toList_none, List.cons_append, List.nil_append, cond_true, cond_false, B20_102, nJ_add]
      have g := ih (j + 1) (setRow d 3 (u + j) w.1) w.2 (some (.int (nI lo))) (some (.int (nI hi))) hd' hw (by omega)
      have e4 : decide (j + 1 = 0) = false := decide_eq_false (by omega)
      rw [e4] at g
      exact rdEnd_d (setRow_L _ _ _ _) g
theorem l_beast (H : rOk h b i n r a sd) {u : Nat} (hu : u + 6 ≤ 12) : ∀ (m j : Nat) (d : jRD) (t : Nat) (o4 o5 : Option Value), rdOk d → t ≤ n → j + m = 6 →
    rdEnd h b i n r a (R 5 22 39 [some (.ref a), some (.int (nI u)), some (.int (-nI 9)), some (.int (nI j)), o4, o5] [] (rH h b i n r t a d))
      (sNums (cdOf (sC sd) i n) (bndB.drop j) (decide (j = 0)) t) (fun w t' d' => t' = w.2 ∧ d' = setRows d 4 (u + j) w.1 ∧ w.1.length = m) d := by
  intro m
  induction m with
  | zero =>
    intro j d t o4 o5 hd ht hj
    obtain rfl : j = 6 := hj
    rw [B22_39]
    simp (disch := omega) only [nJ_add, nI_mul, nJ_lt, nJ_le, nI_inj, nI_lt0, nI_eq0, nI_gt0, toNat_nI, Nat.lt_irrefl, if_false, B22_140, B22_141]
    exact ⟨t, d, ht, hd, rfl, rfl, rfl, rfl⟩
  | succ m ih =>
    intro j d t o4 o5 hd ht hj
    have hj4 : j < 6 := by omega
    obtain ⟨lo, hi, e1, hlo, hhi, e2, e3⟩ := bndB_drop j hj4
    rw [b_beast H hj4 e2 e3, e1]
    refine l_turn H hd ht (Or.inr ⟨rfl, by omega⟩) hlo hhi _ m (fun f t' hf ht' d' => ?_) (fun w hw hd' => ?_)
    · simp only [obd_some, obd_none, Option.toList_some, Option.toList_none, List.cons_append, List.nil_append, cond_true, cond_false, B22_133, B22_39]
      have hf9 := neg9_ne (t := f) (by have := n_le H; omega)
      simp only [hf9, if_false, B22_140, B22_141, ite_self]
    · simp only [obd_some, obd_none, Option.toList_some, Option.toList_none, List.cons_append, List.nil_append, cond_true, cond_false, B22_133, nJ_add]
      have g := ih (j + 1) (setRow d 4 (u + j) w.1) w.2 (some (.int (nI lo))) (some (.int (nI hi))) hd' hw (by omega)
      have e4 : decide (j + 1 = 0) = false := decide_eq_false (by omega)
      rw [e4] at g
      exact rdEnd_d (setRow_L _ _ _ _) g
end ReaderRows2
