/-! The law writes people and beasts; the whole road. -/
section LFolk
variable {x dr : Nat} {ra ba pa : Nat → Nat} {S0 : jST} {b L : Nat} {xs : Nat → Int32} {a : Nat} {z : Nat × Nat}
/-- one of them, from its kind and place on -/
theorem l_mid {av xi to ty : Nat} (hL : L ≤ 260) (hav : av ≤ 100) (hty : ty < 2) (hxi : xi < 100) (hto : 20 ≤ to) (hto2 : to + cntY ty ≤ 48) (T : List Nat) (hT : T.length ≤ 96) (f : Nat → Int32) (h : jHp) (I : WS x dr ra ba pa S0 b L xs a z f T h) :
    ∃ f' vs h', R 6 100 220 [some (.ref x), some (.ref a), some (.ref b), some (.int (nI av)), none, none, none, some (.int (nI T.length)), some (.int (nI xi)), some (.int (nI ty)), some (.int (nI to)), none, none, none, none] [] h = R 6 100 166 [some (.ref x), some (.ref a), some (.ref b), some (.int (nI av)), none, none, none, some (.int (nI (T ++ 59 :: codY ty :: tNums vs true).length)), some (.int (nI (xi + 1))), none, none, none, none, none, none] [.int (nI (xi + 1))] h' ∧ inB (bndY ty) vs ∧ WS x dr ra ba pa S0 b L xs a z f' (T ++ 59 :: codY ty :: tNums vs true) h' ∧ (∀ j, j < cntY ty → f' (to + j) = nI (vs.getD j 0)) ∧ ∀ t, t < to ∨ to + cntY ty ≤ t → f' t = f t := by
  rw [B100_220, nJ_add, nJ_add, m_cell I.2.2.1 hL (by omega)]
  simp only [obd_some, obd_none, Option.toList_some, Option.toList_none, List.cons_append, List.nil_append, cond_true, cond_false]
  generalize cellV L xs (av + 1 + xi) = g
  obtain ⟨h1, e1, I1⟩ := I.put (c := 59) (by omega) (by omega)
  rw [B100_230, e1]
  simp only [obd_some, obd_none, Option.toList_some, Option.toList_none, List.cons_append, List.nil_append, cond_true, cond_false]
  have el : T.length + 1 = (T ++ [59]).length := by rw [List.length_append, List.length_cons, List.length_nil]
  have hc : codY ty < 128 := by unfold codY; split <;> omega
  obtain ⟨h2, e2, I2⟩ := I1.put hc (by omega)
  have e3 : R 6 100 240 [some (.ref x), some (.ref a), some (.ref b), some (.int (nI av)), none, none, none, some (.int (nI T.length)), some (.int (nI xi)), some (.int (nI ty)), some (.int (nI to)), some (.int g), none, none, none] [.int (nI (T.length + 1))] h1 = R 6 100 267 [some (.ref x), some (.ref a), some (.ref b), some (.int (nI av)), none, none, none, some (.int (nI (T ++ [59] ++ [codY ty] ++ tNums [] true).length)), some (.int (nI xi)), some (.int (nI ty)), some (.int (nI to)), some (.int g), some (.int (nI 0)), none, none] [.int (nI 0)] h2 := by
    rw [B100_240, el]
    have e4 : ∀ y : Nat, y = codY ty → R 6 100 257 [some (.ref x), some (.ref a), some (.ref b), some (.int (nI av)), none, none, none, some (.int (nI (T ++ [59]).length)), some (.int (nI xi)), some (.int (nI ty)), some (.int (nI to)), some (.int g), none, none, none] [.int (nI y), .int (nI (T ++ [59]).length), .ref x] h1 = R 6 100 267 [some (.ref x), some (.ref a), some (.ref b), some (.int (nI av)), none, none, none, some (.int (nI (T ++ [59] ++ [codY ty] ++ tNums [] true).length)), some (.int (nI xi)), some (.int (nI ty)), some (.int (nI to)), some (.int g), some (.int (nI 0)), none, none] [.int (nI 0)] h2 := by
      intro y hy
      rw [B100_257, hy, e2]
      simp only [obd_some, obd_none, Option.toList_some, Option.toList_none, List.cons_append, List.nil_append, cond_true, cond_false]
      rw [B100_260, B100_265, show tNums [] true = [] from rfl, List.append_nil, List.length_append (as := T ++ [59]), List.length_cons, List.length_nil]
    rcases (by omega : ty = 0 ∨ ty = 1) with rfl | rfl
    · rw [if_pos (show nI 0 = 0 from rfl)]; exact e4 112 rfl
    · rw [if_neg (show ¬ nI 1 = 0 by decide)]; exact e4 98 rfl
  rw [e3]
  have I2' : WS x dr ra ba pa S0 b L xs a z f (T ++ [59] ++ [codY ty] ++ tNums [] true) h2 := by
    rw [show tNums [] true = [] from rfl, List.append_nil]; exact I2
  obtain ⟨f', vs, h', g1, g2, g3, g4, g5⟩ := l_wn (nI av) g hty hxi hto hto2 (T ++ [59] ++ [codY ty]) (by rw [List.length_append, List.length_append, List.length_cons, List.length_cons, List.length_nil]; omega) f (cntY ty) 0 [] f h2 (by omega) rfl (fun j hj => absurd hj (Nat.not_lt_zero j)) I2' (fun j hj => absurd hj (Nat.not_lt_zero j)) (fun t _ => rfl)
  have eT : ∀ vs, T ++ [59] ++ [codY ty] ++ tNums vs true = T ++ 59 :: codY ty :: tNums vs true := by
    intro vs
    rw [List.append_assoc, List.append_assoc]; rfl
  rw [eT vs] at g1 g3
  exact ⟨f', vs, h', g1, g2, g3, g4, g5⟩
def ysB (ty : Nat) (ys : List (List Nat)) : Prop := ∀ y, y ∈ ys → inB (bndY ty) y
theorem ysB_snoc {ty : Nat} {ys : List (List Nat)} {y : List Nat} (h : ysB ty ys) (hy : inB (bndY ty) y) : ysB ty (ys ++ [y]) := fun w hw => by
  rcases List.mem_append.mp hw with q | q
  · exact h w q
  · rw [List.mem_singleton] at q; rw [q]; exact hy
theorem HdA.same {f f' : Nat → Int32} {n e q : Nat} (H : HdA f n e q) (h : ∀ t, t < 20 → f' t = f t) : HdA f' n e q :=
  ⟨(h 0 (by omega)).trans H.1, (h 1 (by omega)).trans H.2.1, (h 2 (by omega)).trans H.2.2.1, (h 3 (by omega)).trans H.2.2.2.1, (h 4 (by omega)).trans H.2.2.2.2⟩
theorem PcA.same {f f' : Nat → Int32} {ws : List (Nat × Nat)} (H : PcA f ws) (hw : ws.length ≤ 6) (h : ∀ t, t < 20 → f' t = f t) : PcA f' ws := fun k hk => ⟨(h _ (by omega)).trans (H k hk).1, (h _ (by omega)).trans (H k hk).2⟩
theorem YsA.same {f f' : Nat → Int32} {to cnt : Nat} {ys : List (List Nat)} (H : YsA f to cnt ys) (h : ∀ t, to ≤ t → t < to + cnt * ys.length → f' t = f t) : YsA f' to cnt ys := fun p j hp hj => by
  have h1 : cnt * p + cnt ≤ cnt * ys.length := by rw [← Nat.mul_succ]; exact Nat.mul_le_mul_left _ hp
  exact (h _ (by omega) (by omega)).trans (H p j hp hj)
theorem YsA.snoc {f f' : Nat → Int32} {to cnt n : Nat} {ys : List (List Nat)} {y : List Nat} (H : YsA f to cnt ys) (hn : ys.length = n) (h1 : ∀ j, j < cnt → f' (to + cnt * n + j) = nI (y.getD j 0)) (h2 : ∀ t, t < to + cnt * n → f' t = f t) : YsA f' to cnt (ys ++ [y]) := fun p j hp hj => by
  rw [List.length_append, List.length_cons, List.length_nil, hn] at hp
  by_cases c : p = n
  · subst c
    have es := getD_s ys y []
    rw [hn] at es
    rw [es]; exact h1 j hj
  · have h3 : cnt * p + cnt ≤ cnt * n := by rw [← Nat.mul_succ]; exact Nat.mul_le_mul_left _ (by omega)
    rw [getD_l _ (by omega), h2 _ (by omega)]
    exact H p j (by omega) hj
/-- all people -/
theorem l_we {av n e q : Nat} (hL : L ≤ 260) (hav : av ≤ 100) (he : e ≤ 3) (hq : q ≤ 2) (ws : List (Nat × Nat)) (hws : ws.length ≤ 3) : ∀ (m : Nat) (ys : List (List Nat)) (f : Nat → Int32) (h : jHp), ys.length + m = e → ysB 0 ys → WS x dr ra ba pa S0 b L xs a z f (109 :: tPcs ws ++ tFolk 112 ys) h → HdA f n e q → PcA f ws → YsA f 20 4 ys →
    ∃ f' ys' h', R 6 100 166 [some (.ref x), some (.ref a), some (.ref b), some (.int (nI av)), none, none, none, some (.int (nI (109 :: tPcs ws ++ tFolk 112 ys).length)), some (.int (nI ys.length)), none, none, none, none, none, none] [.int (nI ys.length)] h = R 6 100 166 [some (.ref x), some (.ref a), some (.ref b), some (.int (nI av)), none, none, none, some (.int (nI (109 :: tPcs ws ++ tFolk 112 ys').length)), some (.int (nI e)), none, none, none, none, none, none] [.int (nI e)] h' ∧ ys'.length = e ∧ ysB 0 ys' ∧ WS x dr ra ba pa S0 b L xs a z f' (109 :: tPcs ws ++ tFolk 112 ys') h' ∧ HdA f' n e q ∧ PcA f' ws ∧ YsA f' 20 4 ys' := by
  intro m
  induction m with
  | zero =>
    intro ys f h hk hb I hd hp hy
    have hk : ys.length = e := hk
    exact ⟨f, ys, h, by rw [hk], hk, hb, I, hd, hp, hy⟩
  | succ m ih =>
    intro ys f h hk hb I hd hp hy
    have hx : ys.length < e := by omega
    have hl : (109 :: tPcs ws ++ tFolk 112 ys).length ≤ 96 := by
      have h1 := tFolk_len 112 (n := 4) ys (fun y hy => by rw [inB_len (hb y hy)]; exact Nat.le_refl 4)
      rw [List.length_append, List.length_cons, tPcs_len]
      omega
    rw [B100_166, I.get (by omega), obd_some, I.get (by omega), obd_some, hd.2.1, hd.2.2.1, nJ_add, if_pos (show nI ys.length < nI (e + q) by rw [nJ_lt (by omega) (by omega)]; omega), B100_178, I.get (by omega), obd_some, hd.2.1, if_pos (show nI ys.length < nI e by rw [nJ_lt (by omega) (by omega)]; exact hx), B100_189, B100_191, if_pos (show nI 0 = 0 from rfl), nI_mul, nJ_add, B100_218]
    obtain ⟨f1, vs, h1, g1, g2, g3, g4, g5⟩ := l_mid (xi := ys.length) (to := 20 + 4 * ys.length) (ty := 0) hL hav (by omega) (by omega) (by omega) (show 20 + 4 * ys.length + 4 ≤ 48 by omega) _ hl f h I
    rw [g1]
    have g4 : ∀ j, j < 4 → f1 (20 + 4 * ys.length + j) = nI (vs.getD j 0) := g4
    have g5 : ∀ t, t < 20 + 4 * ys.length ∨ 20 + 4 * ys.length + 4 ≤ t → f1 t = f t := g5
    have eT : 109 :: tPcs ws ++ tFolk 112 ys ++ 59 :: codY 0 :: tNums vs true = 109 :: tPcs ws ++ tFolk 112 (ys ++ [vs]) := by
      rw [tFolk_snoc, List.append_assoc]; rfl
    rw [eT] at g3
    rw [eT]
    have hl2 : ys.length + 1 = (ys ++ [vs]).length := by rw [List.length_append, List.length_cons, List.length_nil]
    rw [hl2]
    exact ih (ys ++ [vs]) f1 h1 (by rw [← hl2]; omega) (ysB_snoc hb g2) g3 (hd.same (fun t ht => g5 t (by omega))) (hp.same (by omega) (fun t ht => g5 t (by omega))) (hy.snoc rfl g4 (fun t ht => g5 t (Or.inl ht)))
/-- all beasts, and the end -/
theorem l_wb {av n e q : Nat} (hL : L ≤ 260) (hav : av ≤ 100) (he : e ≤ 3) (hq : q ≤ 2) (ws : List (Nat × Nat)) (hws : ws.length ≤ 3) (es : List (List Nat)) (hes : es.length = e) (heb : ysB 0 es) : ∀ (m : Nat) (ys : List (List Nat)) (f : Nat → Int32) (h : jHp), ys.length + m = q → ysB 1 ys → WS x dr ra ba pa S0 b L xs a z f (109 :: tPcs ws ++ tFolk 112 es ++ tFolk 98 ys) h → HdA f n e q → PcA f ws → YsA f 20 4 es → YsA f 36 6 ys →
    ∃ f' ys' h', R 6 100 166 [some (.ref x), some (.ref a), some (.ref b), some (.int (nI av)), none, none, none, some (.int (nI (109 :: tPcs ws ++ tFolk 112 es ++ tFolk 98 ys).length)), some (.int (nI (e + ys.length))), none, none, none, none, none, none] [.int (nI (e + ys.length))] h = some (some (.int (nI (109 :: tPcs ws ++ tFolk 112 es ++ tFolk 98 ys').length)), h') ∧ ys'.length = q ∧ ysB 1 ys' ∧ WS x dr ra ba pa S0 b L xs a z f' (109 :: tPcs ws ++ tFolk 112 es ++ tFolk 98 ys') h' ∧ HdA f' n e q ∧ PcA f' ws ∧ YsA f' 20 4 es ∧ YsA f' 36 6 ys' := by
  intro m
  induction m with
  | zero =>
    intro ys f h hk hb I hd hp hy hz
    have hk : ys.length = q := hk
    refine ⟨f, ys, h, ?_, hk, hb, I, hd, hp, hy, hz⟩
    rw [B100_166, I.get (by omega), obd_some, I.get (by omega), obd_some, hd.2.1, hd.2.2.1, nJ_add, hk, if_neg (show ¬ nI (e + q) < nI (e + q) by rw [nJ_lt (by omega) (by omega)]; omega)]
  | succ m ih =>
    intro ys f h hk hb I hd hp hy hz
    have hx : ys.length < q := by omega
    have hl : (109 :: tPcs ws ++ tFolk 112 es ++ tFolk 98 ys).length ≤ 96 := by
      have h1 := tFolk_len 112 (n := 4) es (fun y hy => by rw [inB_len (heb y hy)]; exact Nat.le_refl 4)
      have h2 := tFolk_len 98 (n := 6) ys (fun y hy => by rw [inB_len (hb y hy)]; exact Nat.le_refl 6)
      rw [List.length_append, List.length_append, List.length_cons, tPcs_len]
      omega
    rw [B100_166, I.get (by omega), obd_some, I.get (by omega), obd_some, hd.2.1, hd.2.2.1, nJ_add, if_pos (show nI (e + ys.length) < nI (e + q) by rw [nJ_lt (by omega) (by omega)]; omega), B100_178, I.get (by omega), obd_some, hd.2.1, if_neg (show ¬ nI (e + ys.length) < nI e by rw [nJ_lt (by omega) (by omega)]; omega), B100_189, B100_191, if_neg (show ¬ nI 1 = 0 by decide), I.get (by omega), obd_some, hd.2.1, B100_206, nI_sub (show e ≤ e + ys.length by omega), show e + ys.length - e = ys.length by omega, nI_mul, nJ_add, B100_218]
    obtain ⟨f1, vs, h1, g1, g2, g3, g4, g5⟩ := l_mid (xi := e + ys.length) (to := 36 + 6 * ys.length) (ty := 1) hL hav (by omega) (by omega) (by omega) (show 36 + 6 * ys.length + 6 ≤ 48 by omega) _ hl f h I
    rw [g1]
    have g4 : ∀ j, j < 6 → f1 (36 + 6 * ys.length + j) = nI (vs.getD j 0) := g4
    have g5 : ∀ t, t < 36 + 6 * ys.length ∨ 36 + 6 * ys.length + 6 ≤ t → f1 t = f t := g5
    have eT : 109 :: tPcs ws ++ tFolk 112 es ++ tFolk 98 ys ++ 59 :: codY 1 :: tNums vs true = 109 :: tPcs ws ++ tFolk 112 es ++ tFolk 98 (ys ++ [vs]) := by
      rw [tFolk_snoc, List.append_assoc (cs := 59 :: codY 1 :: tNums vs true)]; rfl
    rw [eT] at g3
    rw [eT]
    have hl2 : e + ys.length + 1 = e + (ys ++ [vs]).length := by rw [List.length_append, List.length_cons, List.length_nil]; omega
    rw [hl2]
    exact ih (ys ++ [vs]) f1 h1 (by omega) (ysB_snoc hb g2) g3 (hd.same (fun t ht => g5 t (by omega))) (hp.same (by omega) (fun t ht => g5 t (by omega))) (hy.same (fun t h1 h2 => g5 t (by omega))) (hz.snoc rfl g4 (fun t ht => g5 t (Or.inl ht)))
/-- the whole of it -/
theorem m_write {av n0 e0 : Nat} (hL : L ≤ 260) (hav : av ≤ 100) (hn0 : 0 < n0) (hn3 : n0 ≤ 3) (he0 : 0 < e0) (he3 : e0 ≤ 3) {f : Nat → Int32} {T : List Nat} {h : jHp} (I : WS x dr ra ba pa S0 b L xs a z f T h) :
    ∃ f' w h', mc 100 [.ref x, .ref a, .ref b, .int (nI av), .int (nI n0), .int (nI e0)] h = some (some (.int (nI (tText w).length)), h') ∧ txOk w ∧ w.1.length ≤ n0 ∧ w.2.1.length ≤ e0 ∧ (tText w).length ≤ 120 ∧ WS x dr ra ba pa S0 b L xs a z f' (tText w) h' ∧ HdA f' w.1.length w.2.1.length w.2.2.length ∧ PcA f' w.1 ∧ YsA f' 20 4 w.2.1 ∧ YsA f' 36 6 w.2.2 := by
  rw [M100, m_cell I.2.2.1 hL (by omega)]
  simp only [obd_some, obd_none, Option.toList_some, Option.toList_none, List.cons_append, List.nil_append, cond_true, cond_false]
  generalize cellV L xs av = cc
  rw [B100_5, m_low _ hn0 (by omega)]
  simp only [obd_some, obd_none, Option.toList_some, Option.toList_none, List.cons_append, List.nil_append, cond_true, cond_false]
  have q1 := lowN_lt cc hn0
  generalize lowN cc n0 = n at q1 ⊢
  obtain ⟨e1, I1⟩ := I.set (t := 0) (nI (1 + n)) (by omega)
  rw [B100_17, nJ_add, e1, obd_some, B100_28, m_low _ he0 (by omega)]
  simp only [obd_some, obd_none, Option.toList_some, Option.toList_none, List.cons_append, List.nil_append, cond_true, cond_false]
  have q2 := lowN_lt (cc >>> (nI 3 &&& 31)) he0
  generalize lowN (cc >>> (nI 3 &&& 31)) e0 = e at q2 ⊢
  obtain ⟨e2, I2⟩ := I1.set (t := 1) (nI (1 + e)) (by omega)
  rw [B100_31, nJ_add, e2, obd_some, m_low _ (by omega) (by omega)]
  simp only [obd_some, obd_none, Option.toList_some, Option.toList_none, List.cons_append, List.nil_append, cond_true, cond_false]
  have q3 := lowN_lt (cc >>> (nI 5 &&& 31)) (n := 3) (by omega)
  generalize lowN (cc >>> (nI 5 &&& 31)) 3 = q at q3 ⊢
  obtain ⟨e3, I3⟩ := I2.set (t := 2) (nI q) (by omega)
  obtain ⟨e4, I4⟩ := I3.set (t := 3) (-nI 9) (by omega)
  obtain ⟨e5, I5⟩ := I4.set (t := 4) (-nI 9) (by omega)
  rw [B100_43, e3, obd_some, e4, obd_some, e5, obd_some]
  have hd0 : HdA (upd (upd (upd (upd (upd f 0 (nI (1 + n))) 1 (nI (1 + e))) 2 (nI q)) 3 (-nI 9)) 4 (-nI 9)) (1 + n) (1 + e) q := ⟨rfl, rfl, rfl, rfl, rfl⟩
  generalize upd (upd (upd (upd (upd f 0 (nI (1 + n))) 1 (nI (1 + e))) 2 (nI q)) 3 (-nI 9)) 4 (-nI 9) = f5 at I5 hd0 ⊢
  have I6 := I5.nil
  obtain ⟨h7, e7, I7⟩ := I6.put (c := 109) (by omega) (by rw [List.length_nil]; omega)
  rw [B100_54, show nI 0 = nI ([] : List Nat).length from rfl, e7]
  simp only [obd_some, obd_none, Option.toList_some, Option.toList_none, List.cons_append, List.nil_append, cond_true, cond_false]
  rw [B100_61, B100_66]
  obtain ⟨f8, ws, h8, e8, w1, w2, I8, d8, p8⟩ := l_wp cc (nI av) (n := 1 + n) (e := 1 + e) (q := q) (by omega) (1 + n) 0 [] f5 h7 (by omega) rfl (fun y hy => absurd hy List.not_mem_nil) I7 hd0 (fun k hk => absurd hk (Nat.not_lt_zero k))
  have e8' : R 6 100 68 [some (.ref x), some (.ref a), some (.ref b), some (.int (nI av)), none, none, some (.int cc), some (.int (nI (([] : List Nat).length + 1))), some (.int (nI 0)), none, none, none, none, none, none] [.int (nI 0)] h7 = _ := e8
  rw [e8']
  obtain ⟨f9, es, h9, e9, s1, s2, I9, d9, p9, y9⟩ := l_we hL hav (n := 1 + n) (e := 1 + e) (q := q) (by omega) (by omega) ws (by omega) (1 + e) [] f8 h8 (by rw [List.length_nil]; omega) (fun y hy => absurd hy List.not_mem_nil) (by show WS _ _ _ _ _ _ _ _ _ _ _ _ (109 :: tPcs ws ++ []) _; rw [List.append_nil]; exact I8) d8 p8 (fun p j hp => absurd hp (Nat.not_lt_zero p))
  rw [show tFolk 112 [] = [] from rfl, List.append_nil, show ([] : List (List Nat)).length = 0 from rfl] at e9
  rw [e9]
  obtain ⟨fA, bs, hA, eA, b1, b2, IA, dA, pA, yA, zA⟩ := l_wb hL hav (n := 1 + n) (e := 1 + e) (q := q) (by omega) (by omega) ws (by omega) es s1 s2 q [] f9 h9 (by rw [List.length_nil]; omega) (fun y hy => absurd hy List.not_mem_nil) (by show WS _ _ _ _ _ _ _ _ _ _ _ _ (109 :: tPcs ws ++ tFolk 112 es ++ []) _; rw [List.append_nil]; exact I9) d9 p9 y9 (fun p j hp => absurd hp (Nat.not_lt_zero p))
  rw [show tFolk 98 [] = [] from rfl, List.append_nil, show 1 + e + ([] : List (List Nat)).length = 1 + e from rfl] at eA
  have eT : 109 :: tPcs ws ++ tFolk 112 es ++ tFolk 98 bs = tText (ws, es, bs) := by
    rw [List.append_assoc]; rfl
  rw [eT] at eA IA
  refine ⟨fA, (ws, es, bs), hA, eA, ⟨by show 0 < ws.length; omega, by show ws.length ≤ 3; omega, by show 0 < es.length; omega, by show es.length ≤ 3; omega, by show bs.length ≤ 2; omega, w2, s2, b2⟩, by show ws.length ≤ n0; omega, by show es.length ≤ e0; omega, ?_, IA, ?_, pA, yA, zA⟩
  · have h1 := tFolk_len 112 (n := 4) es (fun y hy => by rw [inB_len (s2 y hy)]; exact Nat.le_refl 4)
    have h2 := tFolk_len 98 (n := 6) bs (fun y hy => by rw [inB_len (b2 y hy)]; exact Nat.le_refl 6)
    rw [← eT, List.length_append, List.length_append, List.length_cons, tPcs_len]
    omega
  · show HdA fA ws.length es.length bs.length
    rw [w1, s1, b1]; exact dA
end LFolk
