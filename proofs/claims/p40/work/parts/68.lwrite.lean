/-! The law writes a road: its pieces, then its people and beasts. -/
def HdA (f : Nat → Int32) (n e q : Nat) : Prop := f 0 = nI n ∧ f 1 = nI e ∧ f 2 = nI q ∧ f 3 = -nI 9 ∧ f 4 = -nI 9
def PcA (f : Nat → Int32) (ws : List (Nat × Nat)) : Prop := ∀ k, k < ws.length → f (8 + k) = nI (ws.getD k (0, 0)).1 ∧ f (14 + k) = nI (ws.getD k (0, 0)).2
def YsA (f : Nat → Int32) (to cnt : Nat) (ys : List (List Nat)) : Prop := ∀ p j, p < ys.length → j < cnt → f (to + cnt * p + j) = nI ((ys.getD p []).getD j 0)
def pcB (ws : List (Nat × Nat)) : Prop := ∀ q, q ∈ ws → 0 < q.1 ∧ q.1 ≤ 9 ∧ q.2 ≤ 2
theorem HdA.set {f : Nat → Int32} {n e q t : Nat} (H : HdA f n e q) (ht : 5 ≤ t) (v : Int32) : HdA (upd f t v) n e q :=
  ⟨(upd_n (by omega)).trans H.1, (upd_n (by omega)).trans H.2.1, (upd_n (by omega)).trans H.2.2.1, (upd_n (by omega)).trans H.2.2.2.1, (upd_n (by omega)).trans H.2.2.2.2⟩
theorem tPcs_snoc (w : Nat × Nat) : ∀ ws, tPcs (ws ++ [w]) = tPcs ws ++ [48 + w.1] ++ [48 + w.2]
  | [] => rfl
  | u :: ws => by
    show (48 + u.1) :: (48 + u.2) :: tPcs (ws ++ [w]) = (48 + u.1) :: (48 + u.2) :: (tPcs ws ++ [48 + w.1] ++ [48 + w.2])
    rw [tPcs_snoc w ws]
theorem tNums_snoc (v : Nat) : ∀ (vs : List Nat) (first : Bool), tNums (vs ++ [v]) first = tNums vs first ++ ((if first = true ∧ vs = [] then [] else [44]) ++ tNum v)
  | [], true => by
    show [] ++ (tNum v ++ []) = [] ++ ((if true = true ∧ ([] : List Nat) = [] then [] else [44]) ++ tNum v)
    rw [if_pos ⟨rfl, rfl⟩, List.append_nil]; rfl
  | [], false => by
    show [44] ++ (tNum v ++ []) = [] ++ ((if false = true ∧ ([] : List Nat) = [] then [] else [44]) ++ tNum v)
    rw [if_neg (fun z => by cases z.1), List.append_nil]; rfl
  | u :: vs, first => by
    show (if first = true then [] else [44]) ++ (tNum u ++ tNums (vs ++ [v]) false) = ((if first = true then [] else [44]) ++ (tNum u ++ tNums vs false)) ++ ((if first = true ∧ (u :: vs) = [] then [] else [44]) ++ tNum v)
    rw [tNums_snoc v vs false, if_neg (show ¬ (false = true ∧ vs = []) from fun z => by cases z.1), if_neg (show ¬ (first = true ∧ (u :: vs) = []) from fun z => by cases z.2), List.append_assoc, List.append_assoc]
def sepT (vs : List Nat) : List Nat := if vs = [] then [] else [44]
theorem tNums_snocT (v : Nat) (vs : List Nat) : tNums (vs ++ [v]) true = tNums vs true ++ (sepT vs ++ tNum v) := by
  rw [tNums_snoc]
  unfold sepT
  by_cases c : vs = []
  · rw [if_pos ⟨rfl, c⟩, if_pos c]
  · rw [if_neg (fun z => c z.2), if_neg c]
theorem tFolk_snoc (code : Nat) (y : List Nat) : ∀ ys, tFolk code (ys ++ [y]) = tFolk code ys ++ 59 :: code :: tNums y true
  | [] => by
    show 59 :: code :: (tNums y true ++ []) = 59 :: code :: tNums y true
    rw [List.append_nil]
  | u :: ys => by
    show 59 :: code :: (tNums u true ++ tFolk code (ys ++ [y])) = 59 :: code :: (tNums u true ++ tFolk code ys) ++ 59 :: code :: tNums y true
    rw [tFolk_snoc code y ys, List.cons_append, List.cons_append, List.append_assoc]
section LWrite
variable {x dr : Nat} {ra ba pa : Nat → Nat} {S0 : jST} {b L : Nat} {xs : Nat → Int32} {a : Nat} {z : Nat × Nat}
theorem l_wp (cc av : Int32) {n e q : Nat} (hn : n ≤ 3) : ∀ (m k : Nat) (ws : List (Nat × Nat)) (f : Nat → Int32) (h : jHp), k + m = n → ws.length = k → pcB ws → WS x dr ra ba pa S0 b L xs a z f (109 :: tPcs ws) h → HdA f n e q → PcA f ws →
    ∃ f' ws' h', R 6 100 68 [some (.ref x), some (.ref a), some (.ref b), some (.int av), none, none, some (.int cc), some (.int (nI (109 :: tPcs ws).length)), some (.int (nI k)), none, none, none, none, none, none] [.int (nI k)] h = R 6 100 166 [some (.ref x), some (.ref a), some (.ref b), some (.int av), none, none, none, some (.int (nI (109 :: tPcs ws').length)), some (.int (nI 0)), none, none, none, none, none, none] [.int (nI 0)] h' ∧ ws'.length = n ∧ pcB ws' ∧ WS x dr ra ba pa S0 b L xs a z f' (109 :: tPcs ws') h' ∧ HdA f' n e q ∧ PcA f' ws' := by
  intro m
  induction m with
  | zero =>
    intro k ws f h hk hw hb I hd hp
    obtain rfl : k = n := hk
    refine ⟨f, ws, h, ?_, hw, hb, I, hd, hp⟩
    rw [B100_68, I.get (by omega), obd_some, hd.1, if_neg (show ¬ nI k < nI k by rw [nJ_lt (by omega) (by omega)]; omega), B100_164]
  | succ m ih =>
    intro k ws f h hk hw hb I hd hp
    have hkn : k < n := by omega
    have hlen : (109 :: tPcs ws).length = 2 * k + 1 := by rw [List.length_cons, tPcs_len, hw]
    rw [B100_68, I.get (by omega), obd_some, hd.1, if_pos (show nI k < nI n by rw [nJ_lt (by omega) (by omega)]; exact hkn), B100_81, m_low _ (by omega) (by omega)]
    simp only [obd_some, obd_none, Option.toList_some, Option.toList_none, List.cons_append, List.nil_append, cond_true, cond_false]
    generalize hu : lowN (cc >>> ((nI 7 + nI 3 * nI k) &&& 31)) 9 = u
    have hu9 : u < 9 := by rw [← hu]; exact lowN_lt _ (by omega)
    obtain ⟨e1, I1⟩ := I.set (t := 8 + k) (nI (1 + u)) (by omega)
    rw [B100_96, nJ_add, nJ_add, e1, obd_some, B100_109, m_low _ (by omega) (by omega)]
    simp only [obd_some, obd_none, Option.toList_some, Option.toList_none, List.cons_append, List.nil_append, cond_true, cond_false]
    generalize hg : lowN (cc >>> ((nI 9 + nI 3 * nI k) &&& 31)) 3 = g
    have hg3 : g < 3 := by rw [← hg]; exact lowN_lt _ (by omega)
    obtain ⟨e2, I2⟩ := I1.set (t := 14 + k) (nI g) (by omega)
    rw [B100_118, nJ_add, e2, obd_some, nJ_add, I2.get (by omega), obd_some, upd_n (by omega), upd_s, B100_131, nJ_add]
    obtain ⟨h3, e3, I3⟩ := I2.put (c := 48 + (1 + u)) (by omega) (by omega)
    rw [e3]
    simp only [obd_some, obd_none, Option.toList_some, Option.toList_none, List.cons_append, List.nil_append, cond_true, cond_false]
    rw [B100_135, nJ_add, I3.get (by omega), obd_some, upd_s, B100_149, nJ_add]
    have el3 : (109 :: tPcs ws).length + 1 = (109 :: tPcs ws ++ [48 + (1 + u)]).length := by rw [List.length_append]; rfl
    obtain ⟨h4, e4, I4⟩ := I3.put (c := 48 + g) (by omega) (by omega)
    rw [el3, e4]
    simp only [obd_some, obd_none, Option.toList_some, Option.toList_none, List.cons_append, List.nil_append, cond_true, cond_false]
    rw [B100_153, B100_66, nJ_add]
    have eT : 109 :: tPcs ws ++ [48 + (1 + u)] ++ [48 + g] = 109 :: tPcs (ws ++ [(1 + u, g)]) := by
      rw [tPcs_snoc]; rfl
    have el4 : (109 :: (tPcs ws ++ [48 + (1 + u)])).length + 1 = (109 :: tPcs (ws ++ [(1 + u, g)])).length := by
      rw [← eT, List.length_append (bs := [48 + g])]; rfl
    rw [eT] at I4
    rw [el4]
    refine ih (k + 1) (ws ++ [(1 + u, g)]) _ h4 (by omega) (by rw [List.length_append, List.length_cons, List.length_nil, hw]) (fun w hwm => ?_) I4 ((hd.set (by omega) _).set (by omega) _) (fun j hj => ?_)
    · rcases List.mem_append.mp hwm with y | y
      · exact hb w y
      · rw [List.mem_singleton] at y
        subst y
        exact ⟨by show 0 < 1 + u; omega, by show 1 + u ≤ 9; omega, by show g ≤ 2; omega⟩
    · rw [List.length_append, List.length_cons, List.length_nil, hw] at hj
      by_cases c : j = k
      · subst c
        rw [upd_n (by omega), upd_s, upd_s]
        have es := getD_s ws (1 + u, g) (0, 0)
        rw [hw] at es
        rw [es]
        exact ⟨rfl, rfl⟩
      · rw [upd_n (by omega), upd_n (by omega), upd_n (by omega), upd_n (by omega), getD_l _ (by omega)]
        exact hp j (by omega)
theorem and1 (v : Int32) : v &&& nI 1 = nI 0 ∨ v &&& nI 1 = nI 1 := by
  have e : (v &&& nI 1).toBitVec = BitVec.setWidth 32 (BitVec.ofBool (v.toBitVec.getLsbD 0)) := by
    rw [Int32.toBitVec_and]
    exact BitVec.and_one_eq_setWidth_ofBool_getLsbD
  cases q : v.toBitVec.getLsbD 0 with
  | false =>
    rw [q] at e
    exact Or.inl (Int32.toBitVec_inj.mp (e.trans (by decide)))
  | true =>
    rw [q] at e
    exact Or.inr (Int32.toBitVec_inj.mp (e.trans (by decide)))
def bndY (ty : Nat) : List (Nat × Nat) := if ty = 0 then bndL else bndB
def cntY (ty : Nat) : Nat := if ty = 0 then 4 else 6
def codY (ty : Nat) : Nat := if ty = 0 then 112 else 98
/-- the law's next number of a person or beast -/
theorem l_wv (av mv g : Int32) {xi to w ty : Nat} (h : jHp) (hty : ty < 2) (hw : w < cntY ty) : ∃ v, ((bndY ty).getD w (0, 0)).1 ≤ v ∧ v ≤ ((bndY ty).getD w (0, 0)).2 ∧ v ≤ 99 ∧
    R 6 100 281 [some (.ref x), some (.ref a), some (.ref b), some (.int av), none, none, none, some (.int mv), some (.int (nI xi)), some (.int (nI ty)), some (.int (nI to)), some (.int g), some (.int (nI w)), none, none] [] h = R 6 100 399 [some (.ref x), some (.ref a), some (.ref b), some (.int av), none, none, none, some (.int mv), some (.int (nI xi)), some (.int (nI ty)), some (.int (nI to)), some (.int g), some (.int (nI w)), none, some (.int (nI v))] [] h := by
  rw [B100_281]
  generalize g >>> ((nI 5 * nI w) &&& 31) = hv
  rcases (by omega : ty = 0 ∨ ty = 1) with rfl | rfl
  · have hw : w < 4 := hw
    by_cases w3 : w < 3
    · have hq := lowN_lt hv (n := 30) (by omega)
      refine ⟨5 + lowN hv 30, ?_, ?_, by omega, ?_⟩
      · rcases (by omega : w = 0 ∨ w = 1 ∨ w = 2) with rfl | rfl | rfl <;> (show 1 ≤ _; omega)
      · rcases (by omega : w = 0 ∨ w = 1 ∨ w = 2) with rfl | rfl | rfl <;> (show _ ≤ 34; omega)
      · rw [if_pos (show nI w < nI 3 by rw [nJ_lt (by omega) (by omega)]; exact w3), B100_296, if_pos (show nI 0 = 0 from rfl), m_low _ (by omega) (by omega)]
        simp only [obd_some, obd_none, Option.toList_some, Option.toList_none, List.cons_append, List.nil_append, cond_true, cond_false]
        rw [B100_321, nJ_add, B100_397]
    · obtain rfl : w = 3 := by omega
      rw [if_neg (show ¬ nI 3 < nI 3 by decide), B100_325, if_pos (show nI 0 = 0 from rfl)]
      by_cases c : hv &&& nI 3 = 0
      · have hq := lowN_lt (hv >>> (nI 2 &&& 31)) (n := 30) (by omega)
        refine ⟨lowN (hv >>> (nI 2 &&& 31)) 30, Nat.zero_le _, by show _ ≤ 99; omega, by omega, ?_⟩
        rw [if_pos c, B100_387, m_low _ (by omega) (by omega)]
        simp only [obd_some, obd_none, Option.toList_some, Option.toList_none, List.cons_append, List.nil_append, cond_true, cond_false]
        rw [B100_392, B100_397]
      · refine ⟨99, Nat.zero_le _, by show 99 ≤ 99; omega, Nat.le_refl _, ?_⟩
        rw [if_neg c, B100_397]
  · have hw : w < 6 := hw
    have n1 : ¬ nI 1 = 0 := by decide
    by_cases w3 : w < 3
    · have hq := lowN_lt hv (n := 12) (by omega)
      refine ⟨1 + lowN hv 12, ?_, ?_, by omega, ?_⟩
      · rcases (by omega : w = 0 ∨ w = 1 ∨ w = 2) with rfl | rfl | rfl <;> (show 1 ≤ _; omega)
      · rcases (by omega : w = 0 ∨ w = 1 ∨ w = 2) with rfl | rfl | rfl <;> (show _ ≤ 60; omega)
      · rw [if_pos (show nI w < nI 3 by rw [nJ_lt (by omega) (by omega)]; exact w3), B100_296, if_neg n1, m_low _ (by omega) (by omega)]
        simp only [obd_some, obd_none, Option.toList_some, Option.toList_none, List.cons_append, List.nil_append, cond_true, cond_false]
        rw [B100_309, nJ_add, B100_397]
    · rw [if_neg (show ¬ nI w < nI 3 by rw [nJ_lt (by omega) (by omega)]; exact w3), B100_325, if_neg n1]
      rcases (by omega : w = 3 ∨ w = 4 ∨ w = 5) with rfl | rfl | rfl
      · rw [if_pos rfl, B100_341]
        rcases and1 hv with q | q
        · refine ⟨1, Nat.le_refl _, by show 1 ≤ 2; omega, by omega, ?_⟩
          rw [q, nJ_add, B100_397]
        · refine ⟨2, by show 1 ≤ 2; omega, Nat.le_refl _, by omega, ?_⟩
          rw [q, nJ_add, B100_397]
      · have hq := lowN_lt hv (n := 31) (by omega)
        refine ⟨lowN hv 31, Nat.zero_le _, by show _ ≤ 30; omega, by omega, ?_⟩
        rw [if_neg (show ¬ nI 4 = nI 3 by decide), if_pos rfl, B100_353, m_low _ (by omega) (by omega)]
        simp only [obd_some, obd_none, Option.toList_some, Option.toList_none, List.cons_append, List.nil_append, cond_true, cond_false]
        rw [B100_358, B100_397]
      · have hq := lowN_lt (g >>> (nI 3 &&& 31)) (n := 30) (by omega)
        refine ⟨9 + lowN (g >>> (nI 3 &&& 31)) 30, by show 9 ≤ _; omega, by show _ ≤ 99; omega, by omega, ?_⟩
        rw [if_neg (show ¬ nI 5 = nI 3 by decide), if_neg (show ¬ nI 5 = nI 4 by decide), B100_363, m_low _ (by omega) (by omega)]
        simp only [obd_some, obd_none, Option.toList_some, Option.toList_none, List.cons_append, List.nil_append, cond_true, cond_false]
        rw [B100_372, nJ_add, B100_397]
theorem cntY_len {ty : Nat} (hty : ty < 2) : (bndY ty).length = cntY ty := by
  rcases (by omega : ty = 0 ∨ ty = 1) with rfl | rfl <;> rfl
theorem inB_of : ∀ {qs : List (Nat × Nat)} {vs : List Nat}, vs.length = qs.length → (∀ j, j < vs.length → (qs.getD j (0, 0)).1 ≤ vs.getD j 0 ∧ vs.getD j 0 ≤ (qs.getD j (0, 0)).2 ∧ vs.getD j 0 ≤ 99) → inB qs vs
  | [], [], _, _ => trivial
  | q :: qs, v :: vs, hl, h => by
    obtain ⟨h1, h2, h3⟩ := h 0 (Nat.succ_pos _)
    exact ⟨h1, h2, h3, inB_of (Nat.succ.inj hl) (fun j hj => h (j + 1) (Nat.succ_lt_succ hj))⟩
  | [], _ :: _, hl, _ => by cases hl
  | _ :: _, [], hl, _ => by cases hl
/-- the numbers of a person or beast -/
theorem l_wn (av g : Int32) {xi to ty : Nat} (hty : ty < 2) (hxi : xi < 100) (hto : 20 ≤ to) (hto2 : to + cntY ty ≤ 48) (T0 : List Nat) (hT0 : T0.length ≤ 98) (f0 : Nat → Int32) : ∀ (m w : Nat) (vs : List Nat) (f : Nat → Int32) (h : jHp), w + m = cntY ty → vs.length = w → (∀ j, j < w → ((bndY ty).getD j (0, 0)).1 ≤ vs.getD j 0 ∧ vs.getD j 0 ≤ ((bndY ty).getD j (0, 0)).2 ∧ vs.getD j 0 ≤ 99) → WS x dr ra ba pa S0 b L xs a z f (T0 ++ tNums vs true) h → (∀ j, j < w → f (to + j) = nI (vs.getD j 0)) → (∀ t, t < to ∨ to + cntY ty ≤ t → f t = f0 t) →
    ∃ f' vs' h', R 6 100 267 [some (.ref x), some (.ref a), some (.ref b), some (.int av), none, none, none, some (.int (nI (T0 ++ tNums vs true).length)), some (.int (nI xi)), some (.int (nI ty)), some (.int (nI to)), some (.int g), some (.int (nI w)), none, none] [.int (nI w)] h = R 6 100 166 [some (.ref x), some (.ref a), some (.ref b), some (.int av), none, none, none, some (.int (nI (T0 ++ tNums vs' true).length)), some (.int (nI (xi + 1))), none, none, none, none, none, none] [.int (nI (xi + 1))] h' ∧ inB (bndY ty) vs' ∧ WS x dr ra ba pa S0 b L xs a z f' (T0 ++ tNums vs' true) h' ∧ (∀ j, j < cntY ty → f' (to + j) = nI (vs'.getD j 0)) ∧ ∀ t, t < to ∨ to + cntY ty ≤ t → f' t = f0 t := by
  have hc6 : cntY ty = 4 ∨ cntY ty = 6 := by
    rcases (by omega : ty = 0 ∨ ty = 1) with rfl | rfl
    · exact Or.inl rfl
    · exact Or.inr rfl
  have e267 : ∀ (w : Nat) (mv : Int32) (h : jHp), R 6 100 267 [some (.ref x), some (.ref a), some (.ref b), some (.int av), none, none, none, some (.int mv), some (.int (nI xi)), some (.int (nI ty)), some (.int (nI to)), some (.int g), some (.int (nI w)), none, none] [.int (nI w)] h = R 6 100 278 [some (.ref x), some (.ref a), some (.ref b), some (.int av), none, none, none, some (.int mv), some (.int (nI xi)), some (.int (nI ty)), some (.int (nI to)), some (.int g), some (.int (nI w)), none, none] [.int (nI (cntY ty)), .int (nI w)] h := by
    intro w mv h
    rw [B100_267]
    rcases (by omega : ty = 0 ∨ ty = 1) with rfl | rfl
    · rw [if_pos (show nI 0 = 0 from rfl)]; rfl
    · rw [if_neg (show ¬ nI 1 = 0 by decide)]; rfl
  intro m
  induction m with
  | zero =>
    intro w vs f h hk hv hb I h1 h2
    obtain rfl : w = cntY ty := hk
    refine ⟨f, vs, h, ?_, inB_of (by rw [cntY_len hty, hv]) (by rw [hv]; exact hb), I, h1, h2⟩
    rw [e267, B100_278, if_neg (show ¬ nI (cntY ty) < nI (cntY ty) by rw [nJ_lt (by omega) (by omega)]; omega), B100_444, B100_164, nJ_add]
  | succ m ih =>
    intro w vs f h hk hv hb I h1 h2
    have hw : w < cntY ty := by omega
    have hl := tNums_len vs true
    have hlen : (T0 ++ tNums vs true).length ≤ 98 + 3 * w := by rw [List.length_append]; omega
    rw [e267, B100_278, if_pos (show nI w < nI (cntY ty) by rw [nJ_lt (by omega) (by omega)]; exact hw)]
    obtain ⟨v, v1, v2, v3, ev⟩ := l_wv (x := x) (a := a) (b := b) (to := to) av (nI (T0 ++ tNums vs true).length) g h hty hw (xi := xi)
    rw [ev, B100_399, nJ_add]
    obtain ⟨e1, I1⟩ := I.set (t := to + w) (nI v) (by omega)
    rw [e1, obd_some]
    have hmid : ∃ h2, (if 0 < nI w then R 6 100 414 [some (.ref x), some (.ref a), some (.ref b), some (.int av), none, none, none, some (.int (nI (T0 ++ tNums vs true).length)), some (.int (nI xi)), some (.int (nI ty)), some (.int (nI to)), some (.int g), some (.int (nI w)), none, some (.int (nI v))] [.ref x] (hL h a 48 (upd f (to + w) (nI v))) else R 6 100 426 [some (.ref x), some (.ref a), some (.ref b), some (.int av), none, none, none, some (.int (nI (T0 ++ tNums vs true).length)), some (.int (nI xi)), some (.int (nI ty)), some (.int (nI to)), some (.int g), some (.int (nI w)), none, some (.int (nI v))] [.int (nI (T0 ++ tNums vs true).length)] (hL h a 48 (upd f (to + w) (nI v)))) = R 6 100 428 [some (.ref x), some (.ref a), some (.ref b), some (.int av), none, none, none, some (.int (nI (T0 ++ (tNums vs true ++ sepT vs)).length)), some (.int (nI xi)), some (.int (nI ty)), some (.int (nI to)), some (.int g), some (.int (nI w)), none, some (.int (nI v))] [] h2 ∧ WS x dr ra ba pa S0 b L xs a z (upd f (to + w) (nI v)) (T0 ++ (tNums vs true ++ sepT vs)) h2 := by
      by_cases c : vs = []
      · have w0 : w = 0 := by rw [← hv, c]; rfl
        rw [if_neg (show ¬ 0 < nI w by rw [nI_gt0 (by omega)]; omega), B100_426, show sepT vs = [] from if_pos c, List.append_nil]
        exact ⟨_, rfl, I1⟩
      · have w0 : 0 < w := by
          rw [← hv]; exact List.length_pos_iff.mpr c
        obtain ⟨h2, e2, I2⟩ := I1.put (c := 44) (by omega) (by omega)
        rw [if_pos (show 0 < nI w by rw [nI_gt0 (by omega)]; exact w0), B100_414, e2]
        simp only [obd_some, obd_none, Option.toList_some, Option.toList_none, List.cons_append, List.nil_append, cond_true, cond_false]
        rw [B100_421, B100_426, show sepT vs = [44] from if_neg c]
        rw [List.append_assoc] at I2
        refine ⟨h2, ?_, I2⟩
        rw [← List.append_assoc, List.length_append (bs := [44]), List.length_cons, List.length_nil]
    obtain ⟨h2', e2, I2⟩ := hmid
    rw [e2]
    have hl2 : (T0 ++ (tNums vs true ++ sepT vs)).length ≤ 99 + 3 * w := by
      rw [← List.append_assoc, List.length_append]
      have : (sepT vs).length ≤ 1 := by
        unfold sepT
        split
        · exact Nat.zero_le _
        · exact Nat.le_refl _
      omega
    obtain ⟨h3, e3, I3⟩ := I2.num (v := v) v3 (by omega)
    rw [B100_428, e3]
    simp only [obd_some, obd_none, Option.toList_some, Option.toList_none, List.cons_append, List.nil_append, cond_true, cond_false]
    rw [B100_436, B100_265, nJ_add]
    have eT : T0 ++ (tNums vs true ++ sepT vs) ++ tNum v = T0 ++ tNums (vs ++ [v]) true := by
      rw [tNums_snocT, List.append_assoc, List.append_assoc]
    rw [eT] at I3
    rw [eT]
    refine ih (w + 1) (vs ++ [v]) _ h3 (by omega) (by rw [List.length_append, List.length_cons, List.length_nil, hv]) (fun j hj => ?_) I3 (fun j hj => ?_) (fun t ht => ?_)
    · by_cases c : j = w
      · subst c
        have es := getD_s vs v 0
        rw [hv] at es
        rw [es]; exact ⟨v1, v2, v3⟩
      · rw [getD_l 0 (by omega)]; exact hb j (by omega)
    · by_cases c : j = w
      · subst c
        have es := getD_s vs v 0
        rw [hv] at es
        rw [es, upd_s]
      · rw [upd_n (by omega), getD_l 0 (by omega)]; exact h1 j (by omega)
    · rw [upd_n (by omega)]; exact h2 t ht
end LWrite
