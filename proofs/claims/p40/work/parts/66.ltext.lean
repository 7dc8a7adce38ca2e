/-! A road's text as a list of codes, and what reading it comes to. -/
def tNum (v : Nat) : List Nat := if 9 < v then [48 + v / 10, 48 + v % 10] else [48 + v % 10]
def tNums : List Nat → Bool → List Nat
  | [], _ => []
  | v :: vs, first => (if first = true then [] else [44]) ++ (tNum v ++ tNums vs false)
def tPcs : List (Nat × Nat) → List Nat
  | [] => []
  | w :: ws => (48 + w.1) :: (48 + w.2) :: tPcs ws
def tFolk (code : Nat) : List (List Nat) → List Nat
  | [] => []
  | y :: ys => 59 :: code :: (tNums y true ++ tFolk code ys)
/-- from t on the codes are these, then none -/
def Suf (cd : Nat → Int32) (t : Nat) (X : List Nat) : Prop := ∀ i, cd (t + i) = nI (X.getD i 0)
theorem Suf.hd {cd : Nat → Int32} {t a : Nat} {X : List Nat} (H : Suf cd t (a :: X)) : cd t = nI a := H 0
theorem Suf.tl {cd : Nat → Int32} {t a : Nat} {X : List Nat} (H : Suf cd t (a :: X)) : Suf cd (t + 1) X := fun i => by
  have := H (i + 1)
  rw [show t + (i + 1) = t + 1 + i by omega] at this
  exact this
theorem Suf.drop {cd : Nat → Int32} {X : List Nat} : ∀ (A : List Nat) {t : Nat}, Suf cd t (A ++ X) → Suf cd (t + A.length) X
  | [], _, H => H
  | a :: A, t, H => by
    have := Suf.drop A (H.tl)
    rw [show t + 1 + A.length = t + (a :: A).length by rw [List.length_cons]; omega] at this
    exact this
theorem Suf.nd {cd : Nat → Int32} {t : Nat} {X : List Nat} (H : Suf cd t X) : cd t = nI (X.getD 0 0) := H 0
theorem dgt_nI {c lo hi : Nat} (hc : c < 2147483648) : dgt (nI c) lo hi = (lo ≤ c ∧ c ≤ hi) := by
  unfold dgt
  rw [toInt_nI hc]
  exact propext ⟨fun h => ⟨Int.ofNat_le.mp h.1, Int.ofNat_le.mp h.2⟩, fun h => ⟨Int.ofNat_le.mpr h.1, Int.ofNat_le.mpr h.2⟩⟩
theorem dv_nI {c : Nat} (hc : c < 1000) : dv (nI (48 + c)) = c := by
  unfold dv
  rw [toInt_nI (by omega)]
  omega
/-- no digit stands first -/
def ndg (X : List Nat) : Prop := X.getD 0 0 < 48 ∨ (57 < X.getD 0 0 ∧ X.getD 0 0 < 128)
theorem sNum_t {cd : Nat → Int32} {t v lo hi : Nat} {X : List Nat} (H : Suf cd t (tNum v ++ X)) (hX : ndg X) (h1 : lo ≤ v) (h2 : v ≤ hi) (h99 : v ≤ 99) : sNum cd t lo hi = .inr (v, t + (tNum v).length) := by
  unfold tNum at H ⊢
  unfold ndg at hX
  unfold sNum
  by_cases e : 9 < v
  · rw [if_pos e] at H ⊢
    have e1 : cd t = nI (48 + v / 10) := H.hd
    have e2 : cd (t + 1) = nI (48 + v % 10) := H.tl.hd
    have a1 : v / 10 ≤ 9 := by omega
    have a2 : v % 10 ≤ 9 := by omega
    rw [e1, e2, if_pos (show dgt (nI (48 + v / 10)) 48 57 by rw [dgt_nI (by omega)]; omega), if_pos (show dgt (nI (48 + v % 10)) 48 57 by rw [dgt_nI (by omega)]; omega), dv_nI (by omega), dv_nI (by omega)]
    have a3 : 10 * (v / 10) + v % 10 = v := by omega
    rw [a3, if_pos ⟨h1, h2⟩]
    rfl
  · rw [if_neg e] at H ⊢
    have e1 : cd t = nI (48 + v % 10) := H.hd
    have a2 : v % 10 = v := by omega
    rw [a2] at e1
    have e2 : cd (t + 1) = nI (X.getD 0 0) := (Suf.tl (X := X) H).nd
    rw [e1, e2, if_pos (show dgt (nI (48 + v)) 48 57 by rw [dgt_nI (by omega)]; omega), if_neg (show ¬ dgt (nI (X.getD 0 0)) 48 57 by rw [dgt_nI (by omega)]; omega), dv_nI (by omega), if_pos ⟨h1, h2⟩]
    rfl
/-- numbers in their bounds -/
def inB : List (Nat × Nat) → List Nat → Prop
  | [], [] => True
  | q :: qs, v :: vs => q.1 ≤ v ∧ v ≤ q.2 ∧ v ≤ 99 ∧ inB qs vs
  | _, _ => False
theorem inB_len : ∀ {qs : List (Nat × Nat)} {vs : List Nat}, inB qs vs → vs.length = qs.length
  | [], [], _ => rfl
  | _ :: qs, _ :: vs, h => congrArg (· + 1) (inB_len h.2.2.2)
  | [], _ :: _, h => h.elim
  | _ :: _, [], h => h.elim
theorem ndg_nums {X : List Nat} (hX : ndg X) : ∀ vs, ndg (tNums vs false ++ X)
  | [] => hX
  | v :: vs => by
    exact Or.inl (show 44 < 48 by omega)
theorem sNums_t {cd : Nat → Int32} {X : List Nat} (hX : ndg X) : ∀ (qs : List (Nat × Nat)) (vs : List Nat) (first : Bool) (t : Nat), inB qs vs → Suf cd t (tNums vs first ++ X) → sNums cd qs first t = .inr (vs, t + (tNums vs first).length)
  | [], [], _, t, _, _ => rfl
  | q :: qs, v :: vs, first, t, hb, H => by
    rw [sNums]
    cases first with
    | true =>
      have H : Suf cd t (tNum v ++ (tNums vs false ++ X)) := by
        rw [← List.append_assoc]; exact H
      rw [if_neg (fun z => by cases z.1), if_pos rfl, sNum_t H (ndg_nums hX vs) hb.1 hb.2.1 hb.2.2.1]
      dsimp only
      rw [sNums_t hX qs vs false _ hb.2.2.2 (Suf.drop (tNum v) H)]
      show Sum.inr (v :: vs, t + (tNum v).length + (tNums vs false).length) = Sum.inr (v :: vs, t + (tNum v ++ tNums vs false).length)
      rw [List.length_append, Nat.add_assoc]
    | false =>
      have H : Suf cd t (44 :: (tNum v ++ (tNums vs false ++ X))) := by
        have e : tNums (v :: vs) false ++ X = 44 :: (tNum v ++ (tNums vs false ++ X)) := by
          show (44 :: (tNum v ++ tNums vs false)) ++ X = _
          rw [List.cons_append, List.append_assoc]
        rw [← e]; exact H
      rw [if_neg (fun z => z.2 H.hd), if_neg Bool.false_ne_true, sNum_t H.tl (ndg_nums hX vs) hb.1 hb.2.1 hb.2.2.1]
      dsimp only
      rw [sNums_t hX qs vs false _ hb.2.2.2 (Suf.drop (tNum v) H.tl)]
      show Sum.inr (v :: vs, t + 1 + (tNum v).length + (tNums vs false).length) = Sum.inr (v :: vs, t + (44 :: (tNum v ++ tNums vs false)).length)
      rw [List.length_cons, List.length_append]
      refine congrArg (fun z => Sum.inr (v :: vs, z)) ?_
      omega
  | [], _ :: _, _, _, h, _ => h.elim
  | _ :: _, [], _, _, h, _ => h.elim
theorem tPcs_len : ∀ ws, (tPcs ws).length = 2 * ws.length
  | [] => rfl
  | w :: ws => by
    show (tPcs ws).length + 1 + 1 = 2 * (ws.length + 1)
    rw [tPcs_len ws]; omega
theorem sPieces_t {cd : Nat → Int32} {X : List Nat} (hX : 57 < X.getD 0 0 ∧ X.getD 0 0 < 128) : ∀ (ws : List (Nat × Nat)) (m : Nat) (first : Bool) (t : Nat), ws.length ≤ m → (first = true → 0 < ws.length) → (∀ w, w ∈ ws → 0 < w.1 ∧ w.1 ≤ 9 ∧ w.2 ≤ 2) → Suf cd t (tPcs ws ++ X) → sPieces cd m first t = .inr (ws, t + 2 * ws.length)
  | [], 0, _, _, _, _, _, _ => rfl
  | [], m + 1, first, t, _, hf, _, H => by
    rw [sPieces]
    have e : first = false := by
      cases first with
      | true => exact absurd (hf rfl) (Nat.lt_irrefl 0)
      | false => rfl
    have e1 : cd t = nI (X.getD 0 0) := Suf.nd (X := X) H
    rw [if_neg]
    · rfl
    · rintro (z | z)
      · rw [e] at z; cases z
      · rw [e1, dgt_nI (by omega)] at z; omega
  | w :: ws, 0, _, _, h, _, _, _ => absurd h (by rw [List.length_cons]; omega)
  | w :: ws, m + 1, first, t, h, hf, hw, H => by
    obtain ⟨w1, w2, w3⟩ := hw w List.mem_cons_self
    have e1 : cd t = nI (48 + w.1) := H.hd
    have e2 : cd (t + 1) = nI (48 + w.2) := H.tl.hd
    have d1 : dgt (cd t) 49 57 := by rw [e1, dgt_nI (by omega)]; omega
    rw [sPieces, if_pos (Or.inr d1)]
    unfold sPiece
    rw [if_pos d1, if_pos (show dgt (cd (t + 1)) 48 50 by rw [e2, dgt_nI (by omega)]; omega)]
    dsimp only
    rw [sPieces_t hX ws m false (t + 2) (by rw [List.length_cons] at h; omega) (fun z => by cases z) (fun v hv => hw v (List.mem_cons_of_mem _ hv)) H.tl.tl, e1, e2, dv_nI (by omega), dv_nI (by omega)]
    show Sum.inr ((w.1, w.2) :: ws, t + 2 + 2 * ws.length) = Sum.inr (w :: ws, t + 2 * (ws.length + 1))
    refine congrArg (fun z => Sum.inr (w :: ws, z)) ?_
    omega
theorem ndg_folk (code : Nat) {X : List Nat} (hX : ndg X) : ∀ ys, ndg (tFolk code ys ++ X)
  | [] => hX
  | _ :: _ => Or.inr ⟨show 57 < 59 by omega, show 59 < 128 by omega⟩
theorem ndg_nil : ndg [] := Or.inl (show 0 < 48 by omega)
theorem sBeasts_t {cd : Nat → Int32} {n : Nat} : ∀ (bs : List (List Nat)) (m e b t : Nat), bs.length < m → 0 < e → b + bs.length ≤ 2 → (∀ y, y ∈ bs → inB bndB y) → Suf cd t (tFolk 98 bs) → n = t + (tFolk 98 bs).length → sFolk cd n m e b t = .inr ([], bs)
  | [], m + 1, e, b, t, _, he, _, _, _, hn => by
    rw [sFolk, if_pos ⟨by rw [hn]; exact Nat.le_refl _, he⟩]
  | y :: ys, m + 1, e, b, t, hm, he, hb, hy, H, hn => by
    rw [List.length_cons] at hm hb
    have e1 : cd t = nI 59 := H.hd
    have e2 : cd (t + 1) = nI 98 := H.tl.hd
    have hn2 : n = t + ((tNums y true ++ tFolk 98 ys).length + 1 + 1) := hn
    rw [sFolk, if_neg (fun z => by have := z.1; omega), if_neg (fun z => z e1), if_neg (fun z => by rw [e2] at z; exact absurd z.1 (by decide)), if_pos ⟨e2, he, by omega⟩]
    have H2 : Suf cd (t + 2) (tNums y true ++ tFolk 98 ys) := H.tl.tl
    have nd : ndg (tFolk 98 ys) := by
      have := ndg_folk 98 ndg_nil ys
      rw [List.append_nil] at this; exact this
    rw [sNums_t nd bndB y true (t + 2) (hy y List.mem_cons_self) H2]
    dsimp only
    rw [sBeasts_t ys m e (b + 1) _ (by omega) he (by omega) (fun z hz => hy z (List.mem_cons_of_mem _ hz)) (Suf.drop (tNums y true) H2) (by rw [List.length_append] at hn2; omega)]
  | [], 0, _, _, _, h, _, _, _, _, _ => absurd h (Nat.not_lt_zero _)
  | _ :: _, 0, _, _, _, h, _, _, _, _, _ => absurd h (Nat.not_lt_zero _)
theorem sFolk_t {cd : Nat → Int32} {n : Nat} {bs : List (List Nat)} (hbs : bs.length ≤ 2) (hb : ∀ y, y ∈ bs → inB bndB y) : ∀ (es : List (List Nat)) (m e t : Nat), es.length + bs.length < m → 0 < e + es.length → e + es.length ≤ 4 → (∀ y, y ∈ es → inB bndP y) → Suf cd t (tFolk 112 es ++ tFolk 98 bs) → n = t + (tFolk 112 es ++ tFolk 98 bs).length → sFolk cd n m e 0 t = .inr (es, bs)
  | [], m, e, t, hm, he, _, _, H, hn => sBeasts_t bs m e 0 t (by rw [List.length_nil] at hm; omega) (by rw [List.length_nil] at he; omega) (by omega) hb H hn
  | y :: ys, m + 1, e, t, hm, he, h4, hy, H, hn => by
    rw [List.length_cons] at hm h4
    have e1 : cd t = nI 59 := H.hd
    have e2 : cd (t + 1) = nI 112 := H.tl.hd
    have H2 : Suf cd (t + 2) (tNums y true ++ (tFolk 112 ys ++ tFolk 98 bs)) := by
      have := H.tl.tl
      rw [← List.append_assoc]; exact this
    have hn2 : n = t + 2 + (tNums y true ++ (tFolk 112 ys ++ tFolk 98 bs)).length := by
      have : n = t + (((tNums y true ++ tFolk 112 ys) ++ tFolk 98 bs).length + 1 + 1) := hn
      rw [List.append_assoc] at this
      omega
    have nd : ndg (tFolk 112 ys ++ tFolk 98 bs) := by
      have := ndg_folk 98 ndg_nil bs
      rw [List.append_nil] at this
      exact ndg_folk 112 this ys
    rw [sFolk, if_neg (fun z => by have := z.1; omega), if_neg (fun z => z e1), if_pos ⟨e2, by omega, rfl⟩, sNums_t nd bndP y true (t + 2) (hy y List.mem_cons_self) H2]
    dsimp only
    rw [sFolk_t hbs hb ys m (e + 1) _ (by omega) (by omega) (by omega) (fun z hz => hy z (List.mem_cons_of_mem _ hz)) (Suf.drop (tNums y true) H2) (by rw [List.length_append] at hn2; omega)]
  | _ :: _, 0, _, _, h, _, _, _, _, _ => absurd h (Nat.not_lt_zero _)
def bndL : List (Nat × Nat) := [(1, 34), (1, 34), (1, 34), (0, 99)]
def leB : List (Nat × Nat) → List (Nat × Nat) → Prop
  | [], [] => True
  | q :: qs, r :: rs => r.1 ≤ q.1 ∧ q.2 ≤ r.2 ∧ leB qs rs
  | _, _ => False
theorem inB_mono : ∀ {qs rs : List (Nat × Nat)} {vs : List Nat}, leB qs rs → inB qs vs → inB rs vs
  | [], [], [], _, _ => trivial
  | _ :: _, _ :: _, _ :: _, h, k => ⟨Nat.le_trans h.1 k.1, Nat.le_trans k.2.1 h.2.1, k.2.2.1, inB_mono h.2.2 k.2.2.2⟩
  | [], [], _ :: _, _, k => k.elim
  | _ :: _, _ :: _, [], _, k => k.elim
  | [], _ :: _, _, h, _ => h.elim
  | _ :: _, [], _, h, _ => h.elim
theorem inB_L {y : List Nat} (h : inB bndL y) : inB bndP y := inB_mono (qs := bndL) (rs := bndP) ⟨by decide, by decide, by decide, by decide, by decide, by decide, by decide, by decide, trivial⟩ h
theorem inB_hd {q : Nat × Nat} {qs : List (Nat × Nat)} : ∀ {y : List Nat}, inB (q :: qs) y → q.1 ≤ y.getD 0 0 ∧ y.getD 0 0 ≤ q.2
  | _ :: _, h => ⟨h.1, h.2.1⟩
  | [], h => h.elim
/-- the whole text -/
def tText (w : jTx) : List Nat := 109 :: (tPcs w.1 ++ (tFolk 112 w.2.1 ++ tFolk 98 w.2.2))
def txOk (w : jTx) : Prop := 0 < w.1.length ∧ w.1.length ≤ 3 ∧ 0 < w.2.1.length ∧ w.2.1.length ≤ 3 ∧ w.2.2.length ≤ 2 ∧ (∀ q, q ∈ w.1 → 0 < q.1 ∧ q.1 ≤ 9 ∧ q.2 ≤ 2) ∧ (∀ y, y ∈ w.2.1 → inB bndL y) ∧ ∀ y, y ∈ w.2.2 → inB bndB y
theorem sText_t {cd : Nat → Int32} {w : jTx} (hw : txOk w) (H : Suf cd 0 (tText w)) : sText cd (tText w).length = .inr w := by
  obtain ⟨p0, p3, e0, e3, b2, hp, he, hb⟩ := hw
  have hX : 57 < (tFolk 112 w.2.1 ++ tFolk 98 w.2.2).getD 0 0 ∧ (tFolk 112 w.2.1 ++ tFolk 98 w.2.2).getD 0 0 < 128 := by
    cases q : w.2.1 with
    | nil => rw [q] at e0; exact absurd e0 (Nat.lt_irrefl 0)
    | cons y ys => exact ⟨show 57 < 59 by omega, show 59 < 128 by omega⟩
  have e1 : cd 0 = nI 109 := H.hd
  have H1 : Suf cd (0 + 1) (tPcs w.1 ++ (tFolk 112 w.2.1 ++ tFolk 98 w.2.2)) := H.tl
  have H2 := Suf.drop (tPcs w.1) H1
  rw [tPcs_len] at H2
  unfold sText
  rw [if_pos e1, sPieces_t hX w.1 6 true 1 (by omega) (fun _ => p0) hp H1]
  dsimp only
  rw [sFolk_t (cd := cd) b2 hb w.2.1 7 0 (1 + 2 * w.1.length) (by omega) (by omega) (by omega) (fun y hy => inB_L (he y hy)) (by rw [show 1 + 2 * w.1.length = 0 + 1 + 2 * w.1.length by omega]; exact H2) (by
    show (tPcs w.1 ++ (tFolk 112 w.2.1 ++ tFolk 98 w.2.2)).length + 1 = _
    rw [List.length_append, tPcs_len]
    omega)]
theorem tNum_len (v : Nat) : (tNum v).length ≤ 2 := by
  unfold tNum; split <;> simp
theorem tNums_len : ∀ (vs : List Nat) (first : Bool), (tNums vs first).length ≤ 3 * vs.length
  | [], _ => Nat.le_refl _
  | v :: vs, first => by
    have h1 := tNum_len v
    have h2 := tNums_len vs false
    show ((if first = true then [] else [44]) ++ (tNum v ++ tNums vs false)).length ≤ 3 * (vs.length + 1)
    rw [List.length_append, List.length_append]
    split
    · rw [List.length_nil]; omega
    · rw [List.length_cons, List.length_nil]; omega
theorem tFolk_len (code : Nat) {n : Nat} : ∀ (ys : List (List Nat)), (∀ y, y ∈ ys → y.length ≤ n) → (tFolk code ys).length ≤ (3 * n + 2) * ys.length
  | [], _ => Nat.le_refl _
  | y :: ys, h => by
    have h1 := tNums_len y true
    have h2 := tFolk_len code ys (fun z hz => h z (List.mem_cons_of_mem _ hz))
    have h3 := h y List.mem_cons_self
    show (tNums y true ++ tFolk code ys).length + 1 + 1 ≤ (3 * n + 2) * (ys.length + 1)
    rw [List.length_append, Nat.mul_succ]
    omega
