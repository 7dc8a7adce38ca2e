/-! The best rows as the law keeps them, one row after another. -/
theorem bst_0 (d : jRD) (aim t : Nat) : bstP d aim t 0 none := fun m h => absurd h (Nat.not_lt_zero m)
theorem bst_pass {d : jRD} {aim t n : Nat} {o : Option Nat} (h : bstP d aim t n o) (hn : ¬ (rgt d n = true ∧ rec4 d n 3 ≤ t)) : bstP d aim t (n + 1) o := by
  cases o with
  | none =>
    intro m h1 h2 h3
    by_cases y : m = n
    · subst y; exact hn ⟨h2, h3⟩
    · exact h m (by omega) h2 h3
  | some w =>
    obtain ⟨w1, w2, w3, w4⟩ := h
    refine ⟨by omega, w2, w3, fun m h1 h2 h3 => ?_⟩
    by_cases y : m = n
    · subst y; exact absurd ⟨h2, h3⟩ hn
    · exact w4 m (by omega) h2 h3
/-- row n comes ahead of what was the best -/
def aheadO (d : jRD) (aim n : Nat) (o : Option Nat) : Prop := match o with
  | none => True
  | some w => rec4 d n aim < rec4 d w aim ∨ (rec4 d n aim = rec4 d w aim ∧ rec4 d n 0 < rec4 d w 0)
theorem bst_take {d : jRD} {aim t n : Nat} {o : Option Nat} (h : bstP d aim t n o) (h1 : rgt d n = true) (h2 : rec4 d n 3 ≤ t) (ha : aheadO d aim n o) : bstP d aim t (n + 1) (some n) := by
  refine ⟨Nat.lt_succ_self n, h1, h2, fun m g1 g2 g3 => ?_⟩
  rw [befB_f]
  by_cases y : m = n
  · subst y; omega
  · cases o with
    | none => exact absurd g3 (h m (by omega) g2)
    | some w =>
      have a := h.2.2.2 m (by omega) g2 g3
      rw [befB_f] at a
      have ha : rec4 d n aim < rec4 d w aim ∨ (rec4 d n aim = rec4 d w aim ∧ rec4 d n 0 < rec4 d w 0) := ha
      omega
theorem bst_keep {d : jRD} {aim t n w : Nat} (h : bstP d aim t n (some w)) (ha : ¬ aheadO d aim n (some w)) : bstP d aim t (n + 1) (some w) := by
  obtain ⟨w1, w2, w3, w4⟩ := h
  refine ⟨by omega, w2, w3, fun m g1 g2 g3 => ?_⟩
  by_cases y : m = n
  · subst y
    rw [befB_f]
    have ha : ¬ (rec4 d m aim < rec4 d w aim ∨ (rec4 d m aim = rec4 d w aim ∧ rec4 d m 0 < rec4 d w 0)) := ha
    have e1 : rec4 d m 4 = m := rfl
    have e2 : rec4 d w 4 = w := rfl
    omega
  · exact w4 m (by omega) g2 g3
/-- the soonest, and the fewest ties among those -/
def FsI (d : jRD) (n : Nat) (fe so : Int32) : Prop :=
  ((∀ m, m < n → ¬ rgt d m = true) ∧ fe = -nI 9 ∧ so = nI 999999) ∨
  ∃ s t, fe = nI t ∧ so = nI s ∧ (∃ m, m < n ∧ rgt d m = true ∧ rec4 d m 0 = s) ∧ (∀ m, m < n → rgt d m = true → s ≤ rec4 d m 0) ∧ fewP d s n (some t)
theorem FsI_0 (d : jRD) : FsI d 0 (-nI 9) (nI 999999) := Or.inl ⟨fun m h => absurd h (Nat.not_lt_zero m), rfl, rfl⟩
theorem FsI_pass {d : jRD} {n : Nat} {fe so : Int32} (h : FsI d n fe so) (hn : ¬ rgt d n = true) : FsI d (n + 1) fe so := by
  have lt : ∀ m, m < n + 1 → rgt d m = true → m < n := fun m h1 h2 => by
    by_cases y : m = n
    · subst y; exact absurd h2 hn
    · omega
  rcases h with ⟨h1, h2, h3⟩ | ⟨s, t, h1, h2, ⟨m, g1, g2, g3⟩, h4, ⟨m', k1, k2, k3, k4⟩, h5⟩
  · exact Or.inl ⟨fun m h4 h5 => h1 m (lt m h4 h5) h5, h2, h3⟩
  · exact Or.inr ⟨s, t, h1, h2, ⟨m, by omega, g2, g3⟩, fun m z1 z2 => h4 m (lt m z1 z2) z2, ⟨m', by omega, k2, k3, k4⟩, fun m z1 z2 z3 => h5 m (lt m z1 z2) z2 z3⟩
theorem FsI_new {d : jRD} {n s : Nat} (hn : rgt d n = true) (e : rec4 d n 0 = s) (h : ∀ m, m < n → rgt d m = true → s < rec4 d m 0) : FsI d (n + 1) (nI (rec4 d n 3)) (nI s) := by
  refine Or.inr ⟨s, rec4 d n 3, rfl, rfl, ⟨n, by omega, hn, e⟩, fun m z1 z2 => ?_, ⟨n, by omega, hn, e, rfl⟩, fun m z1 z2 z3 => ?_⟩
  · by_cases y : m = n
    · subst y; omega
    · have := h m (by omega) z2; omega
  · by_cases y : m = n
    · subst y; exact Nat.le_refl _
    · have := h m (by omega) z2; omega
theorem fsi_d {d : jRD} (hd : rdOk d) (n : Nat) : rec4 d n 0 ≤ 12000 ∧ rec4 d n 1 ≤ 2147483647 ∧ rec4 d n 2 ≤ 54 := by
  have hs := sq_ok hd (dg d n) 0 (show 0 ≤ 60 by omega) (rP d)
  have h6 := hd.1
  refine ⟨?_, ?_, ?_⟩
  · have := maxB_le (f := fun _ => true) (x := 0) (g := ga (sq d (dg d n) 0 0 (rP d))) (c := 2000 * rP d) (Nat.zero_le _) hs.1 (rE d)
    show maxB (fun _ => true) (ga (sq d (dg d n) 0 0 (rP d))) 0 (rE d) ≤ 12000
    omega
  · show mnB (ga (sq d (dg d n) 0 0 (rP d))) (rE d) ≤ _
    have : ∀ (g : Nat → Nat) m, mnB g m ≤ 2147483647 := by
      intro g m
      induction m with
      | zero => exact Nat.le_refl _
      | succ m ih => rw [mnB]; split <;> omega
    exact this _ _
  · have := maxB_le (f := fun _ => true) (x := 0) (g := gf (sq d (dg d n) 0 0 (rP d))) (c := 9 * rP d) (Nat.zero_le _) hs.2.1 (rE d)
    show maxB (fun _ => true) (gf (sq d (dg d n) 0 0 (rP d))) 0 (rE d) ≤ 54
    omega
/-- what the class says of the best -/
def bsI (d : jRD) (o : Option Nat) (w : Nat) : Int32 := match o with | none => -nI 9 | some m => nI (rec4 d m w)
theorem pk_of {d : jRD} (hd : rdOk d) (hP : 0 < rP d) {aim : Nat} (ha : aim < 3) {t : Option Nat} (ht : ∀ m, t = some m → m ≤ 12) {o : Option Nat} (h : bstP d aim (tMax t) (nRows d) o) : (o = none ∧ pkO d aim t = none) ∨ ∃ m c, o = some m ∧ pkO d aim t = some c ∧ c.2 = rec4 d m ∧ c.2 4 = m := by
  obtain ⟨h1, h2⟩ := pkO_bst hd hP ha ht
  have e := bst_one h h1
  cases q : pkO d aim t with
  | none => rw [q] at e; exact Or.inl ⟨e, rfl⟩
  | some c =>
    rw [q] at e
    have e : o = some (c.2 4) := e
    refine Or.inr ⟨c.2 4, c, e, rfl, h2 c q, rfl⟩
def rwO (d : jRD) (o : Option Nat) (i : Nat) : Int32 := match o with | none => -nI 9 | some m => nI (dg d m i)
def csO (d : jRD) (o2 o0 : Option Nat) : Int32 := match o2 with | none => -nI 9 | some m => nI (rec4 d m 0) - bsI d o0 0
section LBest
variable {S : jST} {i : Nat}
theorem aBest_at (hS : stOk S) (hi : i < zn S) (hM : ¬ many (zD S i)) {aim : Nat} (ha : aim < 3) {t : Int32} {to : Option Nat} (h1 : aimOk (nI aim) t) (h2 : tOf t = to) {o : Option Nat} (hb : bstP (zD S i) aim (tMax to) (nRows (zD S i)) o) {w : Nat} (hw : w < 4) : aBest S (nI i) (nI aim) t (nI w) = bsI (zD S i) o w := by
  have h3 := hS.1
  obtain ⟨g1, g2, g3, g4⟩ := hS.2.2.2.2.1 i hi
  unfold aBest
  rw [if_pos (show inN (nI i) (zn S) from inN_of hi (by omega)), if_pos h1, if_pos (show inN (nI w) 4 from inN_of hw (by omega)), toNat_nI (show i < 2147483648 by omega), if_neg hM, toNat_nI (show aim < 2147483648 by omega), h2, toNat_nI (show w < 2147483648 by omega)]
  rcases pk_of g1 g2 ha (by rw [← h2]; exact (tOf_ok h1).2) hb with ⟨e1, e2⟩ | ⟨m, c, e1, e2, e3, e4⟩
  · rw [e1, e2]; rfl
  · rw [e1, e2]
    show nI (c.2 w) = nI (rec4 _ m w)
    rw [e3]
theorem aRow_at (hS : stOk S) (hi : i < zn S) (hM : ¬ many (zD S i)) {aim : Nat} (ha : aim < 3) {t : Int32} {to : Option Nat} (h1 : aimOk (nI aim) t) (h2 : tOf t = to) {o : Option Nat} (hb : bstP (zD S i) aim (tMax to) (nRows (zD S i)) o) {k p : Nat} (hk : k < rP (zD S i)) (hp : p < rE (zD S i)) : aRow S (nI i) (nI aim) t (nI k) (nI p) = rwO (zD S i) o (k * rE (zD S i) + p) := by
  have h3 := hS.1
  obtain ⟨g1, g2, g3, g4⟩ := hS.2.2.2.2.1 i hi
  have h6 := g1.1
  have h4 := g1.2.1
  unfold aRow
  rw [if_pos (show inN (nI i) (zn S) from inN_of hi (by omega)), toNat_nI (show i < 2147483648 by omega), if_pos (show inN (nI k) (rP (zD S i)) from inN_of hk (by omega)), if_pos (show inN (nI p) (rE (zD S i)) from inN_of hp (by omega)), if_pos h1, if_neg hM, toNat_nI (show aim < 2147483648 by omega), h2, toNat_nI (show k < 2147483648 by omega), toNat_nI (show p < 2147483648 by omega)]
  rcases pk_of g1 g2 ha (by rw [← h2]; exact (tOf_ok h1).2) hb with ⟨e1, e2⟩ | ⟨m, c, e1, e2, e3, e4⟩
  · rw [e1, e2]; rfl
  · rw [e1, e2]
    show nI (dg _ (c.2 4) _) = nI (dg _ m _)
    rw [e4]
theorem tOf_9 : tOf (-nI 9) = none := if_pos rfl
theorem tOf_n {t : Nat} (ht : t < 1000) : tOf (nI t) = some t := by
  unfold tOf
  rw [if_neg (show ¬ nI t = -nI 9 by rw [neg9_ne (by omega)]; exact id), toNat_nI (by omega)]
theorem aCost_at (hS : stOk S) (hi : i < zn S) (hM : ¬ many (zD S i)) {o2 o0 : Option Nat} (h2 : bstP (zD S i) 2 100 (nRows (zD S i)) o2) (h0 : bstP (zD S i) 0 100 (nRows (zD S i)) o0) : aCost S (nI i) = csO (zD S i) o2 o0 := by
  have h3 := hS.1
  obtain ⟨g1, g2, g3, g4⟩ := hS.2.2.2.2.1 i hi
  unfold aCost costA
  rw [if_pos (show inN (nI i) (zn S) from inN_of hi (by omega)), toNat_nI (show i < 2147483648 by omega), if_neg hM]
  rcases pk_of (t := none) g1 g2 (show 2 < 3 by omega) (fun m hm => by cases hm) h2 with ⟨e1, e2⟩ | ⟨m, c, e1, e2, e3, e4⟩
  · rw [e1, e2]; rfl
  · rw [e1, e2]
    show nI (c.2 0) - bstA (pkO (zD S i) 0 none) 0 = nI (rec4 (zD S i) m 0) - bsI (zD S i) o0 0
    rw [e3]
    rcases pk_of (t := none) g1 g2 (show 0 < 3 by omega) (fun m hm => by cases hm) h0 with ⟨f1, f2⟩ | ⟨m', c', f1, f2, f3, f4⟩
    · rw [f1, f2]; rfl
    · rw [f1, f2]
      show _ - nI (c'.2 0) = _ - nI (rec4 _ m' 0)
      rw [f3]
theorem aFewest_at (hS : stOk S) (hi : i < zn S) (hM : ¬ many (zD S i)) {fe so : Int32} (hf : FsI (zD S i) (nRows (zD S i)) fe so) {o0 : Option Nat} (h0 : bstP (zD S i) 0 100 (nRows (zD S i)) o0) : aFewest S (nI i) = fe := by
  have h3 := hS.1
  obtain ⟨g1, g2, g3, g4⟩ := hS.2.2.2.2.1 i hi
  unfold aFewest fewO
  rw [if_pos (show inN (nI i) (zn S) from inN_of hi (by omega)), toNat_nI (show i < 2147483648 by omega), if_neg hM]
  rcases pk_of (t := none) g1 g2 (show 0 < 3 by omega) (fun m hm => by cases hm) h0 with ⟨e1, e2⟩ | ⟨m, c, e1, e2, e3, e4⟩
  · rw [e2]
    rw [e1] at h0
    rcases hf with ⟨q1, q2, q3⟩ | ⟨s, t, q1, q2, ⟨m, z1, z2, z3⟩, q4, q5⟩
    · rw [q2]; rfl
    · have := rec4_ties g1 g2 m
      exact absurd (show rec4 (zD S i) m 3 ≤ 100 by omega) (h0 m z1 z2)
  · rw [e2]
    rw [e1] at h0
    obtain ⟨w1, w2, w3, w4⟩ := h0
    rcases hf with ⟨q1, q2, q3⟩ | ⟨s, t, q1, q2, ⟨m', z1, z2, z3⟩, q4, q5⟩
    · exact absurd w2 (q1 m w1)
    · have hmin : ∀ n, n < nRows (zD S i) → rgt (zD S i) n = true → rec4 (zD S i) m 0 ≤ rec4 (zD S i) n 0 := by
        intro n n1 n2
        have := rec4_ties g1 g2 n
        have a := w4 n n1 n2 (by omega)
        rw [befB_f] at a
        omega
      have es : rec4 (zD S i) m 0 = s := by
        have a := hmin m' z1 z2
        have b := q4 m w1 w2
        omega
      have hfw := fwT_few g1 g2 (s := s) (fun n n1 n2 => by rw [← es]; exact hmin n n1 n2) 11 0 rfl (fun n _ _ _ => Nat.zero_le _)
      have e5 := few_one hfw q5
      dsimp only
      rw [e3, es, e5, q1]
      rfl
theorem aRows_at (hS : stOk S) (hi : i < zn S) (hM : ¬ many (zD S i)) : aRows S (nI i) = nI (acc (zD S i) (nRows (zD S i))).2 := by
  have h3 := hS.1
  unfold aRows
  rw [if_pos (show inN (nI i) (zn S) from inN_of hi (by omega)), toNat_nI (show i < 2147483648 by omega), if_neg hM]
  rfl
end LBest
