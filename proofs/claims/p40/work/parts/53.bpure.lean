/-! The best of the rows: what the table comes to. -/
def rec4 (d : jRD) (m : Nat) : Nat → Nat := rcOf d (sq d (dg d m) 0 0 (rP d)) m
theorem befB_iff (aim : Nat) (x y : Nat → Nat) : (befB aim x y = true) = (x aim < y aim ∨ (x aim = y aim ∧ (x 0 < y 0 ∨ (x 0 = y 0 ∧ x 4 < y 4)))) := by
  unfold befB
  by_cases a : x aim = y aim
  · rw [if_pos a]
    by_cases b : x 0 = y 0
    · rw [if_pos b, decide_eq_true_eq]
      exact propext ⟨fun z => Or.inr ⟨a, Or.inr ⟨b, z⟩⟩, fun z => by omega⟩
    · rw [if_neg b, decide_eq_true_eq]
      exact propext ⟨fun z => Or.inr ⟨a, Or.inl z⟩, fun z => by omega⟩
  · rw [if_neg a, decide_eq_true_eq]
    exact propext ⟨fun z => Or.inl z, fun z => by omega⟩
theorem befB_f (aim : Nat) (x y : Nat → Nat) : (befB aim x y = false) = ¬ (x aim < y aim ∨ (x aim = y aim ∧ (x 0 < y 0 ∨ (x 0 = y 0 ∧ x 4 < y 4)))) := by
  rw [← befB_iff]; cases befB aim x y <;> simp
theorem acc_in {d : jRD} : ∀ n aim t x, aim < 3 → (acc d n).1 aim t = some x → ∃ m, m < n ∧ rgt d m = true ∧ x = rec4 d m ∧ x 3 = t
  | 0, aim, t, x, _, h => by cases h
  | n + 1, aim, t, x, ha, h => by
    rw [acc] at h
    by_cases e : rgt d n = true
    · rw [if_pos e] at h
      have h : wgT (acc d n).1 (rec4 d n) 3 aim t = some x := h
      unfold wgT at h
      by_cases c : aim < 3 ∧ t = rec4 d n 3
      · rw [if_pos c] at h
        cases q : (acc d n).1 aim t with
        | none =>
          rw [q] at h
          have h : rec4 d n = x := Option.some.inj h
          exact ⟨n, by omega, e, h.symm, by rw [← h]; exact c.2.symm⟩
        | some y =>
          rw [q] at h
          dsimp only at h
          by_cases b : befB aim (rec4 d n) y = true
          · rw [if_pos b] at h
            have h : rec4 d n = x := Option.some.inj h
            exact ⟨n, by omega, e, h.symm, by rw [← h]; exact c.2.symm⟩
          · rw [if_neg b] at h
            have h : y = x := Option.some.inj h
            subst h
            obtain ⟨m, h1, h2, h3, h4⟩ := acc_in n aim t y ha q
            exact ⟨m, by omega, h2, h3, h4⟩
      · rw [if_neg c] at h
        obtain ⟨m, h1, h2, h3, h4⟩ := acc_in n aim t x ha h
        exact ⟨m, by omega, h2, h3, h4⟩
    · rw [if_neg e] at h
      obtain ⟨m, h1, h2, h3, h4⟩ := acc_in n aim t x ha h
      exact ⟨m, by omega, h2, h3, h4⟩
theorem acc_le {d : jRD} : ∀ n aim m, aim < 3 → m < n → rgt d m = true → ∃ x, (acc d n).1 aim (rec4 d m 3) = some x ∧ befB aim (rec4 d m) x = false
  | 0, aim, m, _, h, _ => absurd h (Nat.not_lt_zero m)
  | n + 1, aim, m, ha, hm, hr => by
    rw [acc]
    by_cases e : rgt d n = true
    · rw [if_pos e]
      show ∃ x, wgT (acc d n).1 (rec4 d n) 3 aim (rec4 d m 3) = some x ∧ _
      unfold wgT
      by_cases q : m = n
      · subst q
        rw [if_pos ⟨ha, rfl⟩]
        refine ⟨_, rfl, ?_⟩
        cases w : (acc d m).1 aim (rec4 d m 3) with
        | none => dsimp only; rw [befB_f]; omega
        | some y =>
          dsimp only
          by_cases b : befB aim (rec4 d m) y = true
          · rw [if_pos b, befB_f]; omega
          · rw [if_neg b]; exact Bool.eq_false_iff.mpr b
      · obtain ⟨y, h1, h2⟩ := acc_le n aim m ha (by omega) hr
        by_cases c : aim < 3 ∧ rec4 d m 3 = rec4 d n 3
        · rw [if_pos c, h1]
          refine ⟨_, rfl, ?_⟩
          dsimp only
          by_cases b : befB aim (rec4 d n) y = true
          · rw [if_pos b]
            rw [befB_f] at h2 ⊢
            rw [befB_iff] at b
            omega
          · rw [if_neg b]; exact h2
        · rw [if_neg c]; exact ⟨y, h1, h2⟩
    · rw [if_neg e]
      have q : m ≠ n := fun z => e (z ▸ hr)
      exact acc_le n aim m ha (by omega) hr
theorem pkk_le {T : jTab} {aim : Nat} : ∀ n t x, t < n → T aim t = some x → ∃ c, pk T aim n = some c ∧ befB aim x c.2 = false
  | 0, t, x, h, _ => absurd h (Nat.not_lt_zero t)
  | n + 1, t, x, h, e => by
    rw [pk]
    by_cases q : t = n
    · subst q
      rw [e]
      dsimp only
      cases w : pk T aim t with
      | none => exact ⟨_, rfl, by dsimp only; rw [befB_f]; omega⟩
      | some c =>
        dsimp only
        by_cases b : befB aim x c.2 = true
        · rw [if_pos b]; exact ⟨_, rfl, by dsimp only; rw [befB_f]; omega⟩
        · rw [if_neg b]; exact ⟨_, rfl, Bool.eq_false_iff.mpr b⟩
    · obtain ⟨c, h1, h2⟩ := pkk_le n t x (by omega) e
      cases w : T aim n with
      | none => exact ⟨c, h1, h2⟩
      | some y =>
        dsimp only
        rw [h1]
        dsimp only
        by_cases b : befB aim y c.2 = true
        · rw [if_pos b]
          refine ⟨_, rfl, ?_⟩
          rw [befB_f] at h2 ⊢
          rw [befB_iff] at b
          dsimp only
          omega
        · rw [if_neg b]; exact ⟨c, rfl, h2⟩
/-- the best row by an aim with so many ties at most, among the first n -/
def bstP (d : jRD) (aim t n : Nat) (o : Option Nat) : Prop := match o with
  | none => ∀ m, m < n → rgt d m = true → ¬ rec4 d m 3 ≤ t
  | some w => w < n ∧ rgt d w = true ∧ rec4 d w 3 ≤ t ∧ ∀ m, m < n → rgt d m = true → rec4 d m 3 ≤ t → befB aim (rec4 d m) (rec4 d w) = false
theorem bst_one {d : jRD} {aim t n : Nat} {o o' : Option Nat} (h : bstP d aim t n o) (h' : bstP d aim t n o') : o = o' := by
  cases o with
  | none =>
    cases o' with
    | none => rfl
    | some w => exact absurd h'.2.2.1 (h w h'.1 h'.2.1)
  | some v =>
    cases o' with
    | none => exact absurd h.2.2.1 (h' v h.1 h.2.1)
    | some w =>
      have a := h.2.2.2 w h'.1 h'.2.1 h'.2.2.1
      have b := h'.2.2.2 v h.1 h.2.1 h.2.2.1
      rw [befB_f] at a b
      have e1 : rec4 d v 4 = v := rfl
      have e2 : rec4 d w 4 = w := rfl
      exact congrArg some (by omega)
def tMax (t : Option Nat) : Nat := match t with | none => 100 | some t => t
theorem rec4_ties {d : jRD} (hd : rdOk d) (hP : 0 < rP d) (m : Nat) : rec4 d m 3 ≤ 10 := by
  have h6 := hd.1
  have g := sq_ties hd (dg d m) 0 0 (rP d - 1)
  rw [show rP d - 1 + 1 = rP d by omega] at g
  show gt (sq d (dg d m) 0 0 (rP d)) ≤ 10
  omega
def pkO (d : jRD) (aim : Nat) (t : Option Nat) : Option (Nat × (Nat → Nat)) := pk (acc d (nRows d)).1 aim (mostT t + 1)
theorem pkO_bst {d : jRD} (hd : rdOk d) (hP : 0 < rP d) {aim : Nat} (ha : aim < 3) {t : Option Nat} (ht : ∀ m, t = some m → m ≤ 12) : bstP d aim (tMax t) (nRows d) ((pkO d aim t).map fun c => c.2 4) ∧ ∀ c, pkO d aim t = some c → c.2 = rec4 d (c.2 4) := by
  have hm : ∀ x, x ≤ 10 → (x ≤ tMax t ↔ x < mostT t + 1) := by
    intro x hx
    cases t with
    | none => exact ⟨fun _ => by show x < 10 + 1; omega, fun _ => by show x ≤ 100; omega⟩
    | some m =>
      show x ≤ m ↔ x < (if 10 < m then 10 else m) + 1
      split <;> omega
  have hc : ∀ c, pkO d aim t = some c → ∃ m, m < nRows d ∧ rgt d m = true ∧ c.2 = rec4 d m ∧ c.2 3 < mostT t + 1 := by
    intro c e
    obtain ⟨h1, h2⟩ := pkIn _ c e
    obtain ⟨m, g1, g2, g3, g4⟩ := acc_in _ aim _ _ ha h2
    exact ⟨m, g1, g2, g3, by omega⟩
  refine ⟨?_, fun c e => ?_⟩
  · cases e : pkO d aim t with
    | none =>
      intro m h1 h2 h3
      obtain ⟨x, g1, g2⟩ := acc_le (nRows d) aim m ha h1 h2
      have h10 := rec4_ties hd hP m
      obtain ⟨c, g3, _⟩ := pkk_le (mostT t + 1) (rec4 d m 3) x ((hm _ h10).mp h3) g1
      have e : pk (acc d (nRows d)).1 aim (mostT t + 1) = none := e
      rw [e] at g3
      cases g3
    | some c =>
      obtain ⟨w, g1, g2, g3, g4⟩ := hc c e
      have h10 := rec4_ties hd hP w
      have e4 : c.2 4 = w := by rw [g3]; rfl
      show bstP d aim (tMax t) (nRows d) (some (c.2 4))
      rw [e4]
      refine ⟨g1, g2, (hm _ h10).mpr (by rw [g3] at g4; exact g4), fun m h1 h2 h3 => ?_⟩
      obtain ⟨x, q1, q2⟩ := acc_le (nRows d) aim m ha h1 h2
      have h10m := rec4_ties hd hP m
      obtain ⟨c2, q3, q4⟩ := pkk_le (mostT t + 1) (rec4 d m 3) x ((hm _ h10m).mp h3) q1
      have e : pk (acc d (nRows d)).1 aim (mostT t + 1) = some c := e
      rw [e] at q3
      cases q3
      rw [← g3]
      rw [befB_f] at q2 q4 ⊢
      omega
  · obtain ⟨m, g1, g2, g3, g4⟩ := hc c e
    rw [g3]; rfl
/-- the fewest ties among the right rows with such a last minute -/
def fewP (d : jRD) (s n : Nat) (o : Option Nat) : Prop := match o with
  | none => ∀ m, m < n → rgt d m = true → ¬ rec4 d m 0 = s
  | some t => (∃ m, m < n ∧ rgt d m = true ∧ rec4 d m 0 = s ∧ rec4 d m 3 = t) ∧ ∀ m, m < n → rgt d m = true → rec4 d m 0 = s → t ≤ rec4 d m 3
theorem few_one {d : jRD} {s n : Nat} {o o' : Option Nat} (h : fewP d s n o) (h' : fewP d s n o') : o = o' := by
  cases o with
  | none =>
    cases o' with
    | none => rfl
    | some w =>
      obtain ⟨⟨m, h1, h2, h3, _⟩, _⟩ := h'
      exact absurd h3 (h m h1 h2)
  | some v =>
    cases o' with
    | none =>
      obtain ⟨⟨m, h1, h2, h3, _⟩, _⟩ := h
      exact absurd h3 (h' m h1 h2)
    | some w =>
      obtain ⟨⟨m, h1, h2, h3, h4⟩, h5⟩ := h
      obtain ⟨⟨m', g1, g2, g3, g4⟩, g5⟩ := h'
      have a := h5 m' g1 g2 g3
      have b := g5 m h1 h2 h3
      exact congrArg some (by omega)
theorem fwT_few {d : jRD} (hd : rdOk d) (hP : 0 < rP d) {s : Nat} (hs : ∀ m, m < nRows d → rgt d m = true → s ≤ rec4 d m 0) :
    ∀ k t, t + k = 11 → (∀ m, m < nRows d → rgt d m = true → rec4 d m 0 = s → t ≤ rec4 d m 3) → fewP d s (nRows d) (fwT (acc d (nRows d)).1 s k t)
  | 0, t, ht, hlo => by
    intro m h1 h2 h3
    have := hlo m h1 h2 h3
    have := rec4_ties hd hP m
    omega
  | k + 1, t, ht, hlo => by
    have next : (∀ m, m < nRows d → rgt d m = true → rec4 d m 0 = s → ¬ rec4 d m 3 = t) → fewP d s (nRows d) (fwT (acc d (nRows d)).1 s k (t + 1)) := by
      intro hn
      exact fwT_few hd hP hs k (t + 1) (by omega) (fun m h1 h2 h3 => by have := hlo m h1 h2 h3; have := hn m h1 h2 h3; omega)
    rw [fwT]
    cases e : (acc d (nRows d)).1 0 t with
    | none =>
      refine next (fun m h1 h2 h3 h4 => ?_)
      obtain ⟨x, g1, g2⟩ := acc_le (nRows d) 0 m (by omega) h1 h2
      rw [h4, e] at g1
      cases g1
    | some x =>
      dsimp only
      obtain ⟨m0, a1, a2, a3, a4⟩ := acc_in _ 0 _ _ (by omega) e
      by_cases c : x 0 = s
      · rw [if_pos c]
        exact ⟨⟨m0, a1, a2, by rw [← a3]; exact c, by rw [← a3]; exact a4⟩, hlo⟩
      · rw [if_neg c]
        refine next (fun m h1 h2 h3 h4 => ?_)
        obtain ⟨y, g1, g2⟩ := acc_le (nRows d) 0 m (by omega) h1 h2
        rw [h4, e] at g1
        cases g1
        rw [befB_f] at g2
        have := hs m0 a1 a2
        rw [← a3] at this
        omega
