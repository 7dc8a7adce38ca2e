/-! The road of a text, number by number. -/
theorem setPcs_P : ∀ (ws : List (Nat × Nat)) (k : Nat) (d : jRD), rP d = k → rP (setPcs d k ws) = k + ws.length
  | [], k, d, h => h
  | w :: ws, k, d, _ => by
    rw [setPcs, setPcs_P ws (k + 1) (setPc d k w) rfl, List.length_cons]; omega
theorem setPcs_Q : ∀ (ws : List (Nat × Nat)) (k : Nat) (d : jRD), rQ (setPcs d k ws) = rQ d ∧ rO (setPcs d k ws) = rO d
  | [], _, _ => ⟨rfl, rfl⟩
  | w :: ws, k, d => setPcs_Q ws (k + 1) (setPc d k w)
theorem setPcs_M : ∀ (ws : List (Nat × Nat)) (k : Nat) (d : jRD) (j : Nat), rM (setPcs d k ws) j = (if k ≤ j ∧ j < k + ws.length then (ws.getD (j - k) (0, 0)).1 else rM d j) ∧ rG (setPcs d k ws) j = (if k ≤ j ∧ j < k + ws.length then (ws.getD (j - k) (0, 0)).2 else rG d j)
  | [], k, d, j => by
    rw [if_neg (by rw [List.length_nil]; omega), if_neg (by rw [List.length_nil]; omega)]
    exact ⟨rfl, rfl⟩
  | w :: ws, k, d, j => by
    obtain ⟨g1, g2⟩ := setPcs_M ws (k + 1) (setPc d k w) j
    rw [setPcs, g1, g2]
    simp only [List.length_cons]
    by_cases e : j = k
    · subst e
      rw [if_neg (by omega), if_pos (by omega), if_neg (by omega), if_pos (by omega), Nat.sub_self]
      constructor
      · show updN (rM d) j w.1 j = _
        unfold updN; rw [if_pos rfl]; rfl
      · show updN (rG d) j w.2 j = _
        unfold updN; rw [if_pos rfl]; rfl
    · by_cases c : k + 1 ≤ j ∧ j < k + 1 + ws.length
      · rw [if_pos c, if_pos c, if_pos (by omega), if_pos (by omega), show j - k = (j - (k + 1)) + 1 by omega]
        exact ⟨rfl, rfl⟩
      · rw [if_neg c, if_neg c, if_neg (by omega), if_neg (by omega)]
        constructor
        · show updN (rM d) k w.1 j = _
          unfold updN; rw [if_neg e]
        · show updN (rG d) k w.2 j = _
          unfold updN; rw [if_neg e]
theorem setRows_M (k : Nat) : ∀ (xs : List Nat) (u : Nat) (d : jRD), rM (setRows d k u xs) = rM d ∧ rG (setRows d k u xs) = rG d
  | [], _, _ => ⟨rfl, rfl⟩
  | x :: xs, u, d => by
    have g := setRows_M k xs (u + 1) (setRow d k u x)
    have e : rM (setRow d k u x) = rM d ∧ rG (setRow d k u x) = rG d := by unfold setRow; split <;> exact ⟨rfl, rfl⟩
    rw [setRows]
    exact ⟨g.1.trans e.1, g.2.trans e.2⟩
theorem setRows_3 : ∀ (xs : List Nat) (u : Nat) (d : jRD), rO (setRows d 3 u xs) = rO d ∧ ∀ j, rQ (setRows d 3 u xs) j = if u ≤ j ∧ j < u + xs.length then xs.getD (j - u) 0 else rQ d j
  | [], u, d => ⟨rfl, fun j => by rw [if_neg (by rw [List.length_nil]; omega)]; rfl⟩
  | x :: xs, u, d => by
    obtain ⟨g1, g2⟩ := setRows_3 xs (u + 1) (setRow d 3 u x)
    rw [setRows]
    refine ⟨g1.trans rfl, fun j => ?_⟩
    rw [g2, List.length_cons]
    by_cases e : j = u
    · subst e
      rw [if_neg (by omega), if_pos (by omega), Nat.sub_self]
      show updN (rQ d) j x j = _
      unfold updN; rw [if_pos rfl]; rfl
    · by_cases c : u + 1 ≤ j ∧ j < u + 1 + xs.length
      · rw [if_pos c, if_pos (by omega), show j - u = (j - (u + 1)) + 1 by omega]; rfl
      · rw [if_neg c, if_neg (by omega)]
        show updN (rQ d) u x j = _
        unfold updN; rw [if_neg e]
theorem setRows_4 : ∀ (xs : List Nat) (u : Nat) (d : jRD), rQ (setRows d 4 u xs) = rQ d ∧ ∀ j, rO (setRows d 4 u xs) j = if u ≤ j ∧ j < u + xs.length then xs.getD (j - u) 0 else rO d j
  | [], u, d => ⟨rfl, fun j => by rw [if_neg (by rw [List.length_nil]; omega)]; rfl⟩
  | x :: xs, u, d => by
    obtain ⟨g1, g2⟩ := setRows_4 xs (u + 1) (setRow d 4 u x)
    rw [setRows]
    refine ⟨g1.trans rfl, fun j => ?_⟩
    rw [g2, List.length_cons]
    by_cases e : j = u
    · subst e
      rw [if_neg (by omega), if_pos (by omega), Nat.sub_self]
      show updN (rO d) j x j = _
      unfold updN; rw [if_pos rfl]; rfl
    · by_cases c : u + 1 ≤ j ∧ j < u + 1 + xs.length
      · rw [if_pos c, if_pos (by omega), show j - u = (j - (u + 1)) + 1 by omega]; rfl
      · rw [if_neg c, if_neg (by omega)]
        show updN (rO d) u x j = _
        unfold updN; rw [if_neg e]
theorem setEs_P : ∀ (xs : List (List Nat)) (d : jRD), rP (setEs d xs) = rP d ∧ rE (setEs d xs) = rE d + xs.length ∧ rB (setEs d xs) = rB d ∧ rL (setEs d xs) = rL d ∧ rM (setEs d xs) = rM d ∧ rG (setEs d xs) = rG d ∧ rO (setEs d xs) = rO d
  | [], d => ⟨rfl, rfl, rfl, rfl, rfl, rfl, rfl⟩
  | x :: xs, d => by
    obtain ⟨g1, g2, g3, g4, g5, g6, g7⟩ := setEs_P xs (setE1 d x)
    obtain ⟨p1, p2, p3, p4⟩ := setRows_P 3 x (4 * rE d) (setPn d (rP d) (rE d + 1) (rB d))
    obtain ⟨m1, m2⟩ := setRows_M 3 x (4 * rE d) (setPn d (rP d) (rE d + 1) (rB d))
    have o1 := (setRows_3 x (4 * rE d) (setPn d (rP d) (rE d + 1) (rB d))).1
    rw [setEs, List.length_cons]
    refine ⟨g1.trans p1, ?_, g3.trans p3, g4.trans p4, g5.trans m1, g6.trans m2, g7.trans o1⟩
    rw [g2]
    have p2 : rE (setE1 d x) = rE d + 1 := p2
    rw [p2]; omega
theorem setBs_P : ∀ (xs : List (List Nat)) (d : jRD), rP (setBs d xs) = rP d ∧ rE (setBs d xs) = rE d ∧ rB (setBs d xs) = rB d + xs.length ∧ rL (setBs d xs) = rL d ∧ rM (setBs d xs) = rM d ∧ rG (setBs d xs) = rG d ∧ rQ (setBs d xs) = rQ d
  | [], d => ⟨rfl, rfl, rfl, rfl, rfl, rfl, rfl⟩
  | x :: xs, d => by
    obtain ⟨g1, g2, g3, g4, g5, g6, g7⟩ := setBs_P xs (setB1 d x)
    obtain ⟨p1, p2, p3, p4⟩ := setRows_P 4 x (6 * rB d) (setPn d (rP d) (rE d) (rB d + 1))
    obtain ⟨m1, m2⟩ := setRows_M 4 x (6 * rB d) (setPn d (rP d) (rE d) (rB d + 1))
    have o1 := (setRows_4 x (6 * rB d) (setPn d (rP d) (rE d) (rB d + 1))).1
    rw [setBs, List.length_cons]
    refine ⟨g1.trans p1, g2.trans p2, ?_, g4.trans p4, g5.trans m1, g6.trans m2, g7.trans o1⟩
    rw [g3]
    have p3 : rB (setB1 d x) = rB d + 1 := p3
    rw [p3]; omega
theorem setEs_Q : ∀ (xs : List (List Nat)) (d : jRD), (∀ y, y ∈ xs → y.length = 4) → ∀ p j, j < 4 → rQ (setEs d xs) (4 * p + j) = if rE d ≤ p ∧ p < rE d + xs.length then (xs.getD (p - rE d) []).getD j 0 else rQ d (4 * p + j)
  | [], d, _, p, j, _ => by rw [if_neg (by rw [List.length_nil]; omega)]; rfl
  | x :: xs, d, h, p, j, hj => by
    have hx := h x (List.mem_cons_self ..)
    have g := setEs_Q xs (setE1 d x) (fun y hy => h y (List.mem_cons_of_mem _ hy)) p j hj
    have p2 : rE (setE1 d x) = rE d + 1 := (setRows_P 3 x (4 * rE d) (setPn d (rP d) (rE d + 1) (rB d))).2.1
    have q2 : rQ (setE1 d x) (4 * p + j) = if 4 * rE d ≤ 4 * p + j ∧ 4 * p + j < 4 * rE d + x.length then x.getD (4 * p + j - 4 * rE d) 0 else rQ d (4 * p + j) := (setRows_3 x (4 * rE d) (setPn d (rP d) (rE d + 1) (rB d))).2 (4 * p + j)
    rw [setEs, g, p2, q2, hx, List.length_cons]
    by_cases e : p = rE d
    · subst e
      rw [if_neg (by omega), if_pos (by omega), if_pos (by omega), Nat.sub_self, show 4 * rE d + j - 4 * rE d = j by omega]; rfl
    · by_cases c : rE d + 1 ≤ p ∧ p < rE d + 1 + xs.length
      · rw [if_pos c, if_pos (by omega), show p - rE d = (p - (rE d + 1)) + 1 by omega]; rfl
      · rw [if_neg c, if_neg (by omega), if_neg (by omega)]
theorem setBs_O : ∀ (xs : List (List Nat)) (d : jRD), (∀ y, y ∈ xs → y.length = 6) → ∀ p j, j < 6 → rO (setBs d xs) (6 * p + j) = if rB d ≤ p ∧ p < rB d + xs.length then (xs.getD (p - rB d) []).getD j 0 else rO d (6 * p + j)
  | [], d, _, p, j, _ => by rw [if_neg (by rw [List.length_nil]; omega)]; rfl
  | x :: xs, d, h, p, j, hj => by
    have hx := h x (List.mem_cons_self ..)
    have g := setBs_O xs (setB1 d x) (fun y hy => h y (List.mem_cons_of_mem _ hy)) p j hj
    have p2 : rB (setB1 d x) = rB d + 1 := (setRows_P 4 x (6 * rB d) (setPn d (rP d) (rE d) (rB d + 1))).2.2.1
    have q2 : rO (setB1 d x) (6 * p + j) = if 6 * rB d ≤ 6 * p + j ∧ 6 * p + j < 6 * rB d + x.length then x.getD (6 * p + j - 6 * rB d) 0 else rO d (6 * p + j) := (setRows_4 x (6 * rB d) (setPn d (rP d) (rE d) (rB d + 1))).2 (6 * p + j)
    rw [setBs, g, p2, q2, hx, List.length_cons]
    by_cases e : p = rB d
    · subst e
      rw [if_neg (by omega), if_pos (by omega), if_pos (by omega), Nat.sub_self, show 6 * rB d + j - 6 * rB d = j by omega]; rfl
    · by_cases c : rB d + 1 ≤ p ∧ p < rB d + 1 + xs.length
      · rw [if_pos c, if_pos (by omega), show p - rB d = (p - (rB d + 1)) + 1 by omega]; rfl
      · rw [if_neg c, if_neg (by omega), if_neg (by omega)]
/-! what a right text holds -/
abbrev jTx : Type := List (Nat × Nat) × List (List Nat) × List (List Nat)
theorem sNums_len {cd : Nat → Int32} : ∀ (qs : List (Nat × Nat)) (first : Bool) (t : Nat) (w : List Nat × Nat), sNums cd qs first t = .inr w → w.1.length = qs.length
  | [], _, _, w, h => by cases h; rfl
  | q :: qs, first, t, w, h => by
    rw [sNums] at h
    split at h
    · cases h
    · split at h
      · cases h
      · split at h
        · cases h
        · next z e =>
          cases h
          have := sNums_len qs false _ _ e
          rw [List.length_cons, List.length_cons, this]
theorem sPieces_ok {cd : Nat → Int32} : ∀ (m : Nat) (first : Bool) (t : Nat) (w : List (Nat × Nat) × Nat), sPieces cd m first t = .inr w → w.1.length ≤ m ∧ (first = true → 0 < m → 0 < w.1.length) ∧ ∀ q, q ∈ w.1 → 0 < q.1 ∧ q.1 ≤ 9 ∧ q.2 ≤ 2
  | 0, _, _, w, h => by
    cases h
    exact ⟨Nat.le_refl _, fun _ z => absurd z (Nat.not_lt_zero 0), fun q z => by cases z⟩
  | m + 1, first, t, w, h => by
    rw [sPieces] at h
    split at h
    · split at h
      · cases h
      · next q e =>
        split at h
        · cases h
        · next z e2 =>
          cases h
          obtain ⟨g1, _, g3⟩ := sPieces_ok m false _ _ e2
          refine ⟨by rw [List.length_cons]; omega, fun _ _ => by rw [List.length_cons]; omega, fun q' hq => ?_⟩
          rcases List.mem_cons.mp hq with rfl | hq
          · unfold sPiece at e
            split at e
            · next d1 =>
              split at e
              · next d2 =>
                cases e
                have a1 := (dgt_dv (by decide) d1).2
                have a2 := (dgt_dv (by decide) d2).2
                exact ⟨by dsimp only; omega, by dsimp only; omega, by dsimp only; omega⟩
              · cases e
            · cases e
          · exact g3 q' hq
    · next c =>
      cases h
      exact ⟨Nat.zero_le _, fun z => absurd (Or.inl z) c, fun q z => by cases z⟩
theorem sFolk_ok {cd : Nat → Int32} {n : Nat} : ∀ (m e b t : Nat) (w : List (List Nat) × List (List Nat)), sFolk cd n m e b t = .inr w → 0 < e + w.1.length ∧ (∀ y, y ∈ w.1 → y.length = 4) ∧ (∀ y, y ∈ w.2 → y.length = 6) ∧ (e ≤ 4 → e + w.1.length ≤ 4) ∧ (b ≤ 2 → b + w.2.length ≤ 2) ∧ (0 < b → w.1 = [])
  | 0, _, _, _, w, h => by cases h
  | m + 1, e, b, t, w, h => by
    rw [sFolk] at h
    split at h
    · next c =>
      cases h
      refine ⟨?_, ?_, ?_, ?_, ?_, fun _ => rfl⟩
      · show 0 < e + 0; omega
      · intro y z; cases z
      · intro y z; cases z
      · intro z; show e + 0 ≤ 4; omega
      · intro z; show b + 0 ≤ 2; omega
    · split at h
      · cases h
      · split at h
        · next c =>
          split at h
          · cases h
          · next x ex =>
            split at h
            · cases h
            · next z ez =>
              cases h
              obtain ⟨g1, g2, g3, g4, g5, g6⟩ := sFolk_ok m _ _ _ _ ez
              refine ⟨by rw [List.length_cons]; omega, fun y hy => ?_, g3, fun q => by rw [List.length_cons]; have := g4 (by omega); omega, g5, fun q => by omega⟩
              rcases List.mem_cons.mp hy with rfl | hy
              · exact sNums_len _ _ _ _ ex
              · exact g2 y hy
        · split at h
          · next c =>
            split at h
            · cases h
            · next x ex =>
              split at h
              · cases h
              · next z ez =>
                cases h
                obtain ⟨g1, g2, g3, g4, g5, g6⟩ := sFolk_ok m _ _ _ _ ez
                refine ⟨g1, g2, fun y hy => ?_, g4, fun q => by rw [List.length_cons]; have := g5 (by omega); omega, fun _ => g6 (by omega)⟩
                rcases List.mem_cons.mp hy with rfl | hy
                · exact sNums_len _ _ _ _ ex
                · exact g3 y hy
          · cases h
theorem sText_ok {cd : Nat → Int32} {n : Nat} {w : jTx} (h : sText cd n = .inr w) : 0 < w.1.length ∧ w.1.length ≤ 6 ∧ 0 < w.2.1.length ∧ w.2.1.length ≤ 4 ∧ w.2.2.length ≤ 2 ∧ (∀ q, q ∈ w.1 → 0 < q.1 ∧ q.1 ≤ 9 ∧ q.2 ≤ 2) ∧ (∀ y, y ∈ w.2.1 → y.length = 4) ∧ ∀ y, y ∈ w.2.2 → y.length = 6 := by
  unfold sText at h
  split at h
  · split at h
    · cases h
    · next p ep =>
      split at h
      · cases h
      · next z ez =>
        cases h
        obtain ⟨a1, a2, a3⟩ := sPieces_ok _ _ _ _ ep
        obtain ⟨b1, b2, b3, b4, b5, b6⟩ := sFolk_ok _ _ _ _ _ ez
        have := b4 (by omega)
        have := b5 (by omega)
        exact ⟨a2 rfl (by omega), a1, by dsimp only; omega, by dsimp only; omega, by dsimp only; omega, a3, b2, b3⟩
  · cases h
theorem rdOf_n (d : jRD) (w : jTx) : rP (rdOf d w) = w.1.length ∧ rE (rdOf d w) = w.2.1.length ∧ rB (rdOf d w) = w.2.2.length ∧ rL (rdOf d w) = rL d := by
  unfold rdOf
  obtain ⟨b1, b2, b3, b4, _, _, _⟩ := setBs_P w.2.2 (setEs (setPcs (setPn d 0 0 0) 0 w.1) w.2.1)
  obtain ⟨e1, e2, e3, e4, _, _, _⟩ := setEs_P w.2.1 (setPcs (setPn d 0 0 0) 0 w.1)
  obtain ⟨p1, p2, p3⟩ := setPcs_E w.1 0 (setPn d 0 0 0)
  have p0 := setPcs_P w.1 0 (setPn d 0 0 0) rfl
  have q1 : rE (setPn d 0 0 0) = 0 := rfl
  have q2 : rB (setPn d 0 0 0) = 0 := rfl
  have q3 : rL (setPn d 0 0 0) = rL d := rfl
  refine ⟨?_, ?_, ?_, ?_⟩
  · rw [b1, e1, p0]; omega
  · rw [b2, e2, p1, q1]; omega
  · rw [b3, e3, p2, q2]; omega
  · rw [b4, e4, p3, q3]
theorem rdOf_M (d : jRD) (w : jTx) {k : Nat} (hk : k < w.1.length) : rM (rdOf d w) k = (w.1.getD k (0, 0)).1 ∧ rG (rdOf d w) k = (w.1.getD k (0, 0)).2 := by
  unfold rdOf
  obtain ⟨_, _, _, _, b5, b6, _⟩ := setBs_P w.2.2 (setEs (setPcs (setPn d 0 0 0) 0 w.1) w.2.1)
  obtain ⟨_, _, _, _, e5, e6, _⟩ := setEs_P w.2.1 (setPcs (setPn d 0 0 0) 0 w.1)
  obtain ⟨m1, m2⟩ := setPcs_M w.1 0 (setPn d 0 0 0) k
  rw [if_pos (by omega), Nat.sub_zero] at m1 m2
  rw [b5, e5, b6, e6]
  exact ⟨m1, m2⟩
theorem rdOf_Q (d : jRD) {w : jTx} (h4 : ∀ y, y ∈ w.2.1 → y.length = 4) {p j : Nat} (hp : p < w.2.1.length) (hj : j < 4) : sP (rdOf d w) p j = (w.2.1.getD p []).getD j 0 := by
  unfold sP rdOf
  obtain ⟨_, _, _, _, _, _, b7⟩ := setBs_P w.2.2 (setEs (setPcs (setPn d 0 0 0) 0 w.1) w.2.1)
  have q := setEs_Q w.2.1 (setPcs (setPn d 0 0 0) 0 w.1) h4 p j hj
  have p1 : rE (setPcs (setPn d 0 0 0) 0 w.1) = 0 := (setPcs_E w.1 0 (setPn d 0 0 0)).1
  rw [p1, if_pos (by omega), Nat.sub_zero] at q
  rw [b7, q]
theorem rdOf_O (d : jRD) {w : jTx} (h6 : ∀ y, y ∈ w.2.2 → y.length = 6) {p j : Nat} (hp : p < w.2.2.length) (hj : j < 6) : sB (rdOf d w) p j = (w.2.2.getD p []).getD j 0 := by
  unfold sB rdOf
  have q := setBs_O w.2.2 (setEs (setPcs (setPn d 0 0 0) 0 w.1) w.2.1) h6 p j hj
  have p1 : rB (setEs (setPcs (setPn d 0 0 0) 0 w.1) w.2.1) = 0 := (setEs_P w.2.1 (setPcs (setPn d 0 0 0) 0 w.1)).2.2.1.trans (setPcs_E w.1 0 (setPn d 0 0 0)).2.1
  rw [p1, if_pos (by omega), Nat.sub_zero] at q
  rw [q]
theorem getD_in {α : Type} {l : List α} {k : Nat} (h : k < l.length) (x : α) : l.getD k x ∈ l := by
  rw [List.getD, List.getElem?_eq_getElem h]
  exact List.getElem_mem h
theorem rdOf_go {cd : Nat → Int32} {n : Nat} {d : jRD} {w : jTx} (h : sText cd n = .inr w) (hd : rdOk (rdOf d w)) : rdGo (rdOf d w) := by
  obtain ⟨a1, a2, a3, a4, a5, a6, a7, a8⟩ := sText_ok h
  obtain ⟨n1, n2, n3, n4⟩ := rdOf_n d w
  refine ⟨hd, by omega, by omega, fun k hk => ?_⟩
  rw [n1] at hk
  rw [(rdOf_M d w hk).1]
  exact (a6 _ (getD_in hk _)).1
