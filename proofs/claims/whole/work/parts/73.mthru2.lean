section MThru3
variable {h : jHp} {m i : Nat} {d : jRD} {c : Nat → Nat} {F : Nat → Value} {A : Nat → Nat → Int32}
/-- what a whole row has told -/
def TR (d : jRD) (c : Nat → Nat) (g mn : Nat) (F : Nat → Value) (A : Nat → Nat → Int32) : Prop :=
  (∀ g', g' ≤ rP d → ∀ p, p < rE d → A 20 (7 * p + g') = nI (ga (sq d c g mn g') p)) ∧
  (∀ k, k < rP d → ∀ p, p < rE d → A 21 (6 * p + k) = nI (wnt d (rowC d c k) k (sq d c g mn k) p)) ∧
  (∀ b, b < rB d → ∀ g', g' ≤ rP d → A 24 (7 * b + g') = cmI (gc (sq d c g mn g') b)) ∧
  (∀ p, p < rE d → A 22 p = nI (gf (sq d c g mn (rP d)) p)) ∧ F 35 = .int (nI (gt (sq d c g mn (rP d)))) ∧ F 36 = .int (nI (gl (sq d c g mn (rP d))))
theorem fst_none {f : Nat → Nat} : ∀ m p, fstW f m p = none → ∀ q, p ≤ q → q < p + m → f q = 0
  | 0, p, _, q, h1, h2 => by omega
  | m + 1, p, h, q, h1, h2 => by
    rw [fstW] at h
    by_cases e : f p = 0
    · rw [if_pos e] at h
      by_cases c : q = p
      · rw [c]; exact e
      · exact fst_none m (p + 1) h q (by omega) (by omega)
    · rw [if_neg e] at h; cases h
theorem msk_some (f : Nat → Bool) : ∀ n, ¬ msk f n = 0 → ∃ p, p < n ∧ f p = true
  | 0, h => absurd rfl h
  | n + 1, h => by
    by_cases e : f n = true
    · exact ⟨n, by omega, e⟩
    · rw [msk, if_neg e, Nat.add_zero] at h
      obtain ⟨p, h1, h2⟩ := msk_some f n h
      exact ⟨p, by omega, h2⟩
/-- one piece, behind the meeting -/
theorem l_piece {k g mn : Nat} (hk : k < rP d) (hmn : mn ≤ 60) (E : ME d c i A) (G : MG d k (sq d c g mn k) F A) (H : MH d c g mn k A) (o5 o6 : Option Value) :
    (∃ w, fstW (whyN d (rowC d c k) k (sq d c g mn k)) (rE d) 0 = some w ∧ R 4 181 37 [some (.ref m), some (.int (nI i)), some (.int (nI g)), some (.int (nI mn)), some (.int (nI k)), o5, o6] [] (hX 8 h m F A) = some (some (.int (nI (100 * k + w))), hX 8 h m F A)) ∨
    (fstW (whyN d (rowC d c k) k (sq d c g mn k)) (rE d) 0 = none ∧ ∃ F' A' o5', R 4 181 37 [some (.ref m), some (.int (nI i)), some (.int (nI g)), some (.int (nI mn)), some (.int (nI k)), o5, o6] [] (hX 8 h m F A) = R 4 181 8 [some (.ref m), some (.int (nI i)), some (.int (nI g)), some (.int (nI mn)), some (.int (nI (k + 1))), o5', none] [] (hX 8 h m F' A') ∧ (∀ j, j ≠ 35 → j ≠ 36 → F' j = F j) ∧ (∀ j, j < 20 ∨ 26 < j → A' j = A j) ∧ MG d (k + 1) (m0 d c g mn (k + 1)) F' A' ∧ MH d c g mn (k + 1) A') := by
  have hi := E.2.2.1
  have hd := E.2.1
  have h4 := hd.2.1
  have h6 := hd.1
  have h2 := hd.2.2.1
  have hs := sq_ok hd c g hmn k
  have e1 := l_why (h := h) (m := m) (F := F) hk hs E G g mn (rE d) 0 none (Nat.zero_add _)
  rw [B181_37, e1]
  cases hw : fstW (whyN d (rowC d c k) k (sq d c g mn k)) (rE d) 0 with
  | some w => exact Or.inl ⟨w, rfl, rfl⟩
  | none =>
    refine Or.inr ⟨rfl, ?_⟩
    dsimp only
    have hr : ∀ b, b < rB d → ¬ rdrs d (rowC d c k) b = 0 → ¬ gc (sq d c g mn k) b = none := by
      intro b hb hrd z
      obtain ⟨p, hp, hp1⟩ := msk_some _ _ hrd
      have hy := fst_none _ _ hw p (Nat.zero_le _) (by omega)
      unfold rdb at hp1
      rw [beq_iff_eq] at hp1
      unfold whyN at hy
      rw [if_neg (by omega), hp1, Nat.add_sub_cancel, if_pos z] at hy
      omega
    obtain ⟨F1, A1, e2, E1, eF, P⟩ := l_beasts2 (h := h) (m := m) hk hs (A0 := A) (fun p hp => (G.1 p hp).1) hr g mn (F0 := F) (rB d) 0 F A (Nat.zero_add _) E (fun _ _ _ => rfl) ⟨fun b _ hb => ⟨G.2.1 b hb, H.2.2.2 b hb (k + 1) (by omega) (by omega)⟩, fun b hb => absurd hb (Nat.not_lt_zero b), fun p hp _ z => absurd z (Nat.not_lt_zero _), ⟨G.2.2.1, G.2.2.2⟩, fun _ _ _ _ _ _ _ _ => rfl⟩
    obtain ⟨p1, p2, p3, ⟨p4, p4b⟩, p5⟩ := P
    have hA1 : ∀ p, p < rE d → A1 20 (7 * p + k) = nI (ga (sq d c g mn k) p) ∧ A1 22 p = nI (gf (sq d c g mn k) p) := fun p hp => ⟨(p5 20 _ (by omega) (by omega) (by omega) (by omega) (by omega) (by omega)).trans (G.1 p hp).1, (p5 22 _ (by omega) (by omega) (by omega) (by omega) (by omega) (by omega)).trans (G.1 p hp).2⟩
    obtain ⟨A2, e3, w1, w2⟩ := c_goWalking (h := h) (m := m) (F := F1) hs hk E1 hA1
    rw [e2, B181_91, x8_4, obd_some, m_3 hi, obd_some, E1.1.2.2.1, if_neg (show ¬ nI (rB d) < nI (rB d) from Int32.lt_irrefl), m_o, obd_some, e3]
    simp only [obd_some, obd_none, Option.toList_some, Option.toList_none, List.cons_append, List.nil_append, cond_true, cond_false, B181_124, nJ_add]
    have far : ∀ j t, ¬ (j = 20 ∧ t % 7 = k + 1) → ¬ (j = 21 ∧ t % 6 = k) → ¬ (j = 22) → A2 j t = A1 j t := by
      intro j t a1 a2 a3
      refine w2 j t ?_
      rintro ⟨p, q1, q2, z | z | z⟩ <;> omega
    have f24 : ∀ t, A2 24 t = A1 24 t := fun t => far 24 t (by omega) (by omega) (by omega)
    have kp : ∀ j t p, ¬ rowC d c k p = 0 → ((j = 20 ∧ t = 7 * p + k + 1) ∨ (j = 21 ∧ t = 6 * p + k) ∨ (j = 22 ∧ t = p)) → A2 j t = A1 j t := by
      intro j t p ha hz
      refine w2 j t ?_
      rintro ⟨q, q1, q2, z⟩
      have : q = p := by omega
      subst this
      exact ha q2
    refine ⟨F1, A2, some (.int (nI (rB d))), rfl, eF, fun j hj => funext fun t => ?_, ⟨fun p hp => ?_, fun b hb => ?_, p4, p4b⟩, fun g' hg' p hp => ?_, fun k' hk' p hp => ?_, fun b hb g' hg' => ?_, fun b hb g' h1 h2 => ?_⟩
    · rw [far j t (by omega) (by omega) (by omega)]
      exact p5 j t (by omega) (by omega) (by omega) (by omega) (by omega) (by omega)
    · show A2 20 (7 * p + (k + 1)) = nI (if rowC d c k p = 0 then ga (sq d c g mn k) p + wlk d p k else strt d (rowC d c k) k (sq d c g mn k) (rowC d c k p - 1) + rid d (rowC d c k p - 1) k) ∧ A2 22 p = nI (if rowC d c k p = 0 then gf (sq d c g mn k) p + rM d k else gf (sq d c g mn k) p)
      by_cases ha : rowC d c k p = 0
      · have g := w1 p hp ha
        rw [if_pos ha, if_pos ha]
        exact ⟨g.1, g.2.2⟩
      · have hrw := row_le E.2.2.2.2 k p
        rw [if_neg ha, if_neg ha]
        refine ⟨?_, ?_⟩
        · rw [kp 20 (7 * p + (k + 1)) p ha (Or.inl ⟨rfl, rfl⟩)]
          exact (p3 p hp ha (by omega)).1
        · rw [kp 22 p p ha (Or.inr (Or.inr ⟨rfl, rfl⟩))]
          exact (hA1 p hp).2
    · obtain ⟨⟨j, q1, q2, q3⟩, q4, q5⟩ := p2 b hb
      refine ⟨⟨j, q1, ?_, q3⟩, ?_, fun z => ⟨?_, ?_⟩⟩
      · rw [far 23 b (by omega) (by omega) (by omega)]; exact q2
      · rw [f24]; exact q4
      · rw [far 25 b (by omega) (by omega) (by omega)]; exact (q5 z).1
      · rw [far 26 b (by omega) (by omega) (by omega)]; exact (q5 z).2
    · have hg7 : g' ≤ k := by omega
      rw [far 20 _ (by omega) (by omega) (by omega)]
      by_cases e : g' = k
      · subst e; exact (hA1 p hp).1
      · rw [p5 20 _ (by omega) (by omega) (by omega) (by omega) (by omega) (by omega)]
        exact H.1 g' (by omega) p hp
    · by_cases e : k' = k
      · subst e
        unfold wnt
        by_cases ha : rowC d c k' p = 0
        · rw [if_pos ha]; exact (w1 p hp ha).2.1
        · have hrw := row_le E.2.2.2.2 k' p
          rw [if_neg ha, kp 21 (6 * p + k') p ha (Or.inr (Or.inl ⟨rfl, rfl⟩))]
          exact (p3 p hp ha (by omega)).2
      · rw [far 21 _ (by omega) (by omega) (by omega), p5 21 _ (by omega) (by omega) (by omega) (by omega) (by omega) (by omega)]
        exact H.2.1 k' (by omega) p hp
    · rw [f24]
      by_cases e : g' = k + 1
      · subst e
        have q4 := (p2 b hb).2.1
        rw [q4, sq]
        split <;> rfl
      · rw [p5 24 _ (by omega) (by omega) (by omega) (by omega) (by omega) (by omega)]
        exact H.2.2.1 b hb g' (by omega)
    · rw [f24, p5 24 _ (by omega) (by omega) (by omega) (by omega) (by omega) (by omega)]
      exact H.2.2.2 b hb g' (by omega) h2
theorem l_thru {g mn : Nat} (hg : g < rP d) (hmn : mn ≤ 60) {F0 : Nat → Value} {A0 : Nat → Nat → Int32} :
    ∀ n k F A o5 o6, k + n = rP d → ME d c i A → (∀ j, j ≠ 35 → j ≠ 36 → F j = F0 j) → (∀ j, j < 20 ∨ 26 < j → A j = A0 j) → MG d k (m0 d c g mn k) F A → MH d c g mn k A →
    ∃ F' A', R 4 181 8 [some (.ref m), some (.int (nI i)), some (.int (nI g)), some (.int (nI mn)), some (.int (nI k)), o5, o6] [] (hX 8 h m F A) = some (some (.int (cmI (wrOn d c g mn n k))), hX 8 h m F' A') ∧ (∀ j, j ≠ 35 → j ≠ 36 → F' j = F0 j) ∧ (∀ j, j < 20 ∨ 26 < j → A' j = A0 j) ∧ (wrOn d c g mn n k = none → TR d c g mn F' A') ∧ ∃ a b : Nat, F' 35 = .int (nI a) ∧ F' 36 = .int (nI b) := by
  intro n
  induction n with
  | zero =>
    intro k F A o5 o6 hk E hF hA G H
    have hi := E.2.2.1
    have h6 := E.2.1.1
    obtain rfl : k = rP d := hk
    have es : sq d c g mn (rP d) = m0 d c g mn (rP d) := by rw [sq_m0, if_neg (by omega)]
    refine ⟨F, A, ?_, hF, hA, fun _ => ⟨fun g' hg' p hp => ?_, H.2.1, H.2.2.1, fun p hp => ?_, ?_, ?_⟩, _, _, G.2.2.1, G.2.2.2⟩
    · rw [B181_8, x8_2, obd_some, m_1 hi, obd_some, E.1.1, if_neg (show ¬ nI (rP d) < nI (rP d) from Int32.lt_irrefl)]
      rfl
    · by_cases e : g' = rP d
      · subst e; rw [es]; exact (G.1 p hp).1
      · exact H.1 g' (by omega) p hp
    · rw [es]; exact (G.1 p hp).2
    · rw [es]; exact G.2.2.1
    · rw [es]; exact G.2.2.2
  | succ n ih =>
    intro k F A o5 o6 hkn E hF hA G H
    have hi := E.2.2.1
    have hd := E.2.1
    have h6 := hd.1
    have h4 := hd.2.1
    have hk : k < rP d := by omega
    have hs0 := m0_ok hd c g hmn k
    have go : ∀ F A, ME d c i A → (∀ j, j ≠ 35 → j ≠ 36 → F j = F0 j) → (∀ j, j < 20 ∨ 26 < j → A j = A0 j) → MG d k (sq d c g mn k) F A → MH d c g mn k A → ∃ F' A', R 4 181 37 [some (.ref m), some (.int (nI i)), some (.int (nI g)), some (.int (nI mn)), some (.int (nI k)), none, none] [] (hX 8 h m F A) = some (some (.int (cmI (wrOn d c g mn (n + 1) k))), hX 8 h m F' A') ∧ (∀ j, j ≠ 35 → j ≠ 36 → F' j = F0 j) ∧ (∀ j, j < 20 ∨ 26 < j → A' j = A0 j) ∧ (wrOn d c g mn (n + 1) k = none → TR d c g mn F' A') ∧ ∃ a b : Nat, F' 35 = .int (nI a) ∧ F' 36 = .int (nI b) := by
      intro F A E hF hA G H
      rw [wrOn]
      rcases l_piece (h := h) (m := m) hk hmn E G H none none with ⟨w, e1, e2⟩ | ⟨e1, F', A', o5', e2, f1, f2, G', H'⟩
      · rw [e1]
        exact ⟨F, A, e2, hF, hA, (fun z => by cases z), _, _, G.2.2.1, G.2.2.2⟩
      · rw [e1, e2]
        exact ih (k + 1) F' A' o5' none (by omega) (E.of fun j hj => f2 j (by omega)) (fun j a1 a2 => (f1 j a1 a2).trans (hF j a1 a2)) (fun j hj => (f2 j hj).trans (hA j hj)) G' H'
    rw [B181_8, x8_2, obd_some, m_1 hi, obd_some, E.1.1, if_pos (show nI k < nI (rP d) by rw [nJ_lt (by omega) (by omega)]; exact hk)]
    have same : ¬ (0 < k ∧ k = g) → sq d c g mn k = m0 d c g mn k := fun z => by rw [sq_m0, if_neg z]
    have e37 : ∀ F A o5 o6, R 4 181 37 [some (.ref m), some (.int (nI i)), some (.int (nI g)), some (.int (nI mn)), some (.int (nI k)), o5, o6] [] (hX 8 h m F A) = R 4 181 37 [some (.ref m), some (.int (nI i)), some (.int (nI g)), some (.int (nI mn)), some (.int (nI k)), none, none] [] (hX 8 h m F A) := by
      intro F A o5 o6
      rw [B181_37, B181_37]
    by_cases k0 : 0 < k
    · rw [if_pos (show 0 < nI k by rw [nI_gt0 (by omega)]; exact k0)]
      by_cases kg : k = g
      · subst kg
        rw [if_pos rfl, m_o, obd_some, c_meet E hk (fun p => by have := hs0.1 p; omega) (fun p hp => (G.1 p hp).1)]
        simp only [obd_some, obd_none, Option.toList_some, Option.toList_none, List.cons_append, List.nil_append, cond_true, cond_false]
        have es : sq d c k mn k = mtg d mn (m0 d c k mn k) := by rw [sq_m0, if_pos ⟨k0, rfl⟩]
        have hb : ∀ j t, ¬ (j = 20 ∧ t % 7 = k ∧ t / 7 < rE d) → (fun j t => if j = 20 ∧ t % 7 = k ∧ t / 7 < rE d then nI (maxB (fun _ => true) (ga (m0 d c k mn k)) 0 (rE d) + mn) else A j t) j t = A j t := fun j t z => if_neg z
        have G' : MG d k (sq d c k mn k) F (fun j t => if j = 20 ∧ t % 7 = k ∧ t / 7 < rE d then nI (maxB (fun _ => true) (ga (m0 d c k mn k)) 0 (rE d) + mn) else A j t) := by
          rw [es]
          refine ⟨fun p hp => ⟨?_, ?_⟩, fun b hb' => ?_, G.2.2.1, G.2.2.2⟩
          · show (if (20 = 20 ∧ (7 * p + k) % 7 = k ∧ (7 * p + k) / 7 < rE d) then nI (maxB (fun _ => true) (ga (m0 d c k mn k)) 0 (rE d) + mn) else A 20 (7 * p + k)) = nI (if p < rE d then maxB (fun _ => true) (ga (m0 d c k mn k)) 0 (rE d) + mn else ga (m0 d c k mn k) p)
            rw [if_pos (by omega), if_pos hp]
          · rw [hb 22 p (by omega)]; exact (G.1 p hp).2
          · obtain ⟨⟨j, q1, q2, q3⟩, q4, q5⟩ := G.2.1 b hb'
            refine ⟨⟨j, q1, ?_, q3⟩, ?_, fun z => ⟨?_, ?_⟩⟩
            · rw [hb 23 b (by omega)]; exact q2
            · rw [hb 24 _ (by omega)]; exact q4
            · rw [hb 25 b (by omega)]; exact (q5 z).1
            · rw [hb 26 b (by omega)]; exact (q5 z).2
        have H' : MH d c k mn k (fun j t => if j = 20 ∧ t % 7 = k ∧ t / 7 < rE d then nI (maxB (fun _ => true) (ga (m0 d c k mn k)) 0 (rE d) + mn) else A j t) := by
          refine ⟨fun g' hg' p hp => ?_, fun k' hk' p hp => ?_, fun b hb' g' hg' => ?_, fun b hb' g' h1 h2 => ?_⟩
          · rw [hb 20 _ (by omega)]; exact H.1 g' hg' p hp
          · rw [hb 21 _ (by omega)]; exact H.2.1 k' hk' p hp
          · rw [hb 24 _ (by omega)]; exact H.2.2.1 b hb' g' hg'
          · rw [hb 24 _ (by omega)]; exact H.2.2.2 b hb' g' h1 h2
        exact go F _ (E.of fun j hj => funext fun t => hb j t (by omega)) hF (fun j hj => funext fun t => (hb j t (by omega)).trans (congrFun (hA j hj) t)) G' H'
      · rw [if_neg (show ¬ nI k = nI g by rw [nI_inj (by omega) (by omega)]; exact kg)]
        refine (go F A E hF hA ?_ H)
        rw [same (fun z => kg z.2)]; exact G
    · rw [if_neg (show ¬ 0 < nI k by rw [nI_gt0 (by omega)]; exact k0)]
      refine (go F A E hF hA ?_ H)
      rw [same (fun z => k0 z.1)]; exact G
theorem c_goThrough (E : ME d c i A) {g mn : Nat} (hg : g < rP d) (hmn : mn ≤ 60) :
    ∃ F' A', mc 181 [.ref m, .int (nI i), .int (nI g), .int (nI mn)] (hX 8 h m F A) = some (some (.int (cmI (wrOn d c g mn (rP d) 0))), hX 8 h m F' A') ∧ (∀ j, j ≠ 35 → j ≠ 36 → F' j = F j) ∧ (∀ j, j < 20 ∨ 26 < j → A' j = A j) ∧ (wrOn d c g mn (rP d) 0 = none → TR d c g mn F' A') ∧ ∃ a b : Nat, F' 35 = .int (nI a) ∧ F' 36 = .int (nI b) := by
  have h4 := E.2.1.2.1
  have h2 := E.2.1.2.2.1
  obtain ⟨A1, e1, b1, b2, b3⟩ := c_begin (h := h) (m := m) (F := F) (A := A) (nI i)
  rw [M181, m_o, obd_some, e1]
  simp only [obd_some, obd_none, Option.toList_some, Option.toList_none, List.cons_append, List.nil_append, cond_true, cond_false, B181_5]
  refine l_thru hg hmn (rP d) 0 _ A1 none none (Nat.zero_add _) (E.of fun j hj => b3 j (by omega)) (fun j a1 a2 => by rw [updV_n a2, updV_n a1]) b3 ⟨fun p hp => ?_, fun b hb => ?_, rfl, rfl⟩ ⟨fun g' hg' => absurd hg' (Nat.not_lt_zero g'), fun k' hk' => absurd hk' (Nat.not_lt_zero k'), fun b hb g' hg' => ?_, fun b hb g' h1 h2 => ?_⟩
  · exact b1 p (by omega)
  · obtain ⟨q1, q2, q3, q4, q5⟩ := b2 b (by omega)
    exact ⟨⟨0, Nat.le_refl _, q1, fun _ z => (by cases z), fun _ => rfl⟩, q4, fun _ => ⟨q2, q3⟩⟩
  · obtain rfl : g' = 0 := by omega
    exact (b2 b (by omega)).2.2.2.1
  · exact (b2 b (by omega)).2.2.2.2 g' h1 h2
end MThru3
