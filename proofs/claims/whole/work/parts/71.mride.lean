/-! A beast goes on. -/
/-- what a beast's riders' going on writes -/
def RdW (a : Nat → Nat) (k b : Nat) (j t : Nat) : Prop := (∃ p, a p = b + 1 ∧ ((j = 20 ∧ t = 7 * p + k + 1) ∨ (j = 21 ∧ t = 6 * p + k))) ∨ ((j = 23 ∨ j = 25 ∨ j = 26) ∧ t = b) ∨ (j = 24 ∧ t = 7 * b + k + 1)
def RdF (d : jRD) (a : Nat → Nat) (k b : Nat) (s : jGS) (A' : Nat → Nat → Int32) : Prop :=
  (∀ p, p < rE d → a p = b + 1 → A' 20 (7 * p + k + 1) = nI (strt d a k s b + rid d b k) ∧ A' 21 (6 * p + k) = nI (strt d a k s b)) ∧
  A' 23 b = nI (k + 1) ∧ A' 24 (7 * b + k + 1) = nI (strt d a k s b + rid d b k) ∧ A' 25 b = nI (rdrs d a b) ∧ A' 26 b = nI (if stnd d a k s b = true then rM d k else gs s b + rM d k)
section MRide
variable {h : jHp} {m i : Nat} {d : jRD} {c : Nat → Nat} {F : Nat → Value} {A : Nat → Nat → Int32}
theorem l_mride1 (E : ME d c i A) {k b x : Nat} (hk : k < rP d) (hb : b < rB d) {s : jGS} (hs : gOk k s) (hA : ∀ p, p < rE d → A 20 (7 * p + k) = nI (ga s p)) (hx : x < 1000000) (v4 v5 v6 v7 : Int32)
    (K : jRs) (hK : ∀ o, R 3 187 147 [some (.ref m), some (.int (nI i)), some (.int (nI k)), some (.int (nI b)), some (.int v4), some (.int v5), some (.int v6), some (.int v7), some (.int (nI (maxB (rdb (rowC d c k) b) (ga s) x (rE d)))), some (.int (nI (rE d))), o] [] (hX 8 h m F A) = K) :
    ∀ n p o, p + n = rE d → R 3 187 147 [some (.ref m), some (.int (nI i)), some (.int (nI k)), some (.int (nI b)), some (.int v4), some (.int v5), some (.int v6), some (.int v7), some (.int (nI (maxB (rdb (rowC d c k) b) (ga s) x p))), some (.int (nI p)), o] [] (hX 8 h m F A) = K := by
  have hi := E.2.2.1
  have h4 := E.2.1.2.1
  have h6 := E.2.1.1
  have h2 := E.2.1.2.2.1
  intro n
  induction n with
  | zero =>
    intro p o hp
    obtain rfl : p = rE d := hp
    exact hK o
  | succ n ih =>
    intro p o hpn
    have hp : p < rE d := by omega
    have hr := row_le E.2.2.2.2 k p
    have hm := maxB_le (f := rdb (rowC d c k) b) (g := ga s) (x := x) (c := 1000000) (by omega) (fun q => by have := hs.1 q; omega) p
    have hg := hs.1 p
    rw [B187_147, x8_3, obd_some, m_2 hi, obd_some, E.1.2.1, if_pos (show nI p < nI (rE d) by rw [nJ_lt (by omega) (by omega)]; exact hp), m_o, obd_some, c_actOf E hk hp]
    simp only [obd_some, obd_none, Option.toList_some, Option.toList_none, List.cons_append, List.nil_append, cond_true, cond_false, B187_166, nJ_add]
    have e := ih (p + 1) none (by omega)
    rw [maxB] at e
    by_cases q : rowC d c k p = b + 1
    · rw [if_pos (show nI (rowC d c k p) = nI (b + 1) by rw [q]), x8_28, obd_some, nI_mul, nJ_add, m_20 (by omega), obd_some, hA p hp, c_greater (by omega) (by omega)]
      simp only [obd_some, obd_none, Option.toList_some, Option.toList_none, List.cons_append, List.nil_append, cond_true, cond_false, B187_189, nJ_add]
      rw [if_pos (show rdb (rowC d c k) b p = true by unfold rdb; rw [q]; exact beq_self_eq_true _)] at e
      exact e
    · rw [if_neg (show ¬ nI (rowC d c k p) = nI (b + 1) by rw [nI_inj (by omega) (by omega)]; exact q)]
      rw [if_neg (show ¬ rdb (rowC d c k) b p = true by unfold rdb; rw [beq_iff_eq]; exact q)] at e
      exact e
/-- the riders' minutes, so far -/
def RdP (a : Nat → Nat) (k b st th : Nat) (A A' : Nat → Nat → Int32) (n : Nat) : Prop :=
  (∀ p, p < n → a p = b + 1 → A' 20 (7 * p + k + 1) = nI th ∧ A' 21 (6 * p + k) = nI st) ∧
  ∀ j t, ¬ (∃ p, p < n ∧ a p = b + 1 ∧ ((j = 20 ∧ t = 7 * p + k + 1) ∨ (j = 21 ∧ t = 6 * p + k))) → A' j t = A j t
theorem l_mride3 {k b st th : Nat} (hk : k < rP d) (hb : b < rB d) (v4 v6 v7 : Int32) :
    ∀ n p A' o5, p + n = rE d → ME d c i A' → RdP (rowC d c k) k b st th A A' p →
    ∃ A2, R 3 187 252 [some (.ref m), some (.int (nI i)), some (.int (nI k)), some (.int (nI b)), some (.int v4), o5, some (.int v6), some (.int v7), some (.int (nI st)), some (.int (nI th)), some (.int (nI p))] [] (hX 8 h m F A') = R 3 187 252 [some (.ref m), some (.int (nI i)), some (.int (nI k)), some (.int (nI b)), some (.int v4), (if n = 0 then o5 else none), some (.int v6), some (.int v7), some (.int (nI st)), some (.int (nI th)), some (.int (nI (rE d)))] [] (hX 8 h m F A2) ∧ ME d c i A2 ∧ RdP (rowC d c k) k b st th A A2 (rE d) := by
  intro n
  induction n with
  | zero =>
    intro p A' o5 hp E W
    obtain rfl : p = rE d := hp
    exact ⟨A', by rw [if_pos rfl], E, W⟩
  | succ n ih =>
    intro p A' o5 hpn E W
    have hi := E.2.2.1
    have h4 := E.2.1.2.1
    have h6 := E.2.1.1
    have h2 := E.2.1.2.2.1
    have hp : p < rE d := by omega
    have hr := row_le E.2.2.2.2 k p
    rw [B187_252, x8_3, obd_some, m_2 hi, obd_some, E.1.2.1, if_pos (show nI p < nI (rE d) by rw [nJ_lt (by omega) (by omega)]; exact hp), m_o, obd_some, c_actOf E hk hp]
    simp only [obd_some, obd_none, Option.toList_some, Option.toList_none, List.cons_append, List.nil_append, cond_true, cond_false, B187_271, nJ_add]
    have nn : (if n + 1 = 0 then o5 else none) = (if n = 0 then (none : Option Value) else none) := by rw [if_neg (by omega)]; split <;> rfl
    rw [nn]
    by_cases q : rowC d c k p = b + 1
    · rw [if_pos (show nI (rowC d c k p) = nI (b + 1) by rw [q]), x8_29, obd_some, nI_mul, nJ_add, mw_21 (by omega), obd_some, x8_28, obd_some, nI_mul, nJ_add, B187_302, nJ_add, mw_20 (by omega), obd_some, nJ_add]
      refine ih (p + 1) _ none (by omega) (E.of fun j hj => by funext t; rw [uA_n (by omega), uA_n (by omega)]) ⟨fun r hr hr0 => ?_, fun j t hn => ?_⟩
      · by_cases e : r = p
        · subst e
          exact ⟨by rw [uA_s], by rw [uA_n (by omega), uA_s]⟩
        · have g := W.1 r (by omega) hr0
          exact ⟨by rw [uA_n (by omega), uA_n (by omega)]; exact g.1, by rw [uA_n (by omega), uA_n (by omega)]; exact g.2⟩
      · have n1 : ¬ (j = 20 ∧ t = 7 * p + k + 1) := fun z => hn ⟨p, by omega, q, Or.inl z⟩
        have n2 : ¬ (j = 21 ∧ t = 6 * p + k) := fun z => hn ⟨p, by omega, q, Or.inr z⟩
        rw [uA_n n1, uA_n n2]
        exact W.2 j t (fun ⟨r, q1, q2⟩ => hn ⟨r, by omega, q2⟩)
    · rw [if_neg (show ¬ nI (rowC d c k p) = nI (b + 1) by rw [nI_inj (by omega) (by omega)]; exact q)]
      refine ih (p + 1) _ none (by omega) E ⟨fun r hr hr0 => ?_, fun j t hn => ?_⟩
      · by_cases e : r = p
        · subst e; exact absurd hr0 q
        · exact W.1 r (by omega) hr0
      · exact W.2 j t (fun ⟨r, q1, q2⟩ => hn ⟨r, by omega, q2⟩)
theorem c_goRiding (E : ME d c i A) {k b x y : Nat} (hk : k < rP d) (hb : b < rB d) {s : jGS} (hs : gOk k s) (hA : ∀ p, p < rE d → A 20 (7 * p + k) = nI (ga s p)) (hB : JB k s b A) (hr0 : ¬ rdrs d (rowC d c k) b = 0 → ¬ gc s b = none) (h35 : F 35 = .int (nI x)) (h36 : F 36 = .int (nI y)) :
    ∃ F' A', mc 187 [.ref m, .int (nI i), .int (nI k), .int (nI b)] (hX 8 h m F A) = some (none, hX 8 h m F' A') ∧
      F' 35 = .int (nI (x + b2n (tied d (rowC d c k) k s b))) ∧ F' 36 = .int (nI (y + b2n (aln d (rowC d c k) k s b))) ∧ (∀ j, j ≠ 35 → j ≠ 36 → F' j = F j) ∧
      (rdrs d (rowC d c k) b = 0 → A' = A) ∧ (¬ rdrs d (rowC d c k) b = 0 → RdF d (rowC d c k) k b s A' ∧ ∀ j t, ¬ RdW (rowC d c k) k b j t → A' j t = A j t) := by
  have hi := E.2.2.1
  have hd := E.2.1
  have h4 := hd.2.1
  have h6 := hd.1
  have h2 := hd.2.2.1
  have hrd := msk_16 (rdb (rowC d c k) b) h4
  obtain ⟨⟨j, j1, j2, j3⟩, b24, b2⟩ := hB
  generalize hR : rdrs d (rowC d c k) b = rd at hr0 ⊢
  have hrd : rd < 16 := by rw [← hR]; exact hrd
  have hgw := hs.2.2.2.1 b
  have e7 : R 3 187 7 [some (.ref m), some (.int (nI i)), some (.int (nI k)), some (.int (nI b)), none, none, none, none, none, none, none] [.int (nI rd)] (hX 8 h m F A) = R 3 187 41 [some (.ref m), some (.int (nI i)), some (.int (nI k)), some (.int (nI b)), some (.int (nI rd)), some (.int (b2j (tied d (rowC d c k) k s b))), none, none, none, none, none] [] (hX 8 h m F A) := by
    have e38 : R 3 187 38 [some (.ref m), some (.int (nI i)), some (.int (nI k)), some (.int (nI b)), some (.int (nI rd)), none, none, none, none, none, none] [] (hX 8 h m F A) = R 3 187 41 [some (.ref m), some (.int (nI i)), some (.int (nI k)), some (.int (nI b)), some (.int (nI rd)), some (.int (nI 0)), none, none, none, none, none] [] (hX 8 h m F A) := by
      rw [B187_38, B187_39]
    rw [B187_7]
    unfold tied
    rw [hR]
    by_cases k0 : 0 < k
    · rw [if_pos (show 0 < nI k by rw [nI_gt0 (by omega)]; exact k0), x8_31, obd_some, m_23 (by omega), obd_some, j2, decide_eq_true k0, Bool.true_and]
      by_cases g : gc s b = none
      · rw [if_neg (show ¬ nI j = nI k by rw [nI_inj (by omega) (by omega)]; exact fun z => (j3.mp z) g), e38, g]
        rfl
      · obtain ⟨b3, b4⟩ := b2 g
        rw [if_pos (show nI j = nI k by rw [j3.mpr g]), x8_33, obd_some, m_25 (by omega), obd_some, b3]
        rw [show (gc s b).isSome = true by cases e : gc s b with | none => exact absurd e g | some w => rfl, Bool.true_and]
        by_cases q : rd = gw s b
        · rw [if_pos (show nI rd = nI (gw s b) by rw [q]), e38, decide_eq_false (not_not_intro q)]; rfl
        · rw [if_neg (show ¬ nI rd = nI (gw s b) by rw [nI_inj (by omega) (by omega)]; exact q), B187_39, decide_eq_true q]; rfl
    · rw [if_neg (show ¬ 0 < nI k by rw [nI_gt0 (by omega)]; exact k0), e38, decide_eq_false k0, Bool.false_and]; rfl
  have e41 : R 3 187 41 [some (.ref m), some (.int (nI i)), some (.int (nI k)), some (.int (nI b)), some (.int (nI rd)), some (.int (b2j (tied d (rowC d c k) k s b))), none, none, none, none, none] [] (hX 8 h m F A) = R 3 187 57 [some (.ref m), some (.int (nI i)), some (.int (nI k)), some (.int (nI b)), some (.int (nI rd)), some (.int (b2j (tied d (rowC d c k) k s b))), none, none, none, none, none] [.int (nI (x + b2n (tied d (rowC d c k) k s b))), .ref m] (hX 8 h m F A) := by
    rw [B187_41, x8_35, h35, vI_i, obd_some]
    cases tied d (rowC d c k) k s b with
    | true => rw [if_neg (show ¬ b2j true = 0 by decide), B187_56, nJ_add]; rfl
    | false => rw [if_pos (show b2j false = 0 by decide), B187_56, nJ_add]; rfl
  rw [M187, m_o, obd_some, c_ridersOf E hk hb, hR]
  simp only [obd_some, obd_none, Option.toList_some, Option.toList_none, List.cons_append, List.nil_append, cond_true, cond_false]
  rw [e7, e41, B187_57, p8_35, obd_some]
  by_cases r0 : rd = 0
  · rw [if_pos (show nI rd = 0 by rw [r0]; rfl)]
    refine ⟨_, A, rfl, updV_s _ _ _, ?_, fun j a1 a2 => updV_n a1, fun _ => rfl, fun z => absurd r0 z⟩
    have ea : aln d (rowC d c k) k s b = false := by
      unfold aln
      rw [hR, decide_eq_false (not_not_intro r0), Bool.false_and, Bool.and_false]
    rw [ea, updV_n (by decide), h36]; rfl
  · obtain ⟨b3, b4⟩ := b2 (hr0 r0)
    obtain ⟨w, hw⟩ : ∃ w, gc s b = some w := by
      cases e : gc s b with
      | none => exact absurd e (hr0 r0)
      | some w => exact ⟨w, rfl⟩
    have hcm : cmb s b = w := by unfold cmb; rw [hw]; rfl
    have hwl := hs.2.2.1 b w hw
    have hgs := hs.2.2.2.2.1 b
    have hM := hd.2.2.2.1 k
    have hs5 := sB_le hd b 5
    have hs4 := sB_le hd b 4
    have b24' : A 24 (7 * b + k) = nI w := by rw [b24, hw]; rfl
    generalize hF1 : updV F 35 (.int (nI (x + b2n (tied d (rowC d c k) k s b)))) = F1
    have hF35 : F1 35 = .int (nI (x + b2n (tied d (rowC d c k) k s b))) := by rw [← hF1]; exact updV_s _ _ _
    have hF36 : F1 36 = .int (nI y) := by rw [← hF1, updV_n (by decide)]; exact h36
    have hFo : ∀ j, j ≠ 35 → F1 j = F j := fun j a1 => by rw [← hF1]; exact updV_n a1
    rw [if_neg (show ¬ nI rd = 0 by rw [nI_eq0 (by omega)]; exact r0), x8_5, obd_some, nI_mul, nJ_add, m_4 (by omega), obd_some, (E.1.2.2.2.1 k hk).1]
    -- from here on with what it stands
    have e112 : (if 0 < nI k then if b2j (tied d (rowC d c k) k s b) = 0 then obd none (gA (hX 8 h m F1 A) m 8 34) fun a4 => obd none (alI (hX 8 h m F1 A) a4 (nI b)) fun i5 => R 3 187 94 [some (.ref m), some (.int (nI i)), some (.int (nI k)), some (.int (nI b)), some (.int (nI rd)), some (.int (b2j (tied d (rowC d c k) k s b))), some (.int (nI (rM d k))), none, none, none, none] [.int i5] (hX 8 h m F1 A) else R 3 187 112 [some (.ref m), some (.int (nI i)), some (.int (nI k)), some (.int (nI b)), some (.int (nI rd)), some (.int (b2j (tied d (rowC d c k) k s b))), some (.int (nI (rM d k))), none, none, none, none] [.int (nI 1)] (hX 8 h m F1 A) else R 3 187 112 [some (.ref m), some (.int (nI i)), some (.int (nI k)), some (.int (nI b)), some (.int (nI rd)), some (.int (b2j (tied d (rowC d c k) k s b))), some (.int (nI (rM d k))), none, none, none, none] [.int (nI 0)] (hX 8 h m F1 A)) = R 3 187 112 [some (.ref m), some (.int (nI i)), some (.int (nI k)), some (.int (nI b)), some (.int (nI rd)), some (.int (b2j (tied d (rowC d c k) k s b))), some (.int (nI (rM d k))), none, none, none, none] [.int (b2j (stnd d (rowC d c k) k s b))] (hX 8 h m F1 A) := by
      unfold stnd
      by_cases k0 : 0 < k
      · rw [if_pos (show 0 < nI k by rw [nI_gt0 (by omega)]; exact k0)]
        cases ht : tied d (rowC d c k) k s b with
        | true =>
          rw [if_neg (show ¬ b2j true = 0 by decide)]
          rfl
        | false =>
          rw [Bool.false_or, decide_eq_true k0, Bool.true_and, if_pos (show b2j false = 0 by decide), x8_34, obd_some, m_26 (by omega), obd_some, b4, B187_94, m_o, obd_some, c_ofB E.1 hd hi hb (by omega)]
          simp only [obd_some, obd_none, Option.toList_some, Option.toList_none, List.cons_append, List.nil_append, cond_true, cond_false, B187_104, nJ_add]
          by_cases q : sB d b 5 < gs s b + rM d k
          · rw [if_pos (show nI (sB d b 5) < nI (gs s b + rM d k) by rw [nJ_lt (by omega) (by omega)]; exact q), decide_eq_true q]; rfl
          · rw [if_neg (show ¬ nI (sB d b 5) < nI (gs s b + rM d k) by rw [nJ_lt (by omega) (by omega)]; exact q), decide_eq_false q]; rfl
      · rw [if_neg (show ¬ 0 < nI k by rw [nI_gt0 (by omega)]; exact k0)]
        have ht : tied d (rowC d c k) k s b = false := by unfold tied; rw [decide_eq_false k0, Bool.false_and]
        rw [ht, Bool.false_or, decide_eq_false k0, Bool.false_and]
        rfl
    rw [e112]
    -- the minute at which it could start
    have hx0 : cmb s b + (if stnd d (rowC d c k) k s b = true then sB d b 4 else 0) < 1000000 := by rw [hcm]; split <;> omega
    have e144 : R 3 187 112 [some (.ref m), some (.int (nI i)), some (.int (nI k)), some (.int (nI b)), some (.int (nI rd)), some (.int (b2j (tied d (rowC d c k) k s b))), some (.int (nI (rM d k))), none, none, none, none] [.int (b2j (stnd d (rowC d c k) k s b))] (hX 8 h m F1 A) = R 3 187 147 [some (.ref m), some (.int (nI i)), some (.int (nI k)), some (.int (nI b)), some (.int (nI rd)), some (.int (b2j (tied d (rowC d c k) k s b))), some (.int (nI (rM d k))), some (.int (b2j (stnd d (rowC d c k) k s b))), some (.int (nI (maxB (rdb (rowC d c k) b) (ga s) (cmb s b + (if stnd d (rowC d c k) k s b = true then sB d b 4 else 0)) 0))), some (.int (nI 0)), none] [] (hX 8 h m F1 A) := by
      rw [B187_112, x8_32, obd_some, nI_mul, nJ_add, m_24 (by omega), obd_some, b24', hcm]
      cases stnd d (rowC d c k) k s b with
      | true =>
        rw [if_neg (show ¬ b2j true = 0 by decide), m_o, obd_some, c_ofB E.1 hd hi hb (by omega)]
        simp only [obd_some, obd_none, Option.toList_some, Option.toList_none, List.cons_append, List.nil_append, cond_true, cond_false, B187_137, nJ_add, B187_144]
        rfl
      | false =>
        rw [if_pos (show b2j false = 0 by decide), nJ_add, B187_144]
        rfl
    have hst := strt_le hd hs (rowC d c k) b
    have hstE : maxB (rdb (rowC d c k) b) (ga s) (cmb s b + (if stnd d (rowC d c k) k s b = true then sB d b 4 else 0)) (rE d) = strt d (rowC d c k) k s b := rfl
    have g1 := fun K hK => l_mride1 (h := h) (m := m) (F := F1) E hk hb hs hA hx0 (nI rd) (b2j (tied d (rowC d c k) k s b)) (nI (rM d k)) (b2j (stnd d (rowC d c k) k s b)) K hK (rE d) 0 none (Nat.zero_add _)
    -- after the riders' latest
    have e233 : ∀ o, R 3 187 147 [some (.ref m), some (.int (nI i)), some (.int (nI k)), some (.int (nI b)), some (.int (nI rd)), some (.int (b2j (tied d (rowC d c k) k s b))), some (.int (nI (rM d k))), some (.int (b2j (stnd d (rowC d c k) k s b))), some (.int (nI (maxB (rdb (rowC d c k) b) (ga s) (cmb s b + (if stnd d (rowC d c k) k s b = true then sB d b 4 else 0)) (rE d)))), some (.int (nI (rE d))), o] [] (hX 8 h m F1 A) = R 3 187 246 [some (.ref m), some (.int (nI i)), some (.int (nI k)), some (.int (nI b)), some (.int (nI rd)), none, some (.int (nI (rM d k))), some (.int (b2j (stnd d (rowC d c k) k s b))), some (.int (nI (strt d (rowC d c k) k s b))), none, none] [.int (nI (rid d b k)), .int (nI (strt d (rowC d c k) k s b))] (hX 8 h m (updV F1 36 (.int (nI (y + b2n (aln d (rowC d c k) k s b))))) A) := by
      intro o
      rw [hstE, B187_147, x8_3, obd_some, m_2 hi, obd_some, E.1.2.1, if_neg (show ¬ nI (rE d) < nI (rE d) from Int32.lt_irrefl), x8_36, hF36, vI_i, obd_some]
      have e2 : ∀ (q : Bool) o5 o9 o10, q = aln d (rowC d c k) k s b → R 3 187 233 [some (.ref m), some (.int (nI i)), some (.int (nI k)), some (.int (nI b)), some (.int (nI rd)), o5, some (.int (nI (rM d k))), some (.int (b2j (stnd d (rowC d c k) k s b))), some (.int (nI (strt d (rowC d c k) k s b))), o9, o10] [.int (b2j q), .int (nI y), .ref m] (hX 8 h m F1 A) = R 3 187 246 [some (.ref m), some (.int (nI i)), some (.int (nI k)), some (.int (nI b)), some (.int (nI rd)), none, some (.int (nI (rM d k))), some (.int (b2j (stnd d (rowC d c k) k s b))), some (.int (nI (strt d (rowC d c k) k s b))), none, none] [.int (nI (rid d b k)), .int (nI (strt d (rowC d c k) k s b))] (hX 8 h m (updV F1 36 (.int (nI (y + b2n (aln d (rowC d c k) k s b))))) A) := by
        rintro q o5 o9 o10 rfl
        rw [B187_233, show nI y + b2j (aln d (rowC d c k) k s b) = nI (y + b2n (aln d (rowC d c k) k s b)) by cases aln d (rowC d c k) k s b <;> exact nJ_add _ _, p8_36, obd_some, m_o, obd_some, c_ridingTime E.1 hd hi hb hk]
        simp only [obd_some, obd_none, Option.toList_some, Option.toList_none, List.cons_append, List.nil_append, cond_true, cond_false]
      cases ht : tied d (rowC d c k) k s b with
      | false =>
        have ea : aln d (rowC d c k) k s b = false := by unfold aln; rw [ht, Bool.false_and]
        rw [if_pos (show b2j false = 0 by decide)]
        exact e2 false none none none ea.symm
      | true =>
        have ea : aln d (rowC d c k) k s b = decide (cmb s b < strt d (rowC d c k) k s b) := by unfold aln; rw [ht, Bool.true_and, hR, decide_eq_true r0, Bool.true_and]
        rw [if_neg (show ¬ b2j true = 0 by decide), x8_32, obd_some, nI_mul, nJ_add, m_24 (by omega), obd_some, b24', ← hcm, B187_225]
        by_cases q : cmb s b < strt d (rowC d c k) k s b
        · rw [if_pos (show nI (cmb s b) < nI (strt d (rowC d c k) k s b) by rw [nJ_lt (by omega) (by omega)]; exact q)]
          exact e2 true _ _ _ (by rw [ea, decide_eq_true q])
        · rw [if_neg (show ¬ nI (cmb s b) < nI (strt d (rowC d c k) k s b) by rw [nJ_lt (by omega) (by omega)]; exact q)]
          exact e2 false _ _ _ (by rw [ea, decide_eq_false q])
    rw [e144, g1 _ e233, B187_246, nJ_add]
    generalize hF2 : updV F1 36 (.int (nI (y + b2n (aln d (rowC d c k) k s b)))) = F2
    obtain ⟨A2, g2, E2, W2⟩ := l_mride3 (h := h) (m := m) (i := i) (c := c) (d := d) (F := F2) (A := A) (st := strt d (rowC d c k) k s b) (th := strt d (rowC d c k) k s b + rid d b k) hk hb (nI rd) (nI (rM d k)) (b2j (stnd d (rowC d c k) k s b)) (rE d) 0 A none (Nat.zero_add _) E ⟨fun p hp => absurd hp (Nat.not_lt_zero p), fun j t _ => rfl⟩
    have no : (if rE d = 0 then (none : Option Value) else none) = none := by split <;> rfl
    rw [no] at g2
    have n26 : A2 26 b = nI (gs s b) := (W2.2 26 b (by rintro ⟨p, _, _, z⟩; omega)).trans b4
    rw [g2, B187_252, x8_3, obd_some, m_2 hi, obd_some, E2.1.2.1, if_neg (show ¬ nI (rE d) < nI (rE d) from Int32.lt_irrefl), x8_34, obd_some]
    have e333 : ∀ o1 o5 o7 o8 o10 (v : Nat), v + rM d k = (if stnd d (rowC d c k) k s b = true then rM d k else gs s b + rM d k) → R 3 187 333 [some (.ref m), o1, some (.int (nI k)), some (.int (nI b)), some (.int (nI rd)), o5, some (.int (nI (rM d k))), o7, o8, some (.int (nI (strt d (rowC d c k) k s b + rid d b k))), o10] [.int (nI v), .int (nI b), .ref (m + 26)] (hX 8 h m F2 A2) = some (none, hX 8 h m F2 (uA (uA (uA (uA A2 26 b (nI (if stnd d (rowC d c k) k s b = true then rM d k else gs s b + rM d k))) 23 b (nI (k + 1))) 24 (7 * b + k + 1) (nI (strt d (rowC d c k) k s b + rid d b k))) 25 b (nI rd))) := by
      intro o1 o5 o7 o8 o10 v hv
      rw [B187_333, B187_335, nJ_add, hv, mw_26 (by omega), obd_some, x8_31, obd_some, nJ_add, mw_23 (by omega), obd_some, x8_32, obd_some, nI_mul, nJ_add, nJ_add, mw_24 (by omega), obd_some, B187_361, x8_33, obd_some, mw_25 (by omega), obd_some]
    have fin : ∃ F' A', some ((none : Option Value), hX 8 h m F2 (uA (uA (uA (uA A2 26 b (nI (if stnd d (rowC d c k) k s b = true then rM d k else gs s b + rM d k))) 23 b (nI (k + 1))) 24 (7 * b + k + 1) (nI (strt d (rowC d c k) k s b + rid d b k))) 25 b (nI rd))) = some (none, hX 8 h m F' A') ∧
      F' 35 = .int (nI (x + b2n (tied d (rowC d c k) k s b))) ∧ F' 36 = .int (nI (y + b2n (aln d (rowC d c k) k s b))) ∧ (∀ j, j ≠ 35 → j ≠ 36 → F' j = F j) ∧
      (rd = 0 → A' = A) ∧ (¬ rd = 0 → RdF d (rowC d c k) k b s A' ∧ ∀ j t, ¬ RdW (rowC d c k) k b j t → A' j t = A j t) := by
      refine ⟨_, _, rfl, ?_, ?_, fun j a1 a2 => ?_, fun z => absurd z r0, fun _ => ⟨⟨fun p hp hp0 => ⟨?_, ?_⟩, ?_, ?_, ?_, ?_⟩, fun j t hn => ?_⟩⟩
      · rw [← hF2, updV_n (by decide)]; exact hF35
      · rw [← hF2]; exact updV_s _ _ _
      · rw [← hF2, updV_n a2]; exact hFo j a1
      · rw [uA_n (by omega), uA_n (by omega), uA_n (by omega), uA_n (by omega)]; exact (W2.1 p hp hp0).1
      · rw [uA_n (by omega), uA_n (by omega), uA_n (by omega), uA_n (by omega)]; exact (W2.1 p hp hp0).2
      · rw [uA_n (by omega), uA_n (by omega), uA_s]
      · rw [uA_n (by omega), uA_s]
      · rw [uA_s, hR]
      · rw [uA_n (by omega), uA_n (by omega), uA_n (by omega), uA_s]
      · have n1 : ¬ (j = 25 ∧ t = b) := fun z => hn (Or.inr (Or.inl ⟨by omega, z.2⟩))
        have n2 : ¬ (j = 24 ∧ t = 7 * b + k + 1) := fun z => hn (Or.inr (Or.inr z))
        have n3 : ¬ (j = 23 ∧ t = b) := fun z => hn (Or.inr (Or.inl ⟨by omega, z.2⟩))
        have n4 : ¬ (j = 26 ∧ t = b) := fun z => hn (Or.inr (Or.inl ⟨by omega, z.2⟩))
        rw [uA_n n1, uA_n n2, uA_n n3, uA_n n4]
        exact W2.2 j t (fun ⟨p, q1, q2, q3⟩ => hn (Or.inl ⟨p, q2, q3⟩))
    cases ht : stnd d (rowC d c k) k s b with
    | true =>
      rw [ht] at e333 fin
      rw [if_neg (show ¬ b2j true = 0 by decide), e333 _ _ _ _ _ 0 (by rw [if_pos rfl, Nat.zero_add])]
      exact fin
    | false =>
      rw [ht] at e333 fin
      rw [if_pos (show b2j false = 0 by decide), obd_some, m_26 (by omega), obd_some, n26, e333 _ _ _ _ _ (gs s b) (by rw [if_neg (by decide)])]
      exact fin
end MRide
