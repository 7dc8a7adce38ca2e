/-! The reference goes through a row, piece by piece. -/
def Bg (A0 A : Nat → Nat → Int32) (p b : Nat) : Prop := (∀ q, q < p → A 20 (7 * q) = nI 0 ∧ A 22 q = nI 0) ∧ (∀ q, q < b → A 23 q = nI 0 ∧ A 25 q = nI 0 ∧ A 26 q = nI 0 ∧ A 24 (7 * q) = nI 0 ∧ ∀ k, 0 < k → k < 7 → A 24 (7 * q + k) = -nI 9) ∧ ∀ j, j < 20 ∨ 26 < j → A j = A0 j
section MThru
variable {h : jHp} {m i : Nat} {F : Nat → Value} {A : Nat → Nat → Int32}
theorem l_beg1 {A0 : Nat → Nat → Int32} : ∀ n p o1 o3 A, p + n = 4 → Bg A0 A p 0 → ∃ A2, R 1 182 2 [some (.ref m), o1, some (.int (nI p)), o3] [] (hX 8 h m F A) = R 1 182 32 [some (.ref m), none, some (.int (nI 0)), none] [] (hX 8 h m F A2) ∧ Bg A0 A2 4 0 := by
  intro n
  induction n with
  | zero =>
    intro p o1 o3 A hp B
    obtain rfl : p = 4 := hp
    exact ⟨A, by rw [B182_2, if_neg (show ¬ nI 4 < nI 4 by decide)], B⟩
  | succ n ih =>
    intro p o1 o3 A hpn B
    rw [B182_2, if_pos (show nI p < nI 4 by rw [nJ_lt (by omega) (by omega)]; omega), x8_28, obd_some, nI_mul, mw_20 (by omega), obd_some, x8_30, obd_some, mw_22 (by omega), obd_some, nJ_add]
    refine ih (p + 1) none none _ (by omega) ⟨fun q hq => ?_, fun q hq => absurd hq (Nat.not_lt_zero q), fun j hj => ?_⟩
    · by_cases e : q = p
      · subst e; exact ⟨by rw [uA_n (by omega), uA_s], by rw [uA_s]⟩
      · have g := B.1 q (by omega)
        exact ⟨by rw [uA_n (by omega), uA_n (by omega)]; exact g.1, by rw [uA_n (by omega), uA_n (by omega)]; exact g.2⟩
    · funext t; rw [uA_n (by omega), uA_n (by omega)]; exact congrFun (B.2.2 j hj) t
theorem l_beg3 {A0 : Nat → Nat → Int32} {b : Nat} (hb : b < 2) : ∀ n k o1 A, k + n = 7 → Bg A0 A 4 b → (A 23 b = nI 0 ∧ A 25 b = nI 0 ∧ A 26 b = nI 0) → (∀ k', k' < k → A 24 (7 * b + k') = if k' = 0 then nI 0 else -nI 9) → ∃ A2, R 1 182 60 [some (.ref m), o1, some (.int (nI b)), some (.int (nI k))] [] (hX 8 h m F A) = R 1 182 32 [some (.ref m), none, some (.int (nI (b + 1))), some (.int (nI 7))] [] (hX 8 h m F A2) ∧ Bg A0 A2 4 (b + 1) := by
  intro n
  induction n with
  | zero =>
    intro k o1 A hk B h1 h2
    obtain rfl : k = 7 := hk
    refine ⟨A, by rw [B182_60, if_neg (show ¬ nI 7 < nI 7 by decide), nJ_add], B.1, fun q hq => ?_, B.2.2⟩
    by_cases e : q = b
    · subst e
      have h0 := h2 0 (by omega)
      rw [if_pos rfl] at h0
      exact ⟨h1.1, h1.2.1, h1.2.2, h0, fun k a1 a2 => by have := h2 k a2; rw [if_neg (by omega)] at this; exact this⟩
    · exact B.2.1 q (by omega)
  | succ n ih =>
    intro k o1 A hkn B h1 h2
    rw [B182_60, if_pos (show nI k < nI 7 by rw [nJ_lt (by omega) (by omega)]; omega), x8_32, obd_some, nI_mul, nJ_add]
    have key : ∀ v : Int32, v = (if k = 0 then nI 0 else -nI 9) → ∃ A2, (obd none (asI (hX 8 h m F A) (m + 24) (nI (7 * b + k)) v) fun h3 => R 1 182 60 [some (.ref m), none, some (.int (nI b)), some (.int (nI k + nI 1))] [] h3) = R 1 182 32 [some (.ref m), none, some (.int (nI (b + 1))), some (.int (nI 7))] [] (hX 8 h m F A2) ∧ Bg A0 A2 4 (b + 1) := by
      intro v hv
      rw [mw_24 (by omega), obd_some, nJ_add]
      refine ih (k + 1) none _ (by omega) ⟨fun q hq => ?_, fun q hq => ?_, fun j hj => ?_⟩ ⟨?_, ?_, ?_⟩ (fun k' hk' => ?_)
      · rw [uA_n (by omega), uA_n (by omega)]; exact B.1 q hq
      · obtain ⟨g1, g2, g3, g4, g5⟩ := B.2.1 q hq
        refine ⟨?_, ?_, ?_, ?_, fun k' a1 a2 => ?_⟩
        · rw [uA_n (by omega)]; exact g1
        · rw [uA_n (by omega)]; exact g2
        · rw [uA_n (by omega)]; exact g3
        · rw [uA_n (by omega)]; exact g4
        · rw [uA_n (by omega)]; exact g5 k' a1 a2
      · funext t; rw [uA_n (by omega)]; exact congrFun (B.2.2 j hj) t
      · rw [uA_n (by omega)]; exact h1.1
      · rw [uA_n (by omega)]; exact h1.2.1
      · rw [uA_n (by omega)]; exact h1.2.2
      · by_cases e : k' = k
        · subst e; rw [uA_s]; exact hv
        · rw [uA_n (by omega)]; exact h2 k' (by omega)
    by_cases k0 : k = 0
    · rw [if_pos (show nI k = 0 by rw [k0]; rfl)]
      exact key (nI 0) (by rw [if_pos k0])
    · rw [if_neg (show ¬ nI k = 0 by rw [nI_eq0 (by omega)]; exact k0)]
      exact key (-nI 9) (by rw [if_neg k0])
theorem l_beg2 {A0 : Nat → Nat → Int32} : ∀ n b o1 o3 A, b + n = 2 → Bg A0 A 4 b → ∃ A2, R 1 182 32 [some (.ref m), o1, some (.int (nI b)), o3] [] (hX 8 h m F A) = some (none, hX 8 h m (updV (updV F 35 (.int (nI 0))) 36 (.int (nI 0))) A2) ∧ Bg A0 A2 4 2 := by
  intro n
  induction n with
  | zero =>
    intro b o1 o3 A hb B
    obtain rfl : b = 2 := hb
    exact ⟨A, by rw [B182_32, if_neg (show ¬ nI 2 < nI 2 by decide), p8_35, obd_some, p8_36, obd_some], B⟩
  | succ n ih =>
    intro b o1 o3 A hbn B
    rw [B182_32, if_pos (show nI b < nI 2 by rw [nJ_lt (by omega) (by omega)]; omega), x8_31, obd_some, mw_23 (by omega), obd_some, x8_33, obd_some, mw_25 (by omega), obd_some, x8_34, obd_some, mw_26 (by omega), obd_some]
    obtain ⟨A3, e3, B3⟩ := l_beg3 (h := h) (m := m) (F := F) (A0 := A0) (b := b) (by omega) 7 0 none (uA (uA (uA A 23 b (nI 0)) 25 b (nI 0)) 26 b (nI 0)) rfl ⟨fun q hq => by
      rw [uA_n (by omega), uA_n (by omega), uA_n (by omega), uA_n (by omega), uA_n (by omega), uA_n (by omega)]; exact B.1 q hq, fun q hq => by
      obtain ⟨g1, g2, g3, g4, g5⟩ := B.2.1 q hq
      refine ⟨?_, ?_, ?_, ?_, fun k' a1 a2 => ?_⟩
      · rw [uA_n (by omega), uA_n (by omega), uA_n (by omega)]; exact g1
      · rw [uA_n (by omega), uA_n (by omega), uA_n (by omega)]; exact g2
      · rw [uA_n (by omega), uA_n (by omega), uA_n (by omega)]; exact g3
      · rw [uA_n (by omega), uA_n (by omega), uA_n (by omega)]; exact g4
      · rw [uA_n (by omega), uA_n (by omega), uA_n (by omega)]; exact g5 k' a1 a2, fun j hj => by
      funext t; rw [uA_n (by omega), uA_n (by omega), uA_n (by omega)]; exact congrFun (B.2.2 j hj) t⟩ ⟨by rw [uA_n (by omega), uA_n (by omega), uA_s], by rw [uA_n (by omega), uA_s], by rw [uA_s]⟩ (fun k' hk' => absurd hk' (Nat.not_lt_zero k'))
    rw [e3]
    exact ih (b + 1) none _ A3 (by omega) B3
theorem c_begin (v : Int32) : ∃ A2, mc 182 [.ref m, .int v] (hX 8 h m F A) = some (none, hX 8 h m (updV (updV F 35 (.int (nI 0))) 36 (.int (nI 0))) A2) ∧ Bg A A2 4 2 := by
  obtain ⟨A1, e1, B1⟩ := l_beg1 (h := h) (m := m) (F := F) (A0 := A) 4 0 (some (.int v)) none A rfl ⟨fun q hq => absurd hq (Nat.not_lt_zero q), fun q hq => absurd hq (Nat.not_lt_zero q), fun j _ => rfl⟩
  obtain ⟨A2, e2, B2⟩ := l_beg2 (h := h) (m := m) (F := F) (A0 := A) 2 0 none none A1 rfl B1
  exact ⟨A2, by rw [M182, e1, e2], B2⟩
end MThru
section MThru2
variable {h : jHp} {m i : Nat} {d : jRD} {c : Nat → Nat} {F : Nat → Value} {A : Nat → Nat → Int32}
theorem l_meet1 (E : ME d c i A) {k mn : Nat} (hk : k < rP d) {f : Nat → Nat} (hf : ∀ p, f p ≤ 20000) (hA : ∀ p, p < rE d → A 20 (7 * p + k) = nI (f p)) : ∀ n p, p + n = rE d → R 2 183 6 [some (.ref m), some (.int (nI i)), some (.int (nI k)), some (.int (nI mn)), some (.int (nI (maxB (fun _ => true) f 0 p))), some (.int (nI p))] [] (hX 8 h m F A) = R 2 183 45 [some (.ref m), some (.int (nI i)), some (.int (nI k)), some (.int (nI mn)), some (.int (nI (maxB (fun _ => true) f 0 (rE d)))), some (.int (nI 0))] [] (hX 8 h m F A) := by
  have hi := E.2.2.1
  have h4 := E.2.1.2.1
  have h6 := E.2.1.1
  intro n
  induction n with
  | zero =>
    intro p hp
    obtain rfl : p = rE d := hp
    rw [B183_6, x8_3, obd_some, m_2 hi, obd_some, E.1.2.1, if_neg (show ¬ nI (rE d) < nI (rE d) from Int32.lt_irrefl)]
  | succ n ih =>
    intro p hpn
    have hp : p < rE d := by omega
    have hfp := hf p
    have hm := maxB_le (f := fun _ => true) (x := 0) (Nat.zero_le _) hf p
    rw [B183_6, x8_3, obd_some, m_2 hi, obd_some, E.1.2.1, if_pos (show nI p < nI (rE d) by rw [nJ_lt (by omega) (by omega)]; exact hp), x8_28, obd_some, nI_mul, nJ_add, m_20 (by omega), obd_some, hA p hp, c_greater (by omega) (by omega)]
    simp only [obd_some, obd_none, Option.toList_some, Option.toList_none, List.cons_append, List.nil_append, cond_true, cond_false, B183_34, nJ_add]
    rw [← ih (p + 1) (by omega), maxB, if_pos rfl]
theorem l_meet2 {k mn v : Nat} (hk : k < rP d) : ∀ n p A', p + n = rE d → ME d c i A' → (∀ j t, A' j t = if j = 20 ∧ t % 7 = k ∧ t / 7 < p then nI (v + mn) else A j t) → R 2 183 45 [some (.ref m), some (.int (nI i)), some (.int (nI k)), some (.int (nI mn)), some (.int (nI v)), some (.int (nI p))] [] (hX 8 h m F A') = some (none, hX 8 h m F fun j t => if j = 20 ∧ t % 7 = k ∧ t / 7 < rE d then nI (v + mn) else A j t) := by
  intro n
  induction n with
  | zero =>
    intro p A' hp E W
    have hi := E.2.2.1
    obtain rfl : p = rE d := hp
    rw [B183_45, x8_3, obd_some, m_2 hi, obd_some, E.1.2.1, if_neg (show ¬ nI (rE d) < nI (rE d) from Int32.lt_irrefl)]
    rw [show A' = fun j t => if j = 20 ∧ t % 7 = k ∧ t / 7 < rE d then nI (v + mn) else A j t from funext fun j => funext fun t => W j t]
  | succ n ih =>
    intro p A' hpn E W
    have hi := E.2.2.1
    have h4 := E.2.1.2.1
    have h6 := E.2.1.1
    have hp : p < rE d := by omega
    rw [B183_45, x8_3, obd_some, m_2 hi, obd_some, E.1.2.1, if_pos (show nI p < nI (rE d) by rw [nJ_lt (by omega) (by omega)]; exact hp), x8_28, obd_some, nI_mul, nJ_add, mw_20 (by omega), obd_some, nJ_add, nJ_add]
    refine ih (p + 1) _ (by omega) (E.of fun j hj => by funext t; rw [uA_n (by omega)]) (fun j t => ?_)
    by_cases e : j = 20 ∧ t = 7 * p + k
    · rw [e.1, e.2, uA_s, if_pos (by omega)]
    · rw [uA_n e, W j t]
      by_cases e2 : j = 20 ∧ t % 7 = k ∧ t / 7 < p
      · rw [if_pos e2, if_pos (by omega)]
      · rw [if_neg e2, if_neg (by omega)]
theorem c_meet (E : ME d c i A) {k mn : Nat} (hk : k < rP d) {f : Nat → Nat} (hf : ∀ p, f p ≤ 20000) (hA : ∀ p, p < rE d → A 20 (7 * p + k) = nI (f p)) : mc 183 [.ref m, .int (nI i), .int (nI k), .int (nI mn)] (hX 8 h m F A) = some (none, hX 8 h m F fun j t => if j = 20 ∧ t % 7 = k ∧ t / 7 < rE d then nI (maxB (fun _ => true) f 0 (rE d) + mn) else A j t) := by
  rw [M183]
  refine (l_meet1 E hk hf hA (rE d) 0 (Nat.zero_add _)).trans ?_
  exact l_meet2 hk (rE d) 0 A (Nat.zero_add _) E (fun j t => by rw [if_neg (by omega)])
/-- the state at a gate, ahead of a meeting -/
def m0 (d : jRD) (c : Nat → Nat) (g mn : Nat) : Nat → jGS
  | 0 => gs0
  | k + 1 => nxt d (rowC d c k) k (sq d c g mn k)
theorem sq_m0 (d : jRD) (c : Nat → Nat) (g mn k : Nat) : sq d c g mn k = if 0 < k ∧ k = g then mtg d mn (m0 d c g mn k) else m0 d c g mn k := by
  cases k with
  | zero => rw [if_neg (by omega)]; rfl
  | succ k =>
    rw [sq]
    by_cases e : k + 1 = g
    · rw [if_pos e, if_pos ⟨by omega, e⟩]; rfl
    · rw [if_neg e, if_neg (fun z => e z.2)]; rfl
theorem m0_ok {d : jRD} (hd : rdOk d) (c : Nat → Nat) (g : Nat) {mn : Nat} (hmn : mn ≤ 60) : ∀ k, gOk k (m0 d c g mn k)
  | 0 => gs0_ok
  | k + 1 => nxt_ok hd (sq_ok hd c g hmn k) _
/-- what stands of the gates behind, and of those ahead -/
def MH (d : jRD) (c : Nat → Nat) (g mn k : Nat) (A : Nat → Nat → Int32) : Prop :=
  (∀ g', g' < k → ∀ p, p < rE d → A 20 (7 * p + g') = nI (ga (sq d c g mn g') p)) ∧
  (∀ k', k' < k → ∀ p, p < rE d → A 21 (6 * p + k') = nI (wnt d (rowC d c k') k' (sq d c g mn k') p)) ∧
  (∀ b, b < rB d → ∀ g', g' ≤ k → A 24 (7 * b + g') = cmI (gc (sq d c g mn g') b)) ∧
  ∀ b, b < rB d → ∀ g', k < g' → g' < 7 → A 24 (7 * b + g') = -nI 9
/-- what stands of the gate itself -/
def MG (d : jRD) (k : Nat) (s : jGS) (F : Nat → Value) (A : Nat → Nat → Int32) : Prop :=
  (∀ p, p < rE d → A 20 (7 * p + k) = nI (ga s p) ∧ A 22 p = nI (gf s p)) ∧ (∀ b, b < rB d → JB k s b A) ∧ F 35 = .int (nI (gt s)) ∧ F 36 = .int (nI (gl s))
theorem l_why {k : Nat} (hk : k < rP d) {s : jGS} (hs : gOk k s) (E : ME d c i A) (G : MG d k s F A) (g mn : Nat) : ∀ n p (o6 : Option Value), p + n = rE d → R 4 181 40 [some (.ref m), some (.int (nI i)), some (.int (nI g)), some (.int (nI mn)), some (.int (nI k)), some (.int (nI p)), o6] [] (hX 8 h m F A) = (match fstW (whyN d (rowC d c k) k s) n p with
    | some w => some (some (.int (nI (100 * k + w))), hX 8 h m F A)
    | none => R 4 181 91 [some (.ref m), some (.int (nI i)), some (.int (nI g)), some (.int (nI mn)), some (.int (nI k)), some (.int (nI 0)), none] [] (hX 8 h m F A)) := by
  have hi := E.2.2.1
  have h4 := E.2.1.2.1
  have h6 := E.2.1.1
  intro n
  induction n with
  | zero =>
    intro p o6 hp
    obtain rfl : p = rE d := hp
    rw [B181_40, x8_3, obd_some, m_2 hi, obd_some, E.1.2.1, if_neg (show ¬ nI (rE d) < nI (rE d) from Int32.lt_irrefl)]
    rfl
  | succ n ih =>
    intro p o6 hpn
    have hp : p < rE d := by omega
    have hw := whyN_le d (rowC d c k) k s p
    rw [B181_40, x8_3, obd_some, m_2 hi, obd_some, E.1.2.1, if_pos (show nI p < nI (rE d) by rw [nJ_lt (by omega) (by omega)]; exact hp), m_o, obd_some, c_whyNot E hk hp hs (G.1 p hp).2 G.2.1]
    simp only [obd_some, obd_none, Option.toList_some, Option.toList_none, List.cons_append, List.nil_append, cond_true, cond_false, B181_60]
    rw [fstW]
    by_cases w0 : whyN d (rowC d c k) k s p = 0
    · rw [if_neg (show ¬ 0 < nI (whyN d (rowC d c k) k s p) by rw [nI_gt0 (by omega)]; omega), nJ_add, if_pos w0]
      exact ih (p + 1) _ (by omega)
    · rw [if_pos (show 0 < nI (whyN d (rowC d c k) k s p) by rw [nI_gt0 (by omega)]; omega), nI_mul, nI_mul, nJ_add, nJ_add, if_neg w0]
      dsimp only
      rw [Nat.add_assoc]
/-- after so many beasts of a piece -/
def MP (d : jRD) (a : Nat → Nat) (k : Nat) (s : jGS) (A0 : Nat → Nat → Int32) (F : Nat → Value) (A : Nat → Nat → Int32) (n : Nat) : Prop :=
  (∀ b, n ≤ b → b < rB d → JB k s b A ∧ A 24 (7 * b + k + 1) = -nI 9) ∧ (∀ b, b < n → JB (k + 1) (nxt d a k s) b A) ∧
  (∀ p, p < rE d → ¬ a p = 0 → a p - 1 < n → A 20 (7 * p + k + 1) = nI (strt d a k s (a p - 1) + rid d (a p - 1) k) ∧ A 21 (6 * p + k) = nI (strt d a k s (a p - 1))) ∧
  (F 35 = .int (nI (gt s + cntB (tied d a k s) n)) ∧ F 36 = .int (nI (gl s + cntB (aln d a k s) n))) ∧
  ∀ j t, ¬ (j = 20 ∧ t % 7 = k + 1) → ¬ (j = 21 ∧ t % 6 = k) → ¬ (j = 24 ∧ t % 7 = k + 1) → j ≠ 23 → j ≠ 25 → j ≠ 26 → A j t = A0 j t
theorem cnt_s (f : Nat → Bool) (n : Nat) : cntB f (n + 1) = cntB f n + b2n (f n) := rfl
theorem l_beasts2 {k : Nat} (hk : k < rP d) {s : jGS} (hs : gOk k s) {A0 : Nat → Nat → Int32} (hA0 : ∀ p, p < rE d → A0 20 (7 * p + k) = nI (ga s p)) (hr : ∀ b, b < rB d → ¬ rdrs d (rowC d c k) b = 0 → ¬ gc s b = none) (g mn : Nat) {F0 : Nat → Value} :
    ∀ n b F A, b + n = rB d → ME d c i A → (∀ j, j ≠ 35 → j ≠ 36 → F j = F0 j) → MP d (rowC d c k) k s A0 F A b → ∃ F' A', R 4 181 91 [some (.ref m), some (.int (nI i)), some (.int (nI g)), some (.int (nI mn)), some (.int (nI k)), some (.int (nI b)), none] [] (hX 8 h m F A) = R 4 181 91 [some (.ref m), some (.int (nI i)), some (.int (nI g)), some (.int (nI mn)), some (.int (nI k)), some (.int (nI (rB d))), none] [] (hX 8 h m F' A') ∧ ME d c i A' ∧ (∀ j, j ≠ 35 → j ≠ 36 → F' j = F0 j) ∧ MP d (rowC d c k) k s A0 F' A' (rB d) := by
  intro n
  induction n with
  | zero =>
    intro b F A hb E hF P
    obtain rfl : b = rB d := hb
    exact ⟨F, A, rfl, E, hF, P⟩
  | succ n ih =>
    intro b F A hbn E hF P
    have hi := E.2.2.1
    have h4 := E.2.1.2.1
    have h6 := E.2.1.1
    have h2 := E.2.1.2.2.1
    have hb : b < rB d := by omega
    obtain ⟨p1, p2, p3, ⟨p4, p4b⟩, p5⟩ := P
    obtain ⟨J0, J9⟩ := p1 b (Nat.le_refl b) hb
    have hA : ∀ p, p < rE d → A 20 (7 * p + k) = nI (ga s p) := fun p hp => (p5 20 _ (by omega) (by omega) (by omega) (by omega) (by omega) (by omega)).trans (hA0 p hp)
    obtain ⟨F', A', e1, e35, e36, eF, z0, z1⟩ := c_goRiding (h := h) (m := m) (F := F) E hk hb hs hA J0 (hr b hb) p4 p4b
    rw [B181_91, x8_4, obd_some, m_3 hi, obd_some, E.1.2.2.1, if_pos (show nI b < nI (rB d) by rw [nJ_lt (by omega) (by omega)]; exact hb), m_o, obd_some, e1]
    simp only [obd_some, obd_none, Option.toList_some, Option.toList_none, List.cons_append, List.nil_append, cond_true, cond_false, B181_111, nJ_add]
    have E' : ME d c i A' := by
      by_cases r0 : rdrs d (rowC d c k) b = 0
      · rw [z0 r0]; exact E
      · refine E.of fun j hj => funext fun t => (z1 r0).2 j t ?_
        rintro (⟨p, _, z⟩ | z | z) <;> omega
    refine ih (b + 1) F' A' (by omega) E' (fun j a1 a2 => (eF j a1 a2).trans (hF j a1 a2)) ?_
    have far : ∀ j t, ¬ (j = 20 ∧ t % 7 = k + 1) → ¬ (j = 21 ∧ t % 6 = k) → ¬ (j = 24 ∧ t = 7 * b + k + 1) → ¬ (j = 23 ∧ t = b) → ¬ (j = 25 ∧ t = b) → ¬ (j = 26 ∧ t = b) → A' j t = A j t := by
      intro j t a1 a2 a3 a4 a5 a6
      by_cases r0 : rdrs d (rowC d c k) b = 0
      · rw [z0 r0]
      · refine (z1 r0).2 j t ?_
        rintro (⟨p, _, z⟩ | z | z) <;> omega
    have jb : ∀ b' k' s', b' ≠ b → JB k' s' b' A → (k' = k ∨ k' = k + 1) → JB k' s' b' A' := by
      intro b' k' s' hne J hk'
      obtain ⟨⟨j, q1, q2, q3⟩, q4, q5⟩ := J
      refine ⟨⟨j, q1, ?_, q3⟩, ?_, fun z => ⟨?_, ?_⟩⟩
      · rw [far 23 b' (by omega) (by omega) (by omega) (by omega) (by omega) (by omega)]; exact q2
      · rw [far 24 (7 * b' + k') (by omega) (by omega) (by omega) (by omega) (by omega) (by omega)]; exact q4
      · rw [far 25 b' (by omega) (by omega) (by omega) (by omega) (by omega) (by omega)]; exact (q5 z).1
      · rw [far 26 b' (by omega) (by omega) (by omega) (by omega) (by omega) (by omega)]; exact (q5 z).2
    refine ⟨fun b' h1 h2 => ⟨jb b' k s (by omega) (p1 b' (by omega) h2).1 (Or.inl rfl), ?_⟩, fun b' hb' => ?_, fun p hp hp0 hpb => ?_, ⟨?_, ?_⟩, fun j t a1 a2 a3 a4 a5 a6 => ?_⟩
    · rw [far 24 _ (by omega) (by omega) (by omega) (by omega) (by omega) (by omega)]; exact (p1 b' (by omega) h2).2
    · by_cases e : b' = b
      · subst e
        by_cases r0 : rdrs d (rowC d c k) b' = 0
        · rw [z0 r0]
          have gn : gc (nxt d (rowC d c k) k s) b' = none := by
            show (if rdrs d (rowC d c k) b' = 0 then none else _) = none
            rw [if_pos r0]
          obtain ⟨⟨j, q1, q2, q3⟩, q4, q5⟩ := J0
          refine ⟨⟨j, by omega, q2, fun z => by omega, fun z => absurd gn z⟩, ?_, fun z => absurd gn z⟩
          rw [gn]; exact J9
        · obtain ⟨⟨w1, w2, w3, w4, w5⟩, _⟩ := z1 r0
          have gn : gc (nxt d (rowC d c k) k s) b' = some (strt d (rowC d c k) k s b' + rid d b' k) := by
            show (if rdrs d (rowC d c k) b' = 0 then none else _) = _
            rw [if_neg r0]
          refine ⟨⟨k + 1, Nat.le_refl _, w2, ⟨fun _ z => (by rw [gn] at z; cases z), fun _ => rfl⟩⟩, ?_, fun _ => ⟨?_, ?_⟩⟩
          · rw [gn]; exact w3
          · exact w4
          · rw [w5]
            show _ = nI (if rdrs d (rowC d c k) b' = 0 then gs s b' else if stnd d (rowC d c k) k s b' = true then rM d k else gs s b' + rM d k)
            rw [if_neg r0]
      · exact jb b' (k + 1) _ e (p2 b' (by omega)) (Or.inr rfl)
    · by_cases e : rowC d c k p - 1 = b
      · have ea : rowC d c k p = b + 1 := by omega
        have r0 : ¬ rdrs d (rowC d c k) b = 0 := by
          intro z
          have := msk_0 (rdb (rowC d c k) b) z hp
          unfold rdb at this
          rw [ea] at this
          exact absurd this (by rw [beq_self_eq_true]; decide)
        rw [e]
        exact (z1 r0).1.1 p hp ea
      · have g := p3 p hp hp0 (by omega)
        have u : ∀ j t, ((j = 20 ∧ t = 7 * p + k + 1) ∨ (j = 21 ∧ t = 6 * p + k)) → A' j t = A j t := by
          intro j t hjt
          by_cases r0 : rdrs d (rowC d c k) b = 0
          · rw [z0 r0]
          · refine (z1 r0).2 j t ?_
            rintro (⟨p', z0', z⟩ | z | z)
            · have : p' = p := by omega
              subst this; omega
            · omega
            · omega
        exact ⟨(u 20 _ (Or.inl ⟨rfl, rfl⟩)).trans g.1, (u 21 _ (Or.inr ⟨rfl, rfl⟩)).trans g.2⟩
    · rw [e35, cnt_s, Nat.add_assoc]
    · rw [e36, cnt_s, Nat.add_assoc]
    · exact (far j t a1 a2 (by omega) (by omega) (by omega) (by omega)).trans (p5 j t a1 a2 a3 a4 a5 a6)
end MThru2
