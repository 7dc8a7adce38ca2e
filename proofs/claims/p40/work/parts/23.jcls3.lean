theorem maxB_ext {f f' : Nat → Bool} {g : Nat → Nat} {x : Nat} : ∀ n, (∀ p, p < n → f p = f' p) → maxB f g x n = maxB f' g x n
  | 0, _ => rfl
  | n + 1, h => by
    rw [maxB, maxB, maxB_ext n (fun p hp => h p (Nat.lt_succ_of_lt hp)), h n (Nat.lt_succ_self n)]
def fE (f : Nat → Bool) (E p : Nat) : Bool := decide (p < E) && f p
theorem maxB_fE (f : Nat → Bool) (g : Nat → Nat) (x E : Nat) : ∀ m, maxB (fE f E) g x (E + m) = maxB f g x E
  | 0 => maxB_ext E (fun p hp => by unfold fE; rw [decide_eq_true hp, Bool.true_and])
  | m + 1 => by
    rw [← Nat.add_assoc, maxB, maxB_fE f g x E m, if_neg]
    unfold fE
    rw [decide_eq_false (show ¬ E + m < E by omega), Bool.false_and]
    exact Bool.false_ne_true
theorem maxB_4 (f : Nat → Bool) (g : Nat → Nat) (x : Nat) {E : Nat} (hE : E ≤ 4) : maxB (fE f E) g x 4 = maxB f g x E := by
  have := maxB_fE f g x E (4 - E)
  rwa [Nat.add_sub_cancel' hE] at this
section JRows3
variable {h : jHp} {j r ca : Nat} {d : jRD} {C : Nat → Int32} {A : Nat → Nat → Int32}
theorem l_ride1 {k m x y : Nat} {f : Nat → Bool} {s : jGS} (hk : k < 6) (hE : rE d ≤ 4) (hm : m = msk f (rE d)) (hx : x ≤ 20000) (hs : ∀ p, ga s p ≤ 20000) (hA : ∀ p, p < rE d → A 1 (k * 4 + p) = nI (ga s p)) :
    ∀ (n p : Nat) (o3 : Option Value), p + n = 4 → R 2 52 6 [some (.ref j), some (.int (nI k)), some (.int (nI m)), o3, some (.int (nI y)), some (.int (nI (maxB (fE f (rE d)) (ga s) x p))), some (.int (nI p))] [] (jJ h j r A)
      = R 2 52 48 [some (.ref j), some (.int (nI k)), some (.int (nI m)), none, some (.int (nI y)), some (.int (nI (maxB f (ga s) x (rE d)))), some (.int (nI 0))] [] (jJ h j r A) := by
  intro n
  induction n with
  | zero =>
    intro p o3 hp
    obtain rfl : p = 4 := hp
    rw [B52_6, if_neg (show ¬ nI 4 < nI 4 by decide), maxB_4 f (ga s) x hE]
  | succ n ih =>
    intro p o3 hp
    have hp4 : p < 4 := by omega
    have hm16 : m < 16 := hm ▸ msk_16 f hE
    have hb := msk_bit f p (rE d)
    have hc := maxB_le (f := fE f (rE d)) hx hs p
    have hgp := hs p
    rw [B52_6, if_pos (show nI p < nI 4 by rw [nJ_lt (by omega) (by omega)]; exact hp4)]
    simp only [bit_m hm16 hp4]
    by_cases e : fE f (rE d) p = true
    · have hpE : p < rE d := by
        unfold fE at e
        rw [Bool.and_eq_true, decide_eq_true_eq] at e
        exact e.1
      rw [if_neg (by rw [hm, hb]; unfold fE at e; rw [e]; decide)]
      simp (disch := omega) only [jj_1, obd_some, obd_none, Option.toList_some, Option.toList_none, List.cons_append, List.nil_append, cond_true, cond_false, nJ_add, nI_mul, nJ_lt, nJ_le, nI_inj, nI_lt0, nI_eq0, nI_gt0, toNat_nI, jr_1, hA p hpE, M53]
      by_cases a1 : maxB (fE f (rE d)) (ga s) x p < ga s p
      · rw [if_pos a1]
        simp only [obd_some, obd_none, Option.toList_some, Option.toList_none, List.cons_append, List.nil_append, cond_true, cond_false, B52_37, nJ_add]
        rw [← ih (p + 1) none (by omega), maxB, if_pos e, if_pos a1]
      · rw [if_neg a1]
        simp only [obd_some, obd_none, Option.toList_some, Option.toList_none, List.cons_append, List.nil_append, cond_true, cond_false, B52_37, nJ_add]
        rw [← ih (p + 1) none (by omega), maxB, if_pos e, if_neg a1]
    · rw [if_pos (by rw [hm, hb]; unfold fE at e; exact Bool.eq_false_iff.mpr e), nJ_add, ← ih (p + 1) none (by omega), maxB, if_neg e]
/-- who rides writes where it starts and when it is there -/
def rdW (f : Nat → Bool) (E k v y : Nat) (A A' : Nat → Nat → Int32) (n : Nat) : Prop :=
  (∀ p, p < n → fE f E p = true → A' 2 (k * 4 + p) = nI v ∧ A' 1 (k * 4 + p + 4) = nI (v + y)) ∧
  ∀ i t, (∀ p, p < n → fE f E p = true → ¬ ((i = 2 ∧ t = k * 4 + p) ∨ (i = 1 ∧ t = k * 4 + p + 4))) → A' i t = A i t
theorem l_ride2 {k m v y : Nat} {f : Nat → Bool} (hk : k < 6) (hE : rE d ≤ 4) (hm : m = msk f (rE d)) :
    ∀ (n p : Nat) (o3 : Option Value) (A' : Nat → Nat → Int32), p + n = 4 → rdW f (rE d) k v y A A' p → ∃ A2, R 2 52 48 [some (.ref j), some (.int (nI k)), some (.int (nI m)), o3, some (.int (nI y)), some (.int (nI v)), some (.int (nI p))] [] (jJ h j r A')
      = some (some (.int (nI v)), jJ h j r A2) ∧ rdW f (rE d) k v y A A2 4 := by
  intro n
  induction n with
  | zero =>
    intro p o3 A' hp hW
    obtain rfl : p = 4 := hp
    exact ⟨A', by rw [B52_48, if_neg (show ¬ nI 4 < nI 4 by decide)], hW⟩
  | succ n ih =>
    intro p o3 A' hp hW
    have hp4 : p < 4 := by omega
    have hm16 : m < 16 := hm ▸ msk_16 f hE
    have hb := msk_bit f p (rE d)
    rw [B52_48, if_pos (show nI p < nI 4 by rw [nJ_lt (by omega) (by omega)]; exact hp4)]
    simp only [bit_m hm16 hp4]
    by_cases e : fE f (rE d) p = true
    · rw [if_neg (by rw [hm, hb]; unfold fE at e; rw [e]; decide)]
      simp (disch := omega) only [jj_2, jj_1, obd_some, obd_none, Option.toList_some, Option.toList_none, List.cons_append, List.nil_append, cond_true, cond_false, nJ_add, nI_mul, nJ_lt, nJ_le, nI_inj, nI_lt0, nI_eq0, nI_gt0, toNat_nI, jw_2, B52_80, idx4, jw_1]
      refine ih (p + 1) none _ (by omega) ⟨fun q hq hfq => ?_, fun i t hn => ?_⟩
      · by_cases eq : q = p
        · subst eq
          exact ⟨by rw [uA_n (by omega), uA_s], by rw [uA_s]⟩
        · have g := hW.1 q (by omega) hfq
          exact ⟨by rw [uA_n (by omega), uA_n (by omega)]; exact g.1, by rw [uA_n (by omega), uA_n (by omega)]; exact g.2⟩
      · have hn0 := hn p (by omega) e
        rw [uA_n (fun q => hn0 (Or.inr q)), uA_n (fun q => hn0 (Or.inl q))]
        exact hW.2 i t (fun q hq => hn q (by omega))
    · rw [if_pos (by rw [hm, hb]; unfold fE at e; exact Bool.eq_false_iff.mpr e), nJ_add]
      refine ih (p + 1) none _ (by omega) ⟨fun q hq hfq => ?_, fun i t hn => ?_⟩
      · by_cases eq : q = p
        · subst eq; exact absurd hfq e
        · exact hW.1 q (by omega) hfq
      · exact hW.2 i t (fun q hq => hn q (by omega))
theorem c_rideOn {k m x y : Nat} {f : Nat → Bool} {s : jGS} (hk : k < 6) (hE : rE d ≤ 4) (hm : m = msk f (rE d)) (hx : x ≤ 20000) (hs : ∀ p, ga s p ≤ 20000) (hA : ∀ p, p < rE d → A 1 (k * 4 + p) = nI (ga s p)) :
    ∃ A2, mc 52 [.ref j, .int (nI k), .int (nI m), .int (nI x), .int (nI y)] (jJ h j r A) = some (some (.int (nI (maxB f (ga s) x (rE d)))), jJ h j r A2) ∧ rdW f (rE d) k (maxB f (ga s) x (rE d)) y A A2 4 := by
  obtain ⟨A2, h1, h2⟩ := l_ride2 (h := h) (j := j) (r := r) (d := d) (A := A) (k := k) (m := m) (v := maxB f (ga s) x (rE d)) (y := y) (f := f) hk hE hm 4 0 none A rfl ⟨fun p hp => absurd hp (Nat.not_lt_zero p), fun i t _ => rfl⟩
  refine ⟨A2, ?_, h2⟩
  rw [M52, ← h1]
  exact l_ride1 hk hE hm hx hs hA 4 0 (some (.int (nI x))) rfl
/-- where leading a beast on writes -/
def ldAt (d : jRD) (a : Nat → Nat) (k b i t : Nat) : Prop := ((i = 4 ∨ i = 6) ∧ t = k * 2 + b + 2) ∨ ((i = 7 ∨ i = 8) ∧ t = k + 1) ∨ ∃ p, p < rE d ∧ rdb a b p = true ∧ ((i = 2 ∧ t = k * 4 + p) ∨ (i = 1 ∧ t = k * 4 + p + 4))
/-- what leading a beast on has written -/
def Ld1 (d : jRD) (a : Nat → Nat) (k : Nat) (s : jGS) (b : Nat) (A : Nat → Nat → Int32) : Prop :=
  A 4 (k * 2 + b + 2) = cmI (gc (nxt d a k s) b) ∧ (¬ rdrs d a b = 0 → A 6 (k * 2 + b + 2) = nI (gs (nxt d a k s) b)) ∧
  ∀ p, p < rE d → rdb a b p = true → A 2 (k * 4 + p) = nI (strt d a k s b) ∧ A 1 (k * 4 + p + 4) = nI (strt d a k s b + rid d b k)
end JRows3
