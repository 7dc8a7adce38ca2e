/-! JOURNEYS over numbers alone: what is true of all at a gate, and how it goes on. -/
def msk (f : Nat → Bool) : Nat → Nat
  | 0 => 0
  | n + 1 => msk f n + (if f n = true then 2 ^ n else 0)
def cntB (f : Nat → Bool) : Nat → Nat
  | 0 => 0
  | n + 1 => cntB f n + (if f n = true then 1 else 0)
def maxB (f : Nat → Bool) (g : Nat → Nat) (x : Nat) : Nat → Nat
  | 0 => x
  | n + 1 => if f n = true then (if maxB f g x n < g n then g n else maxB f g x n) else maxB f g x n
def pop4 (m : Nat) : Nat := m % 2 + m / 2 % 2 + m / 4 % 2 + m / 8 % 2
theorem msk_lt (f : Nat → Bool) : ∀ n, msk f n < 2 ^ n
  | 0 => by rw [msk]; exact Nat.one_pos
  | n + 1 => by
    have := msk_lt f n
    rw [msk, Nat.pow_succ]
    split <;> omega
theorem msk_16 (f : Nat → Bool) {n : Nat} (h : n ≤ 4) : msk f n < 16 := Nat.lt_of_lt_of_le (msk_lt f n) (Nat.pow_le_pow_right (by decide) h)
theorem msk_bit (f : Nat → Bool) (p : Nat) : ∀ n, (msk f n).testBit p = (decide (p < n) && f p)
  | 0 => by rw [msk, Nat.zero_testBit]; rfl
  | n + 1 => by
    have ih := msk_bit f p n
    have hl := msk_lt f n
    rw [msk]
    rcases Nat.lt_trichotomy p n with h | h | h
    · split
      · rw [Nat.add_comm, Nat.testBit_two_pow_add_gt h, ih, decide_eq_true h, decide_eq_true (Nat.lt_succ_of_lt h)]
      · rw [Nat.add_zero, ih, decide_eq_true h, decide_eq_true (Nat.lt_succ_of_lt h)]
    · subst h
      split
      · next e => rw [Nat.add_comm, Nat.testBit_two_pow_add_eq, Nat.testBit_lt_two_pow hl, decide_eq_true (Nat.lt_succ_self p), e]; rfl
      · next e => rw [Nat.add_zero, Nat.testBit_lt_two_pow hl, Bool.eq_false_iff.mpr e, Bool.and_false]
    · rw [decide_eq_false (show ¬ p < n + 1 by omega), Bool.false_and]
      refine Nat.testBit_lt_two_pow (Nat.lt_of_lt_of_le ?_ (Nat.pow_le_pow_right (by decide) h))
      have := msk_lt f (n + 1)
      rw [msk] at this
      exact this
theorem msk_0 (f : Nat → Bool) {n : Nat} (h : msk f n = 0) {p : Nat} (hp : p < n) : f p = false := by
  have := msk_bit f p n
  rw [h, Nat.zero_testBit, decide_eq_true hp, Bool.true_and] at this
  exact this.symm
theorem pop_add : ∀ n, n < 4 → ∀ m, m < 2 ^ n → pop4 (m + 2 ^ n) = pop4 m + 1 := by
  intro n hn m hm
  rcases (by omega : n = 0 ∨ n = 1 ∨ n = 2 ∨ n = 3) with rfl | rfl | rfl | rfl <;> (simp only [Nat.reducePow] at hm ⊢; unfold pop4; omega)
theorem pop_msk (f : Nat → Bool) : ∀ n, n ≤ 4 → pop4 (msk f n) = cntB f n
  | 0, _ => by rw [msk, cntB]; decide
  | n + 1, h => by
    rw [msk, cntB]
    split
    · rw [pop_add n h _ (msk_lt f n), pop_msk f n (by omega)]
    · exact pop_msk f n (by omega)
theorem bit_all : ∀ m : Fin 16, ∀ p : Fin 4, (nI m.1 &&& ((nI 1) <<< (nI p.1 &&& 31)) = 0) = (m.1.testBit p.1 = false) := by
  intro m p
  have h : ∀ m : Fin 16, ∀ p : Fin 4, decide (nI m.1 &&& ((nI 1) <<< (nI p.1 &&& 31)) = 0) = decide (m.1.testBit p.1 = false) := by decide +kernel
  exact propext ⟨fun e => of_decide_eq_true ((h m p).symm.trans (decide_eq_true e)), fun e => of_decide_eq_true ((h m p).trans (decide_eq_true e))⟩
theorem bit_m {m p : Nat} (hm : m < 16) (hp : p < 4) : (nI m &&& ((nI 1) <<< (nI p &&& 31)) = 0) = (m.testBit p = false) := bit_all ⟨m, hm⟩ ⟨p, hp⟩
theorem or_all : ∀ m : Fin 16, ∀ p : Fin 4, m.1 < 2 ^ p.1 → nI m.1 ||| ((nI 1) <<< (nI p.1 &&& 31)) = nI (m.1 + 2 ^ p.1) := by decide +kernel
theorem or_m {m p : Nat} (hp : p < 4) (hm : m < 2 ^ p) : nI m ||| ((nI 1) <<< (nI p &&& 31)) = nI (m + 2 ^ p) :=
  or_all ⟨m, Nat.lt_of_lt_of_le hm (Nat.pow_le_pow_right (n := 2) (by decide) (show p ≤ 4 by omega))⟩ ⟨p, hp⟩ hm
theorem maxB_ge (f : Nat → Bool) (g : Nat → Nat) (x : Nat) : ∀ n, x ≤ maxB f g x n
  | 0 => Nat.le_refl _
  | n + 1 => by
    have := maxB_ge f g x n
    rw [maxB]; split
    · split <;> omega
    · exact this
theorem maxB_le {f : Nat → Bool} {g : Nat → Nat} {x c : Nat} (hx : x ≤ c) (hg : ∀ p, g p ≤ c) : ∀ n, maxB f g x n ≤ c
  | 0 => hx
  | n + 1 => by
    have := maxB_le (f := f) hx hg n
    rw [maxB]; split
    · split
      · exact hg n
      · exact this
    · exact this
/-- at a gate: arrivals, feet; by beast: when it came, with whom, miles since it stood; ties, those alone -/
abbrev jGS : Type := (Nat → Nat) × (Nat → Nat) × (Nat → Option Nat) × (Nat → Nat) × (Nat → Nat) × Nat × Nat
def ga (s : jGS) : Nat → Nat := s.1
def gf (s : jGS) : Nat → Nat := s.2.1
def gc (s : jGS) : Nat → Option Nat := s.2.2.1
def gw (s : jGS) : Nat → Nat := s.2.2.2.1
def gs (s : jGS) : Nat → Nat := s.2.2.2.2.1
def gt (s : jGS) : Nat := s.2.2.2.2.2.1
def gl (s : jGS) : Nat := s.2.2.2.2.2.2
def gs0 : jGS := (fun _ => 0, fun _ => 0, fun _ => some 0, fun _ => 0, fun _ => 0, 0, 0)
def rdb (a : Nat → Nat) (b p : Nat) : Bool := a p == b + 1
def rdrs (d : jRD) (a : Nat → Nat) (b : Nat) : Nat := msk (rdb a b) (rE d)
def whyN (d : jRD) (a : Nat → Nat) (k : Nat) (s : jGS) (p : Nat) : Nat :=
  if a p = 0 then (if sP d p 3 < gf s p + rM d k then 3 else 0)
  else if gc s (a p - 1) = none then 1
  else if sB d (a p - 1) 3 ≤ cntB (rdb a (a p - 1)) p then 2 else 0
def fstW (f : Nat → Nat) : Nat → Nat → Option Nat
  | 0, _ => none
  | m + 1, p => if f p = 0 then fstW f m (p + 1) else some (10 * p + f p)
def tied (d : jRD) (a : Nat → Nat) (k : Nat) (s : jGS) (b : Nat) : Bool := decide (0 < k) && ((gc s b).isSome && decide (¬ rdrs d a b = gw s b))
def stnd (d : jRD) (a : Nat → Nat) (k : Nat) (s : jGS) (b : Nat) : Bool := tied d a k s b || (decide (0 < k) && decide (sB d b 5 < gs s b + rM d k))
def cmb (s : jGS) (b : Nat) : Nat := (gc s b).getD 0
def strt (d : jRD) (a : Nat → Nat) (k : Nat) (s : jGS) (b : Nat) : Nat := maxB (rdb a b) (ga s) (cmb s b + (if stnd d a k s b = true then sB d b 4 else 0)) (rE d)
def aln (d : jRD) (a : Nat → Nat) (k : Nat) (s : jGS) (b : Nat) : Bool := tied d a k s b && (decide (¬ rdrs d a b = 0) && decide (cmb s b < strt d a k s b))
def wnt (d : jRD) (a : Nat → Nat) (k : Nat) (s : jGS) (p : Nat) : Nat := if a p = 0 then ga s p else strt d a k s (a p - 1)
def nxt (d : jRD) (a : Nat → Nat) (k : Nat) (s : jGS) : jGS :=
  (fun p => if a p = 0 then ga s p + wlk d p k else strt d a k s (a p - 1) + rid d (a p - 1) k,
   fun p => if a p = 0 then gf s p + rM d k else gf s p,
   fun b => if rdrs d a b = 0 then none else some (strt d a k s b + rid d b k),
   fun b => rdrs d a b,
   fun b => if rdrs d a b = 0 then gs s b else if stnd d a k s b = true then rM d k else gs s b + rM d k,
   gt s + cntB (tied d a k s) (rB d),
   gl s + cntB (aln d a k s) (rB d))
/-- the numbers at gate k are small -/
def gOk (k : Nat) (s : jGS) : Prop := (∀ p, ga s p ≤ 2000 * k) ∧ (∀ p, gf s p ≤ 9 * k) ∧ (∀ b m, gc s b = some m → m ≤ 2000 * k) ∧ (∀ b, gw s b < 16) ∧ (∀ b, gs s b ≤ 9 * k) ∧ gt s ≤ 2 * k ∧ gl s ≤ 2 * k
theorem gs0_ok : gOk 0 gs0 := ⟨fun _ => Nat.le_refl _, fun _ => Nat.le_refl _, fun b m h => by cases h; exact Nat.le_refl _, fun _ => by show 0 < 16; omega, fun _ => Nat.le_refl _, Nat.le_refl _, Nat.le_refl _⟩
theorem cntB_le (f : Nat → Bool) : ∀ n, cntB f n ≤ n
  | 0 => Nat.le_refl _
  | n + 1 => by
    have := cntB_le f n
    rw [cntB]; split <;> omega
theorem wlk_le {d : jRD} (hd : rdOk d) (p k : Nat) : wlk d p k ≤ 1800 := by
  have h1 := hd.2.2.2.1 k
  have h2 := hd.2.2.2.2.2.1 (4 * p + rG d k)
  have h3 : rM d k * sP d p (rG d k) ≤ 9 * 99 := Nat.mul_le_mul h1 h2
  unfold wlk
  split <;> omega
theorem rid_le {d : jRD} (hd : rdOk d) (b k : Nat) : rid d b k ≤ 900 := by
  have h1 := hd.2.2.2.1 k
  have h2 := hd.2.2.2.2.2.2.1 (6 * b + rG d k)
  have h3 : rM d k * sB d b (rG d k) ≤ 9 * 99 := Nat.mul_le_mul h1 h2
  unfold rid
  omega
theorem sB_le {d : jRD} (hd : rdOk d) (b w : Nat) : sB d b w ≤ 99 := hd.2.2.2.2.2.2.1 _
theorem sP_le {d : jRD} (hd : rdOk d) (p w : Nat) : sP d p w ≤ 99 := hd.2.2.2.2.2.1 _
theorem cmb_le {k : Nat} {s : jGS} (hs : gOk k s) (b : Nat) : cmb s b ≤ 2000 * k := by
  unfold cmb
  cases h : gc s b with
  | none => exact Nat.zero_le _
  | some m => exact hs.2.2.1 b m h
theorem strt_le {d : jRD} (hd : rdOk d) {k : Nat} {s : jGS} (hs : gOk k s) (a : Nat → Nat) (b : Nat) : strt d a k s b ≤ 2000 * k + 99 := by
  unfold strt
  refine maxB_le ?_ (fun p => ?_) _
  · have := cmb_le hs b
    have := sB_le hd b 4
    split <;> omega
  · have := hs.1 p
    omega
theorem nxt_ok {d : jRD} (hd : rdOk d) {k : Nat} {s : jGS} (hs : gOk k s) (a : Nat → Nat) : gOk (k + 1) (nxt d a k s) := by
  refine ⟨fun p => ?_, fun p => ?_, fun b m h => ?_, fun b => ?_, fun b => ?_, ?_, ?_⟩
  · show (if a p = 0 then ga s p + wlk d p k else strt d a k s (a p - 1) + rid d (a p - 1) k) ≤ _
    have h1 := hs.1 p
    have h2 := wlk_le hd p k
    have h3 := strt_le hd hs a (a p - 1)
    have h4 := rid_le hd (a p - 1) k
    split <;> omega
  · show (if a p = 0 then gf s p + rM d k else gf s p) ≤ _
    have h1 := hs.2.1 p
    have h2 := hd.2.2.2.1 k
    split <;> omega
  · have h : (if rdrs d a b = 0 then none else some (strt d a k s b + rid d b k)) = some m := h
    have h3 := strt_le hd hs a b
    have h4 := rid_le hd b k
    split at h
    · exact absurd h (by simp)
    · cases h; omega
  · exact msk_16 _ hd.2.1
  · show (if rdrs d a b = 0 then gs s b else if stnd d a k s b = true then rM d k else gs s b + rM d k) ≤ _
    have h1 := hs.2.2.2.2.1 b
    have h2 := hd.2.2.2.1 k
    split
    · omega
    · split <;> omega
  · show gt s + cntB (tied d a k s) (rB d) ≤ _
    have h1 := hs.2.2.2.2.2.1
    have h2 := cntB_le (tied d a k s) (rB d)
    have h3 := hd.2.2.1
    omega
  · show gl s + cntB (aln d a k s) (rB d) ≤ _
    have h1 := hs.2.2.2.2.2.2
    have h2 := cntB_le (aln d a k s) (rB d)
    have h3 := hd.2.2.1
    omega
/-- all meet at a gate, and rest -/
def mtg (d : jRD) (mn : Nat) (s : jGS) : jGS := (fun p => if p < rE d then maxB (fun _ => true) (ga s) 0 (rE d) + mn else ga s p, gf s, gc s, gw s, gs s, gt s, gl s)
/-- over pieces k, k + 1, ..: the first wrong, or what is so at the last gate -/
def wlkOn (d : jRD) (c : Nat → Nat) (g mn : Nat) : Nat → Nat → jGS → Nat ⊕ jGS
  | 0, _, s => .inr s
  | m + 1, k, s => match fstW (whyN d (fun p => c (k * rE d + p)) k s) (rE d) 0 with
    | some w => .inl (100 * k + w)
    | none => wlkOn d c g mn m (k + 1) (if k + 1 = g then mtg d mn (nxt d (fun p => c (k * rE d + p)) k s) else nxt d (fun p => c (k * rE d + p)) k s)
