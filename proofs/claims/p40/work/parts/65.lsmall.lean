/-! The law's helpers: who rides, minutes walked, outcomes, cells of the script. -/
/-- the law's row of a road -/
def RdA (d : jRD) (f : Nat → Int32) : Prop := f 0 = nI (rP d) ∧ f 1 = nI (rE d) ∧ f 2 = nI (rB d) ∧ f 3 = lwho (rL d) ∧ f 4 = lfro (rL d) ∧ (∀ k, k < rP d → f (8 + k) = nI (rM d k) ∧ f (14 + k) = nI (rG d k)) ∧ (∀ p j, p < rE d → j < 4 → f (20 + 4 * p + j) = nI (sP d p j)) ∧ ∀ b j, b < rB d → j < 6 → f (36 + 6 * b + j) = nI (sB d b j)
/-- the law's row of what all do -/
def CtA (d : jRD) (c : Nat → Nat) (f : Nat → Int32) : Prop := ∀ i, i < rP d * rE d → f i = nI (c i)
theorem cell_lt {d : jRD} (hd : rdOk d) {k p : Nat} (hk : k < rP d) (hp : p < rE d) : rE d * k + p < rP d * rE d ∧ rE d * k + p < 24 ∧ rP d * rE d ≤ 24 := by
  have h6 := hd.1
  have h4 := hd.2.1
  have h1 : rE d * k + rE d ≤ rE d * rP d := by
    rw [← Nat.mul_succ]; exact Nat.mul_le_mul_left _ hk
  have h2 : rE d * rP d ≤ 4 * 6 := Nat.mul_le_mul h4 h6
  have h3 := Nat.mul_comm (rE d) (rP d)
  omega
theorem shl_p {p : Nat} (hp : p < 4) : (nI 1) <<< (nI p &&& 31) = nI (2 ^ p) := by
  have h : ∀ p : Fin 4, (nI 1) <<< (nI p.1 &&& 31) = nI (2 ^ p.1) := by decide +kernel
  exact h ⟨p, hp⟩
theorem row_at {d : jRD} (c : Nat → Nat) {k p : Nat} (hp : p < rE d) : rowC d c k p = c (rE d * k + p) := by
  show (if p < rE d then c (k * rE d + p) else 0) = _
  rw [if_pos hp, Nat.mul_comm]
section LSmall
variable {h : jHp} {d : jRD} {c : Nat → Nat}
theorem l_by {a : Nat} {f : Nat → Int32} (H : La h a 24 f) (hf : CtA d c f) (hd : rdOk d) (hc : ∀ i, c i ≤ 2) {k b : Nat} (hk : k < rP d) (hb : b < 3) :
    ∀ m j, j + m = rE d → R 1 97 6 [some (.ref a), some (.int (nI (rE d))), some (.int (nI k)), some (.int (nI b)), some (.int (nI (msk (rdb (rowC d c k) b) j))), some (.int (nI j))] [] h = some (some (.int (nI (rdrs d (rowC d c k) b))), h)
  | 0, j, hj => by
    have h4 := hd.2.1
    obtain rfl : j = rE d := hj
    rw [B97_6, if_neg (show ¬ nI (rE d) < nI (rE d) by rw [nJ_lt (by omega) (by omega)]; omega)]
    rfl
  | m + 1, j, hj => by
    have h4 := hd.2.1
    have h6 := hd.1
    have hp : j < rE d := by omega
    obtain ⟨g1, g2, g3⟩ := cell_lt hd hk hp
    have hci := hc (rE d * k + j)
    have hm := msk_lt (rdb (rowC d c k) b) j
    have ih := l_by H hf hd hc hk hb m (j + 1) (by omega)
    rw [msk] at ih
    rw [B97_6, if_pos (show nI j < nI (rE d) by rw [nJ_lt (by omega) (by omega)]; exact hp), nI_mul, nJ_add, la_r H g2 (by omega), obd_some, hf _ g1, nJ_add]
    by_cases e : c (rE d * k + j) = b + 1
    · have e2 : rdb (rowC d c k) b j = true := by
        show (rowC d c k j == b + 1) = true
        rw [row_at c hp, e]; exact beq_self_eq_true _
      rw [if_pos (show nI (c (rE d * k + j)) = nI (b + 1) by rw [e]), shl_p (by omega), B97_37, nJ_add, nJ_add]
      rw [if_pos e2] at ih
      exact ih
    · have e2 : ¬ rdb (rowC d c k) b j = true := by
        intro z
        have z : (rowC d c k j == b + 1) = true := z
        rw [row_at c hp] at z
        exact e (eq_of_beq z)
      rw [if_neg (show ¬ nI (c (rE d * k + j)) = nI (b + 1) by rw [nI_inj (by omega) (by omega)]; exact e), B97_37, nJ_add, nJ_add]
      rw [if_neg e2] at ih
      exact ih
theorem m_by {a : Nat} {f : Nat → Int32} (H : La h a 24 f) (hf : CtA d c f) (hd : rdOk d) (hc : ∀ i, c i ≤ 2) {k b : Nat} (hk : k < rP d) (hb : b < 3) : mc 97 [.ref a, .int (nI (rE d)), .int (nI k), .int (nI b)] h = some (some (.int (nI (rdrs d (rowC d c k) b))), h) := by
  rw [M97]
  exact l_by H hf hd hc hk hb (rE d) 0 (by omega)
theorem m_pace {a : Nat} {f : Nat → Int32} (H : La h a 48 f) (hf : RdA d f) (hd : rdOk d) {p k : Nat} (hp : p < rE d) (hk : k < rP d) : mc 98 [.ref a, .int (nI p), .int (nI k)] h = some (some (.int (nI (wlk d p k))), h) := by
  obtain ⟨-, -, -, f3, f4, f5, f6, -⟩ := hf
  have h4 := hd.2.1
  have h6 := hd.1
  have hg := hd.2.2.2.2.1 k
  have hL := hd.2.2.2.2.2.2.2
  have e1 := la_r (t := 3) H (by omega) (by omega)
  have e2 := la_r (t := 4) H (by omega) (by omega)
  rw [f3] at e1
  rw [f4] at e2
  rw [M98, nJ_add, la_r H (by omega) (by omega), obd_some, (f5 k hk).1, nJ_add, la_r H (by omega) (by omega), obd_some, (f5 k hk).2, nI_mul, nJ_add, nJ_add, la_r H (by omega) (by omega), obd_some, f6 p _ hp (by omega), nI_mul, B98_23, e1, obd_some]
  unfold wlk
  cases eL : rL d with
  | none =>
    rw [if_neg (show ¬ lwho none = nI p by show ¬ -nI 9 = nI p; rw [neg9_ne' (by omega)]; exact id), if_neg (show ¬ isLm none p k = true by show ¬ false = true; decide), nI_mul, Nat.mul_one]
  | some q =>
    obtain ⟨q1, q2⟩ := hL q eL
    by_cases e3 : q.1 = p
    · rw [if_pos (show lwho (some q) = nI p by show nI q.1 = nI p; rw [e3]), e2, eL, obd_some]
      show (if nI k < nI q.2 then _ else _) = _
      by_cases e4 : k < q.2
      · rw [if_pos (show nI k < nI q.2 by rw [nJ_lt (by omega) (by omega)]; exact e4), if_neg (show ¬ isLm (some q) p k = true by
          show ¬ (q.1 == p && Nat.ble q.2 k) = true
          intro z
          rw [Bool.and_eq_true] at z
          have := Nat.le_of_ble_eq_true z.2
          omega), nI_mul, Nat.mul_one]
      · rw [if_neg (show ¬ nI k < nI q.2 by rw [nJ_lt (by omega) (by omega)]; exact e4), if_pos (show isLm (some q) p k = true by
          show (q.1 == p && Nat.ble q.2 k) = true
          rw [Bool.and_eq_true]
          exact ⟨beq_iff_eq.mpr e3, Nat.ble_eq_true_of_le (by omega)⟩), nI_mul, Nat.mul_comm]
    · rw [if_neg (show ¬ lwho (some q) = nI p by show ¬ nI q.1 = nI p; rw [nI_inj (by omega) (by omega)]; exact e3), if_neg (show ¬ isLm (some q) p k = true by
          show ¬ (q.1 == p && Nat.ble q.2 k) = true
          intro z
          rw [Bool.and_eq_true] at z
          exact e3 (eq_of_beq z.1)), nI_mul, Nat.mul_one]
/-- what the law reads off a way that it went through -/
def OutA (d : jRD) (s : jGS) (f : Nat → Int32) : Prop := (∀ p, p < rE d → f (7 * p + rP d) = nI (ga s p)) ∧ (∀ p, p < rE d → f (52 + p) = nI (gf s p)) ∧ f 57 = nI (gt s)
def mnX (g : Nat → Nat) (x : Nat) : Nat → Nat
  | 0 => x
  | n + 1 => if g n < mnX g x n then g n else mnX g x n
theorem mnX_le (g : Nat → Nat) (x : Nat) : ∀ n, mnX g x n ≤ x
  | 0 => Nat.le_refl _
  | n + 1 => by
    have := mnX_le g x n
    rw [mnX]; split <;> omega
theorem mnX_B {g : Nat → Nat} {x : Nat} (hx : x < 2147483647) (hg : ∀ p, g p < x) : ∀ n, 0 < n → mnX g x n = mnB g n
  | 0, h => absurd h (Nat.lt_irrefl 0)
  | n + 1, _ => by
    have h0 := hg n
    rw [mnX, mnB]
    by_cases z : n = 0
    · subst z
      rw [mnX, mnB, if_pos h0, if_pos (by omega)]
    · rw [mnX_B hx hg n (by omega)]
theorem l_out0 {a o : Nat} {f g : Nat → Int32} {s : jGS} (H : La h a 48 f) (hf : RdA d f) (K : La h o 60 g) (hg : OutA d s g) (hd : rdOk d) (hs : gOk (rP d) s) :
    ∀ m j, j + m = rE d → R 1 99 15 [some (.ref a), some (.ref o), some (.int (nI 0)), some (.int (nI (maxB (fun _ => true) (ga s) 0 j))), some (.int (nI j)), none] [] h = some (some (.int (nI (lastN d s))), h)
  | 0, j, hj => by
    have h4 := hd.2.1
    obtain rfl : j = rE d := hj
    rw [B99_15, la_r (t := 1) H (by omega) (by omega), obd_some, hf.2.1, if_neg (show ¬ nI (rE d) < nI (rE d) by rw [nJ_lt (by omega) (by omega)]; omega), B99_95, if_neg (show ¬ nI 2 < nI 0 by decide), B99_110]
    rfl
  | m + 1, j, hj => by
    have h4 := hd.2.1
    have h6 := hd.1
    have hp : j < rE d := by omega
    have ih := l_out0 H hf K hg hd hs m (j + 1) (by omega)
    rw [maxB, if_pos rfl] at ih
    have h1 := hs.1 j
    have h2 := maxB_le (f := fun _ => true) (x := 0) (g := ga s) (c := 2000 * rP d) (Nat.zero_le _) hs.1 j
    rw [B99_15, la_r (t := 1) H (by omega) (by omega), obd_some, hf.2.1, if_pos (show nI j < nI (rE d) by rw [nJ_lt (by omega) (by omega)]; exact hp), if_pos (show nI 0 < nI 3 by decide), if_neg (show ¬ nI 0 = nI 2 by decide), la_r (t := 0) H (by omega) (by omega), obd_some, hf.1, nI_mul, nJ_add, la_r K (by omega) (by omega), obd_some, hg.1 j hp, B99_54, if_neg (show ¬ nI 0 = nI 1 by decide)]
    by_cases e : maxB (fun _ => true) (ga s) 0 j < ga s j
    · rw [if_pos (show nI (maxB (fun _ => true) (ga s) 0 j) < nI (ga s j) by rw [nJ_lt (by omega) (by omega)]; exact e), nJ_add]
      rw [if_pos e] at ih
      exact ih
    · rw [if_neg (show ¬ nI (maxB (fun _ => true) (ga s) 0 j) < nI (ga s j) by rw [nJ_lt (by omega) (by omega)]; exact e), nJ_add]
      rw [if_neg e] at ih
      exact ih
theorem l_out2 {a o : Nat} {f g : Nat → Int32} {s : jGS} (H : La h a 48 f) (hf : RdA d f) (K : La h o 60 g) (hg : OutA d s g) (hd : rdOk d) (hs : gOk (rP d) s) :
    ∀ m j, j + m = rE d → R 1 99 15 [some (.ref a), some (.ref o), some (.int (nI 2)), some (.int (nI (maxB (fun _ => true) (gf s) 0 j))), some (.int (nI j)), none] [] h = some (some (.int (nI (mostN d s))), h)
  | 0, j, hj => by
    have h4 := hd.2.1
    obtain rfl : j = rE d := hj
    rw [B99_15, la_r (t := 1) H (by omega) (by omega), obd_some, hf.2.1, if_neg (show ¬ nI (rE d) < nI (rE d) by rw [nJ_lt (by omega) (by omega)]; omega), B99_95, if_neg (show ¬ nI 2 < nI 2 by decide), B99_110]
    rfl
  | m + 1, j, hj => by
    have h4 := hd.2.1
    have h6 := hd.1
    have hp : j < rE d := by omega
    have ih := l_out2 H hf K hg hd hs m (j + 1) (by omega)
    rw [maxB, if_pos rfl] at ih
    have h1 := hs.2.1 j
    have h2 := maxB_le (f := fun _ => true) (x := 0) (g := gf s) (c := 9 * rP d) (Nat.zero_le _) hs.2.1 j
    rw [B99_15, la_r (t := 1) H (by omega) (by omega), obd_some, hf.2.1, if_pos (show nI j < nI (rE d) by rw [nJ_lt (by omega) (by omega)]; exact hp), if_pos (show nI 2 < nI 3 by decide), if_pos (show nI 2 = nI 2 from rfl), nJ_add, la_r K (by omega) (by omega), obd_some, hg.2.1 j hp, B99_54, if_neg (show ¬ nI 2 = nI 1 by decide)]
    by_cases e : maxB (fun _ => true) (gf s) 0 j < gf s j
    · rw [if_pos (show nI (maxB (fun _ => true) (gf s) 0 j) < nI (gf s j) by rw [nJ_lt (by omega) (by omega)]; exact e), nJ_add]
      rw [if_pos e] at ih
      exact ih
    · rw [if_neg (show ¬ nI (maxB (fun _ => true) (gf s) 0 j) < nI (gf s j) by rw [nJ_lt (by omega) (by omega)]; exact e), nJ_add]
      rw [if_neg e] at ih
      exact ih
theorem l_out1 {a o : Nat} {f g : Nat → Int32} {s : jGS} (H : La h a 48 f) (hf : RdA d f) (K : La h o 60 g) (hg : OutA d s g) (hd : rdOk d) (hE : 0 < rE d) (hs : gOk (rP d) s) :
    ∀ m j, j + m = rE d → R 1 99 15 [some (.ref a), some (.ref o), some (.int (nI 1)), some (.int (nI (mnX (ga s) 999999 j))), some (.int (nI j)), none] [] h = some (some (.int (nI (frstN d s))), h)
  | 0, j, hj => by
    have h4 := hd.2.1
    have h6 := hd.1
    obtain rfl : j = rE d := hj
    rw [B99_15, la_r (t := 1) H (by omega) (by omega), obd_some, hf.2.1, if_neg (show ¬ nI (rE d) < nI (rE d) by rw [nJ_lt (by omega) (by omega)]; omega), B99_95, if_neg (show ¬ nI 2 < nI 1 by decide), B99_110, mnX_B (by omega) (fun p => by have := hs.1 p; omega) _ hE]
    rfl
  | m + 1, j, hj => by
    have h4 := hd.2.1
    have h6 := hd.1
    have hp : j < rE d := by omega
    have ih := l_out1 H hf K hg hd hE hs m (j + 1) (by omega)
    rw [mnX] at ih
    have h1 := hs.1 j
    have h2 := mnX_le (ga s) 999999 j
    rw [B99_15, la_r (t := 1) H (by omega) (by omega), obd_some, hf.2.1, if_pos (show nI j < nI (rE d) by rw [nJ_lt (by omega) (by omega)]; exact hp), if_pos (show nI 1 < nI 3 by decide), if_neg (show ¬ nI 1 = nI 2 by decide), la_r (t := 0) H (by omega) (by omega), obd_some, hf.1, nI_mul, nJ_add, la_r K (by omega) (by omega), obd_some, hg.1 j hp, B99_54, if_pos (show nI 1 = nI 1 from rfl)]
    by_cases e : ga s j < mnX (ga s) 999999 j
    · rw [if_pos (show nI (ga s j) < nI (mnX (ga s) 999999 j) by rw [nJ_lt (by omega) (by omega)]; exact e), nJ_add]
      rw [if_pos e] at ih
      exact ih
    · rw [if_neg (show ¬ nI (ga s j) < nI (mnX (ga s) 999999 j) by rw [nJ_lt (by omega) (by omega)]; exact e), nJ_add]
      rw [if_neg e] at ih
      exact ih
theorem m_out {a o w : Nat} {f g : Nat → Int32} {s : jGS} (H : La h a 48 f) (hf : RdA d f) (K : La h o 60 g) (hg : OutA d s g) (hd : rdOk d) (hE : 0 < rE d) (hs : gOk (rP d) s) (n : Nat) (hw : w < 3) : mc 99 [.ref a, .ref o, .int (nI w)] h = some (some (.int (nI (rcOf d s n w))), h) := by
  rw [M99]
  rcases (by omega : w = 0 ∨ w = 1 ∨ w = 2) with rfl | rfl | rfl
  · rw [if_neg (show ¬ nI 0 = nI 1 by decide)]
    exact l_out0 H hf K hg hd hs (rE d) 0 (by omega)
  · rw [if_pos (show nI 1 = nI 1 from rfl)]
    exact l_out1 H hf K hg hd hE hs (rE d) 0 (by omega)
  · rw [if_neg (show ¬ nI 2 = nI 1 by decide)]
    exact l_out2 H hf K hg hd hs (rE d) 0 (by omega)
end LSmall
/-- a cell of the script -/
def cellV (L : Nat) (xs : Nat → Int32) (t : Nat) : Int32 := if t < L then xs t else nI 15485863 * nI t + nI 977
theorem sa_r {h : jHp} {b n t : Nat} {f : Nat → Int32} (H : Sa h b n f) (ht : t < n) (hn : n < 1000) : alI h b (nI t) = some (f t) := by
  unfold alI aI
  rw [H.1]
  show (if nI t < 0 ∨ n ≤ (nI t).toNatClampNeg then none else some (f (nI t).toNatClampNeg)) = _
  rw [toNat_nI (by omega), if_neg]
  rintro (z | z)
  · exact nI_nneg (by omega) z
  · omega
theorem sa_len {h : jHp} {b n : Nat} {f : Nat → Int32} (H : Sa h b n f) : alen h b = some (nI n) := by
  unfold alen; rw [H.1]; rfl
theorem m_cell {h : jHp} {b L t : Nat} {xs : Nat → Int32} (H : Sa h b L xs) (hL : L ≤ 260) (ht : t < 1000) : mc 94 [.ref b, .int (nI t)] h = some (some (.int (cellV L xs t)), h) := by
  rw [M94, sa_len H, obd_some]
  unfold cellV
  by_cases e : t < L
  · rw [if_pos (show nI t < nI L by rw [nJ_lt (by omega) (by omega)]; exact e), sa_r H e (by omega), obd_some, if_pos e]
  · rw [if_neg (show ¬ nI t < nI L by rw [nJ_lt (by omega) (by omega)]; exact e), if_neg e]
def low31 (v : Int32) : Nat := (v &&& nI 2147483647).toNatClampNeg
theorem low31_eq (v : Int32) : v &&& nI 2147483647 = nI (low31 v) ∧ low31 v < 2147483648 := by
  have h0 : 0 ≤ (v &&& nI 2147483647).toInt := by
    show 0 ≤ (v &&& nI 2147483647).toBitVec.toInt
    rw [Int32.toBitVec_and]
    have : (v.toBitVec &&& (nI 2147483647).toBitVec).msb = false := by
      rw [BitVec.msb_and]
      rw [show (nI 2147483647).toBitVec.msb = false by decide]
      exact Bool.and_false _
    rw [BitVec.toInt_eq_toNat_of_msb this]
    omega
  have h1 := Int32.toInt_lt (v &&& nI 2147483647)
  have h2 : low31 v = (v &&& nI 2147483647).toInt.toNat := rfl
  refine ⟨?_, by omega⟩
  apply Int32.toInt_inj.mp
  rw [toInt_nI (by omega)]
  omega
def lowN (v : Int32) (n : Nat) : Nat := low31 v % n
theorem lowN_lt (v : Int32) {n : Nat} (h : 0 < n) : lowN v n < n := Nat.mod_lt _ h
theorem m_low (v : Int32) {n : Nat} (h0 : 0 < n) (hn : n < 1000) (h : jHp) : mc 95 [.int v, .int (nI n)] h = some (some (.int (nI (lowN v n))), h) := by
  obtain ⟨e, h31⟩ := low31_eq v
  rw [M95, if_neg (show ¬ nI n = 0 by rw [nI_eq0 (by omega)]; omega), e, nI_mod h31 (by omega)]
  rfl
