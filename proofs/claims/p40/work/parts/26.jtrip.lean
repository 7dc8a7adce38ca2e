/-! a whole journey -/
def rowC (d : jRD) (c : Nat → Nat) (k : Nat) : Nat → Nat := fun p => if p < rE d then c (k * rE d + p) else 0
/-- what is so at each gate -/
def sq (d : jRD) (c : Nat → Nat) (g mn : Nat) : Nat → jGS
  | 0 => gs0
  | k + 1 => if k + 1 = g then mtg d mn (nxt d (rowC d c k) k (sq d c g mn k)) else nxt d (rowC d c k) k (sq d c g mn k)
/-- the first wrong from piece k on -/
def wrOn (d : jRD) (c : Nat → Nat) (g mn : Nat) : Nat → Nat → Option Nat
  | 0, _ => none
  | m + 1, k => match fstW (whyN d (rowC d c k) k (sq d c g mn k)) (rE d) 0 with
    | some w => some (100 * k + w)
    | none => wrOn d c g mn m (k + 1)
def lastN (d : jRD) (s : jGS) : Nat := maxB (fun _ => true) (ga s) 0 (rE d)
def mostN (d : jRD) (s : jGS) : Nat := maxB (fun _ => true) (gf s) 0 (rE d)
def mnB (g : Nat → Nat) : Nat → Nat
  | 0 => 2147483647
  | n + 1 => if g n < mnB g n then g n else mnB g n
def frstN (d : jRD) (s : jGS) : Nat := mnB (ga s) (rE d)
theorem mtg_ok {d : jRD} (hd : rdOk d) {k mn : Nat} {s : jGS} (hs : gOk k s) (a : Nat → Nat) (hmn : mn ≤ 60) : gOk (k + 1) (mtg d mn (nxt d a k s)) := by
  have hn := nxt_ok hd hs a
  refine ⟨fun p => ?_, hn.2⟩
  have h0 : ∀ p, ga (nxt d a k s) p ≤ 2000 * k + 1800 := by
    intro p
    show (if a p = 0 then ga s p + wlk d p k else strt d a k s (a p - 1) + rid d (a p - 1) k) ≤ _
    have h1 := hs.1 p
    have h2 := wlk_le hd p k
    have h3 := strt_le hd hs a (a p - 1)
    have h4 := rid_le hd (a p - 1) k
    split <;> omega
  show (if p < rE d then maxB (fun _ => true) (ga (nxt d a k s)) 0 (rE d) + mn else ga (nxt d a k s) p) ≤ _
  have h5 := maxB_le (f := fun _ => true) (x := 0) (Nat.zero_le _) h0 (rE d)
  have h6 := h0 p
  split <;> omega
theorem sq_ok {d : jRD} (hd : rdOk d) (c : Nat → Nat) (g : Nat) {mn : Nat} (hmn : mn ≤ 60) : ∀ k, gOk k (sq d c g mn k)
  | 0 => gs0_ok
  | k + 1 => by
    have := sq_ok hd c g hmn k
    rw [sq]
    split
    · exact mtg_ok hd this _ hmn
    · exact nxt_ok hd this _
/-- what is so at gate 0 -/
def Z0 (A : Nat → Nat → Int32) : Prop := (∀ p, p < 4 → A 1 p = nI 0 ∧ A 3 p = nI 0) ∧ (∀ b, b < 2 → A 4 b = nI 0 ∧ A 5 b = nI 0 ∧ A 6 b = nI 0) ∧ A 7 0 = nI 0 ∧ A 8 0 = nI 0
theorem Z0_Fr {A A' : Nat → Nat → Int32} {k : Nat} (H : Z0 A) (hF : Fr k A A') : Z0 A' := by
  obtain ⟨g1, g2, g3, g4⟩ := H
  refine ⟨fun p hp => ?_, fun b hb => ?_, ?_, ?_⟩
  · rw [hF 1 p (by unfold inRow; omega), hF 3 p (by unfold inRow; omega)]; exact g1 p hp
  · rw [hF 4 b (by unfold inRow; omega), hF 5 b (by unfold inRow; omega), hF 6 b (by unfold inRow; omega)]; exact g2 b hb
  · rw [hF 7 0 (by unfold inRow; omega)]; exact g3
  · rw [hF 8 0 (by unfold inRow; omega)]; exact g4
theorem Z0_gate {d : jRD} {A : Nat → Nat → Int32} (hd : rdOk d) (H : Z0 A) : GateIs d A 0 gs0 := by
  have h4 := hd.2.1
  have h2 := hd.2.2.1
  obtain ⟨g1, g2, g3, g4⟩ := H
  refine ⟨fun p hp => ?_, fun b hb => ?_, g3, g4⟩
  · rw [Nat.zero_mul, Nat.zero_add]; exact g1 p (by omega)
  · rw [Nat.zero_mul, Nat.zero_add]
    have := g2 b (by omega)
    exact ⟨this.1, fun _ => this.2⟩
section JRows6
variable {h : jHp} {j r ca : Nat} {d : jRD} {C : Nat → Int32} {A : Nat → Nat → Int32}
theorem c_arrivalOf (H : jEnv h j r d ca C) {p g : Nat} (hp : p < rE d) (hg : g ≤ rP d) : mc 57 [.ref j, .int (nI p), .int (nI g)] (jJ h j r A) = some (some (.int (A 1 (g * 4 + p))), jJ h j r A) := by
  have hd := H.2.1
  have h6 := hd.1
  have h4 := hd.2.1
  have hr0 : RoadAt (jJ h j r A) r d := je_road H
  rw [M57]
  simp (disch := omega) only [jj_0, rd_o hr0, obd_some, obd_none, Option.toList_some, Option.toList_none, List.cons_append, List.nil_append, cond_true, cond_false, c_hasPerson hr0 hd, c_hasGate hr0 hd, inN_iff, b2i_0, B57_8, B57_19, hp, show g < rP d + 1 by omega, not_true_eq_false, if_false, nJ_add, nI_mul, nJ_lt, nJ_le, nI_inj, nI_lt0, nI_eq0, nI_gt0, toNat_nI, jj_1, jr_1]
theorem c_walkedBy (H : jEnv h j r d ca C) {p : Nat} (hp : p < rE d) : mc 62 [.ref j, .int (nI p)] (jJ h j r A) = some (some (.int (A 3 (rP d * 4 + p))), jJ h j r A) := by
  have hd := H.2.1
  have h6 := hd.1
  have h4 := hd.2.1
  have hr0 : RoadAt (jJ h j r A) r d := je_road H
  rw [M62]
  simp (disch := omega) only [jj_0, rd_o hr0, rd_0 hr0, obd_some, obd_none, Option.toList_some, Option.toList_none, List.cons_append, List.nil_append, cond_true, cond_false, c_hasPerson hr0 hd, c_hasGate hr0 hd, inN_iff, b2i_0, B62_8, B62_25, hp, show rP d < rP d + 1 by omega, not_true_eq_false, if_false, nJ_add, nI_mul, nJ_lt, nJ_le, nI_inj, nI_lt0, nI_eq0, nI_gt0, toNat_nI, jj_3, jr_3]
theorem c_tiesInAll (H : jEnv h j r d ca C) : mc 63 [.ref j] (jJ h j r A) = some (some (.int (A 7 (rP d))), jJ h j r A) := by
  have hd := H.2.1
  have h6 := hd.1
  have hr0 : RoadAt (jJ h j r A) r d := je_road H
  rw [M63]
  simp (disch := omega) only [jj_0, rd_o hr0, rd_0 hr0, obd_some, obd_none, Option.toList_some, Option.toList_none, List.cons_append, List.nil_append, cond_true, cond_false, c_hasGate hr0 hd, inN_iff, b2i_0, B63_14, show rP d < rP d + 1 by omega, not_true_eq_false, if_false, jj_7, jr_7]
theorem c_max {a b : Nat} (ha : a < 2147483648) (hb : b < 2147483648) (h : jHp) : mc 53 [.int (nI a), .int (nI b)] h = some (some (.int (nI (if a < b then b else a))), h) := by
  rw [M53]
  simp only [nJ_lt ha hb]
  split <;> rfl
theorem c_min {a b : Nat} (ha : a < 2147483648) (hb : b < 2147483648) (h : jHp) : mc 60 [.int (nI a), .int (nI b)] h = some (some (.int (nI (if b < a then b else a))), h) := by
  rw [M60]
  simp only [nJ_lt hb ha]
  split <;> rfl
theorem l_latest (H : jEnv h j r d ca C) {g : Nat} {f : Nat → Nat} (hg : g ≤ rP d) (hf : ∀ p, f p ≤ 20000) (hA : ∀ p, p < rE d → A 1 (g * 4 + p) = nI (f p)) :
    ∀ m p, p + m = rE d → R 3 56 4 [some (.ref j), some (.int (nI g)), some (.int (nI (maxB (fun _ => true) f 0 p))), some (.int (nI p))] [] (jJ h j r A) = some (some (.int (nI (maxB (fun _ => true) f 0 (rE d)))), jJ h j r A) := by
  have hd := H.2.1
  have h4 := hd.2.1
  have hr0 : RoadAt (jJ h j r A) r d := je_road H
  intro m
  induction m with
  | zero =>
    intro p hp
    obtain rfl : p = rE d := hp
    rw [B56_4]
    simp (disch := omega) only [jj_0, rd_1 hr0, obd_some, obd_none, Option.toList_some, Option.toList_none, List.cons_append, List.nil_append, cond_true, cond_false, nJ_add, nI_mul, nJ_lt, nJ_le, nI_inj, nI_lt0, nI_eq0, nI_gt0, toNat_nI, Nat.lt_irrefl, if_false]
  | succ m ih =>
    intro p hpm
    have hp : p < rE d := by omega
    have hfp := hf p
    have hmx := maxB_le (f := fun _ => true) (x := 0) (Nat.zero_le _) hf p
    rw [B56_4]
    simp (disch := omega) only [jj_0, rd_1 hr0, obd_some, obd_none, Option.toList_some, Option.toList_none, List.cons_append, List.nil_append, cond_true, cond_false, nJ_add, nI_mul, nJ_lt, nJ_le, nI_inj, nI_lt0, nI_eq0, nI_gt0, toNat_nI, hp, if_true, jj_o, c_arrivalOf H hp hg, hA p hp, B56_22, c_max, B56_25]
    rw [← ih (p + 1) (by omega), maxB, if_pos rfl]
theorem c_latestAt (H : jEnv h j r d ca C) {g : Nat} {f : Nat → Nat} (hg : g ≤ rP d) (hf : ∀ p, f p ≤ 20000) (hA : ∀ p, p < rE d → A 1 (g * 4 + p) = nI (f p)) :
    mc 56 [.ref j, .int (nI g)] (jJ h j r A) = some (some (.int (nI (maxB (fun _ => true) f 0 (rE d)))), jJ h j r A) := by
  rw [M56]
  exact l_latest H hg hf hA (rE d) 0 (Nat.zero_add _)
/-- what a whole journey has told up to gate n -/
def Trip (d : jRD) (c : Nat → Nat) (g mn : Nat) (A : Nat → Nat → Int32) (n : Nat) : Prop :=
  (∀ k, k ≤ n → GateIs d A k (sq d c g mn k)) ∧ ∀ k, k < n → ∀ p, p < rE d → A 2 (k * 4 + p) = nI (wnt d (rowC d c k) k (sq d c g mn k) p)
theorem Trip_Fr {c : Nat → Nat} {g mn n k : Nat} {A A' : Nat → Nat → Int32} (hd : rdOk d) (hT : Trip d c g mn A n) (hk : n ≤ k) (hF : Fr k A A') : Trip d c g mn A' n := by
  have h4 := hd.2.1
  refine ⟨fun k' hk' => GateIs_Fr hd (hT.1 k' hk') (by omega) hF, fun k' hk' p hp => ?_⟩
  rw [hF 2 _ (by unfold inRow; omega)]
  exact hT.2 k' hk' p hp
end JRows6
