/-! a whole journey -/
def rowC (d : jRD) (c : Nat → Nat) (k : Nat) : Nat → Nat := fun p => if p < rE d then c (k * rE d + p) else 0
/-- what is so at each gate -/
def sq (d : jRD) (c : Nat → Nat) (g mn : Nat) : Nat → jGS
  | 0 => gs0
  | k + 1 => if k + 1 = g then mtg d mn (nxt d (rowC d c k) k (sq d c g mn k)) else nxt d (rowC d c k) k (sq d c g mn k)
/-- the first wrong from piece k on -/
def wrOn (d : jRD) (c : Nat → Nat) (g mn : Nat) : Nat → Nat → Option Nat
  | 0, _ => none
  | m + 1, k => match fstW (whyN d (rowC d c k) k (sq d c g mn k)) (rE d) 0 with
    | some w => some (100 * k + w)
    | none => wrOn d c g mn m (k + 1)
def lastN (d : jRD) (s : jGS) : Nat := maxB (fun _ => true) (ga s) 0 (rE d)
def mostN (d : jRD) (s : jGS) : Nat := maxB (fun _ => true) (gf s) 0 (rE d)
def mnB (g : Nat → Nat) : Nat → Nat
  | 0 => 2147483647
  | n + 1 => if g n < mnB g n then g n else mnB g n
def frstN (d : jRD) (s : jGS) : Nat := mnB (ga s) (rE d)
theorem mtg_ok {d : jRD} (hd : rdOk d) {k mn : Nat} {s : jGS} (hs : gOk k s) (a : Nat → Nat) (hmn : mn ≤ 60) : gOk (k + 1) (mtg d mn (nxt d a k s)) := by
  have hn := nxt_ok hd hs a
  refine ⟨fun p => ?_, hn.2⟩
  have h0 : ∀ p, ga (nxt d a k s) p ≤ 2000 * k + 1800 := by
    intro p
    show (if a p = 0 then ga s p + wlk d p k else strt d a k s (a p - 1) + rid d (a p - 1) k) ≤ _
    have h1 := hs.1 p
    have h2 := wlk_le hd p k
    have h3 := strt_le hd hs a (a p - 1)
    have h4 := rid_le hd (a p - 1) k
    split <;> omega
  show (if p < rE d then maxB (fun _ => true) (ga (nxt d a k s)) 0 (rE d) + mn else ga (nxt d a k s) p) ≤ _
  have h5 := maxB_le (f := fun _ => true) (x := 0) (Nat.zero_le _) h0 (rE d)
  have h6 := h0 p
  split <;> omega
theorem sq_ok {d : jRD} (hd : rdOk d) (c : Nat → Nat) (g : Nat) {mn : Nat} (hmn : mn ≤ 60) : ∀ k, gOk k (sq d c g mn k)
  | 0 => gs0_ok
  | k + 1 => by
    have := sq_ok hd c g hmn k
    rw [sq]
    split
    · exact mtg_ok hd this _ hmn
    · exact nxt_ok hd this _
/-- what is so at gate 0 -/
def Z0 (A : Nat → Nat → Int32) : Prop := (∀ p, p < 4 → A 1 p = nI 0 ∧ A 3 p = nI 0) ∧ (∀ b, b < 2 → A 4 b = nI 0 ∧ A 5 b = nI 0 ∧ A 6 b = nI 0) ∧ A 7 0 = nI 0 ∧ A 8 0 = nI 0
theorem Z0_Fr {A A' : Nat → Nat → Int32} {k : Nat} (H : Z0 A) (hF : Fr k A A') : Z0 A' := by
  obtain ⟨g1, g2, g3, g4⟩ := H
  refine ⟨fun p hp => ?_, fun b hb => ?_, ?_, ?_⟩
  · rw [hF 1 p (by unfold inRow; omega), hF 3 p (by unfold inRow; omega)]; exact g1 p hp
  · rw [hF 4 b (by unfold inRow; omega), hF 5 b (by unfold inRow; omega), hF 6 b (by unfold inRow; omega)]; exact g2 b hb
  · rw [hF 7 0 (by unfold inRow; omega)]; exact g3
  · rw [hF 8 0 (by unfold inRow; omega)]; exact g4
theorem Z0_gate {d : jRD} {A : Nat → Nat → Int32} (hd : rdOk d) (H : Z0 A) : GateIs d A 0 gs0 := by
  have h4 := hd.2.1
  have h2 := hd.2.2.1
  obtain ⟨g1, g2, g3, g4⟩ := H
  refine ⟨fun p hp => ?_, fun b hb => ?_, g3, g4⟩
  · rw [Nat.zero_mul, Nat.zero_add]; exact g1 p (by omega)
  · rw [Nat.zero_mul, Nat.zero_add]
    have := g2 b (by omega)
    exact ⟨this.1, fun _ => this.2⟩
section JRows6
variable {h : jHp} {j r ca : Nat} {d : jRD} {C : Nat → Int32} {A : Nat → Nat → Int32}
theorem c_arrivalOf (H : jEnv h j r d ca C) {p g : Nat} (hp : p < rE d) (hg : g ≤ rP d) : mc 68 [.ref j, .int (nI p), .int (nI g)] (jJ h j r A) = some (some (.int (A 1 (g * 4 + p))), jJ h j r A) := by
  have hd := H.2.1
  have h6 := hd.1
  have h4 := hd.2.1
  have hr0 : RoadAt (jJ h j r A) r d := je_road H
  rw [M68]
  simp (disch := omega) only [jj_0, rd_o hr0, obd_some, obd_none, Option.toList_some, Option.toList_none, List.cons_append, List.nil_append, cond_true, cond_false, c_hasPerson hr0 hd, c_hasGate hr0 hd, inN_iff, b2i_0, B68_8, B68_19, hp, show g < rP d + 1 by omega, not_true_eq_false, if_false, nJ_add, nI_mul, nJ_lt, nJ_le, nI_inj, nI_lt0, nI_eq0, nI_gt0, toNat_nI, jj_1, jr_1]
theorem c_startOf (H : jEnv h j r d ca C) {p g : Nat} (hp : p < rE d) (hg : g < rP d) : mc 74 [.ref j, .int (nI p), .int (nI g)] (jJ h j r A) = some (some (.int (A 2 (g * 4 + p))), jJ h j r A) := by
  have hd := H.2.1
  have h6 := hd.1
  have h4 := hd.2.1
  have hr0 : RoadAt (jJ h j r A) r d := je_road H
  rw [M74]
  simp (disch := omega) only [jj_0, rd_o hr0, obd_some, obd_none, Option.toList_some, Option.toList_none, List.cons_append, List.nil_append, cond_true, cond_false, c_hasPerson hr0 hd, c_hasPiece hr0 hd, inN_iff, b2i_0, B74_8, B74_19, hp, hg, not_true_eq_false, if_false, nJ_add, nI_mul, nJ_lt, nJ_le, nI_inj, nI_lt0, nI_eq0, nI_gt0, toNat_nI, jj_2, jr_2]
theorem c_comingOf (H : jEnv h j r d ca C) {b g : Nat} (hb : b < rB d) (hg : g ≤ rP d) : mc 72 [.ref j, .int (nI b), .int (nI g)] (jJ h j r A) = some (some (.int (A 4 (g * 2 + b))), jJ h j r A) := by
  have hd := H.2.1
  have h6 := hd.1
  have h2 := hd.2.2.1
  have hr0 : RoadAt (jJ h j r A) r d := je_road H
  rw [M72]
  simp (disch := omega) only [jj_0, rd_o hr0, obd_some, obd_none, Option.toList_some, Option.toList_none, List.cons_append, List.nil_append, cond_true, cond_false, c_hasBeast hr0 hd, c_hasGate hr0 hd, inN_iff, b2i_0, B72_8, B72_19, hb, show g < rP d + 1 by omega, not_true_eq_false, if_false, nJ_add, nI_mul, nJ_lt, nJ_le, nI_inj, nI_lt0, nI_eq0, nI_gt0, toNat_nI, jj_4, jr_4]
theorem c_walkedBy (H : jEnv h j r d ca C) {p : Nat} (hp : p < rE d) : mc 80 [.ref j, .int (nI p)] (jJ h j r A) = some (some (.int (A 3 (rP d * 4 + p))), jJ h j r A) := by
  have hd := H.2.1
  have h6 := hd.1
  have h4 := hd.2.1
  have hr0 : RoadAt (jJ h j r A) r d := je_road H
  rw [M80]
  simp (disch := omega) only [jj_0, rd_o hr0, rd_0 hr0, obd_some, obd_none, Option.toList_some, Option.toList_none, List.cons_append, List.nil_append, cond_true, cond_false, c_hasPerson hr0 hd, c_hasGate hr0 hd, inN_iff, b2i_0, B80_8, B80_25, hp, show rP d < rP d + 1 by omega, not_true_eq_false, if_false, nJ_add, nI_mul, nJ_lt, nJ_le, nI_inj, nI_lt0, nI_eq0, nI_gt0, toNat_nI, jj_3, jr_3]
theorem c_tiesInAll (H : jEnv h j r d ca C) : mc 81 [.ref j] (jJ h j r A) = some (some (.int (A 7 (rP d))), jJ h j r A) := by
  have hd := H.2.1
  have h6 := hd.1
  have hr0 : RoadAt (jJ h j r A) r d := je_road H
  rw [M81]
  simp (disch := omega) only [jj_0, rd_o hr0, rd_0 hr0, obd_some, obd_none, Option.toList_some, Option.toList_none, List.cons_append, List.nil_append, cond_true, cond_false, c_hasGate hr0 hd, inN_iff, b2i_0, B81_14, show rP d < rP d + 1 by omega, not_true_eq_false, if_false, jj_7, jr_7]
theorem c_aloneInAll (H : jEnv h j r d ca C) : mc 82 [.ref j] (jJ h j r A) = some (some (.int (A 8 (rP d))), jJ h j r A) := by
  have hd := H.2.1
  have h6 := hd.1
  have hr0 : RoadAt (jJ h j r A) r d := je_road H
  rw [M82]
  simp (disch := omega) only [jj_0, rd_o hr0, rd_0 hr0, obd_some, obd_none, Option.toList_some, Option.toList_none, List.cons_append, List.nil_append, cond_true, cond_false, c_hasGate hr0 hd, inN_iff, b2i_0, B82_14, show rP d < rP d + 1 by omega, not_true_eq_false, if_false, jj_8, jr_8]
theorem c_max {a b : Nat} (ha : a < 2147483648) (hb : b < 2147483648) (h : jHp) : mc 65 [.int (nI a), .int (nI b)] h = some (some (.int (nI (if a < b then b else a))), h) := by
  rw [M65]
  simp only [nJ_lt ha hb]
  split <;> rfl
theorem c_min {a b : Nat} (ha : a < 2147483648) (hb : b < 2147483648) (h : jHp) : mc 78 [.int (nI a), .int (nI b)] h = some (some (.int (nI (if b < a then b else a))), h) := by
  rw [M78]
  simp only [nJ_lt hb ha]
  split <;> rfl
theorem l_latest (H : jEnv h j r d ca C) {g : Nat} {f : Nat → Nat} (hg : g ≤ rP d) (hf : ∀ p, f p ≤ 20000) (hA : ∀ p, p < rE d → A 1 (g * 4 + p) = nI (f p)) :
    ∀ m p, p + m = rE d → R 3 67 4 [some (.ref j), some (.int (nI g)), some (.int (nI (maxB (fun _ => true) f 0 p))), some (.int (nI p))] [] (jJ h j r A) = some (some (.int (nI (maxB (fun _ => true) f 0 (rE d)))), jJ h j r A) := by
  have hd := H.2.1
  have h4 := hd.2.1
  have hr0 : RoadAt (jJ h j r A) r d := je_road H
  intro m
  induction m with
  | zero =>
    intro p hp
    obtain rfl : p = rE d := hp
    rw [B67_4]
    simp (disch := omega) only [jj_0, rd_1 hr0, obd_some, obd_none, Option.toList_some, Option.toList_none, List.cons_append, List.nil_append, cond_true, cond_false, nJ_add, nI_mul, nJ_lt, nJ_le, nI_inj, nI_lt0, nI_eq0, nI_gt0, toNat_nI, Nat.lt_irrefl, if_false]
  | succ m ih =>
    intro p hpm
    have hp : p < rE d := by omega
    have hfp := hf p
    have hmx := maxB_le (f := fun _ => true) (x := 0) (Nat.zero_le _) hf p
    rw [B67_4]
    simp (disch := omega) only [jj_0, rd_1 hr0, obd_some, obd_none, Option.toList_some, Option.toList_none, List.cons_append, List.nil_append, cond_true, cond_false, nJ_add, nI_mul, nJ_lt, nJ_le, nI_inj, nI_lt0, nI_eq0, nI_gt0, toNat_nI, hp, if_true, jj_o, c_arrivalOf H hp hg, hA p hp, B67_22, c_max, B67_25]
    rw [← ih (p + 1) (by omega), maxB, if_pos rfl]
theorem c_latestAt (H : jEnv h j r d ca C) {g : Nat} {f : Nat → Nat} (hg : g ≤ rP d) (hf : ∀ p, f p ≤ 20000) (hA : ∀ p, p < rE d → A 1 (g * 4 + p) = nI (f p)) :
    mc 67 [.ref j, .int (nI g)] (jJ h j r A) = some (some (.int (nI (maxB (fun _ => true) f 0 (rE d)))), jJ h j r A) := by
  rw [M67]
  exact l_latest H hg hf hA (rE d) 0 (Nat.zero_add _)
theorem l_meet (H : jEnv h j r d ca C) {g v : Nat} (hg : g ≤ rP d) :
    ∀ (m p : Nat) (o2 : Option Value) (A' : Nat → Nat → Int32), p + m = rE d → (∀ i t, A' i t = if i = 1 ∧ g * 4 ≤ t ∧ t < g * 4 + p then nI v else A i t) →
    ∃ A2, R 4 66 11 [some (.ref j), some (.int (nI g)), o2, some (.int (nI v)), some (.int (nI p))] [] (jJ h j r A') = some (none, jJ h j r A2) ∧ ∀ i t, A2 i t = if i = 1 ∧ g * 4 ≤ t ∧ t < g * 4 + rE d then nI v else A i t := by
  have hd := H.2.1
  have h6 := hd.1
  have h4 := hd.2.1
  intro m
  induction m with
  | zero =>
    intro p o2 A' hp hA
    have hr0 : RoadAt (jJ h j r A') r d := je_road H
    obtain rfl : p = rE d := hp
    refine ⟨A', ?_, hA⟩
    rw [B66_11]
    simp (disch := omega) only [jj_0, rd_1 hr0, obd_some, obd_none, Option.toList_some, Option.toList_none, List.cons_append, List.nil_append, cond_true, cond_false, nJ_add, nI_mul, nJ_lt, nJ_le, nI_inj, nI_lt0, nI_eq0, nI_gt0, toNat_nI, Nat.lt_irrefl, if_false, B66_53]
  | succ m ih =>
    intro p o2 A' hpm hA
    have hr0 : RoadAt (jJ h j r A') r d := je_road H
    have hp : p < rE d := by omega
    rw [B66_11]
    simp (disch := omega) only [jj_0, rd_1 hr0, obd_some, obd_none, Option.toList_some, Option.toList_none, List.cons_append, List.nil_append, cond_true, cond_false, nJ_add, nI_mul, nJ_lt, nJ_le, nI_inj, nI_lt0, nI_eq0, nI_gt0, toNat_nI, hp, if_true, show p < 4 by omega, show ¬ 6 < g by omega, if_false, jj_1, jw_1, B66_47]
    refine ih (p + 1) none _ (by omega) fun i t => ?_
    unfold uA
    rw [hA i t]
    by_cases e : i = 1 ∧ t = g * 4 + p
    · rw [if_pos e, if_pos (by omega)]
    · rw [if_neg e]
      by_cases e2 : i = 1 ∧ g * 4 ≤ t ∧ t < g * 4 + p
      · rw [if_pos e2, if_pos (by omega)]
      · rw [if_neg e2, if_neg (by omega)]
theorem c_meetAt (H : jEnv h j r d ca C) {g mn : Nat} {f : Nat → Nat} (hg : g ≤ rP d) (hf : ∀ p, f p ≤ 20000) (hA : ∀ p, p < rE d → A 1 (g * 4 + p) = nI (f p)) :
    ∃ A2, mc 66 [.ref j, .int (nI g), .int (nI mn)] (jJ h j r A) = some (none, jJ h j r A2) ∧ ∀ i t, A2 i t = if i = 1 ∧ g * 4 ≤ t ∧ t < g * 4 + rE d then nI (maxB (fun _ => true) f 0 (rE d) + mn) else A i t := by
  obtain ⟨A2, e1, e2⟩ := l_meet (A := A) H (v := maxB (fun _ => true) f 0 (rE d) + mn) hg (rE d) 0 (some (.int (nI mn))) A (Nat.zero_add _) (fun i t => by rw [if_neg (by omega)])
  refine ⟨A2, ?_, e2⟩
  rw [M66, jj_o, obd_some, c_latestAt H hg hf hA]
  simp only [obd_some, obd_none, Option.toList_some, Option.toList_none, List.cons_append, List.nil_append, cond_true, cond_false, B66_5, nJ_add]
  exact e1
/-- what a whole journey has told up to gate n -/
def Trip (d : jRD) (c : Nat → Nat) (g mn : Nat) (A : Nat → Nat → Int32) (n : Nat) : Prop :=
  (∀ k, k ≤ n → GateIs d A k (sq d c g mn k)) ∧ ∀ k, k < n → ∀ p, p < rE d → A 2 (k * 4 + p) = nI (wnt d (rowC d c k) k (sq d c g mn k) p)
theorem Trip_Fr {c : Nat → Nat} {g mn n k : Nat} {A A' : Nat → Nat → Int32} (hd : rdOk d) (hT : Trip d c g mn A n) (hk : n ≤ k) (hF : Fr k A A') : Trip d c g mn A' n := by
  have h4 := hd.2.1
  refine ⟨fun k' hk' => GateIs_Fr hd (hT.1 k' hk') (by omega) hF, fun k' hk' p hp => ?_⟩
  rw [hF 2 _ (by unfold inRow; omega)]
  exact hT.2 k' hk' p hp
theorem l_travel (H : jEnv h j r d ca C) {c : Nat → Nat} {g mn : Nat} (hg : g ≤ rP d) (hmn : mn ≤ 60) (hc : ∀ i, c i ≤ rB d) (hC : ∀ i, i < rP d * rE d → C i = nI (c i)) :
    ∀ (m k : Nat) (A : Nat → Nat → Int32) (o5 : Option Value), k + m = rP d → Z0 A → Trip d c g mn A k →
    ∃ A2, R 6 57 3 [some (.ref j), some (.ref ca), some (.int (nI g)), some (.int (nI mn)), some (.int (nI k)), o5] [] (jJ h j r A) = some (some (.int (cmI (wrOn d c g mn m k))), jJ h j r A2) ∧ Z0 A2 ∧ (wrOn d c g mn m k = none → Trip d c g mn A2 (rP d)) := by
  have hd := H.2.1
  have h6 := hd.1
  have h4 := hd.2.1
  intro m
  induction m with
  | zero =>
    intro k A o5 hk hZ hT
    obtain rfl : k = rP d := hk
    have hr0 : RoadAt (jJ h j r A) r d := je_road H
    refine ⟨A, ?_, hZ, fun _ => hT⟩
    rw [B57_3]
    simp (disch := omega) only [jj_0, rd_0 hr0, obd_some, obd_none, Option.toList_some, Option.toList_none, List.cons_append, List.nil_append, cond_true, cond_false, nJ_add, nI_mul, nJ_lt, nJ_le, nI_inj, nI_lt0, nI_eq0, nI_gt0, toNat_nI, Nat.lt_irrefl, if_false]
    rfl
  | succ m ih =>
    intro k A o5 hkm hZ hT
    have hk : k < rP d := by omega
    have hr0 : RoadAt (jJ h j r A) r d := je_road H
    have hs := sq_ok hd c g hmn k
    have hkE : k * rE d + rE d ≤ rP d * rE d := by rw [← Nat.succ_mul]; exact Nat.mul_le_mul hk (Nat.le_refl _)
    obtain ⟨A1, e1, f1, g1⟩ := c_goOn (A := A) (s := sq d c g mn k) (a := rowC d c k) H hk hs (hT.1 k (Nat.le_refl k)) (fun p => by unfold rowC; split; exact hc _; exact Nat.zero_le _) (fun p hp => by unfold rowC; rw [if_pos hp]; exact hC _ (by omega))
    rw [B57_3]
    simp (disch := omega) only [jj_0, rd_0 hr0, obd_some, obd_none, Option.toList_some, Option.toList_none, List.cons_append, List.nil_append, cond_true, cond_false, nJ_add, nI_mul, nJ_lt, nJ_le, nI_inj, nI_lt0, nI_eq0, nI_gt0, toNat_nI, hk, if_true, jj_o, e1, B57_22]
    have hZ1 := Z0_Fr hZ f1
    have hT1 := Trip_Fr hd hT (Nat.le_refl k) f1
    unfold wrOn
    cases hw : fstW (whyN d (rowC d c k) k (sq d c g mn k)) (rE d) 0 with
    | some w =>
      have hw2 := fstW_le (whyN_le d (rowC d c k) k (sq d c g mn k)) _ _ w hw
      rw [if_neg (show ¬ cmI (some w) = -nI 9 by rw [show cmI (some w) = nI w from rfl, neg9_ne (by omega)]; exact id)]
      refine ⟨A1, ?_, hZ1, fun q => by cases q⟩
      rw [show cmI (some w) = nI w from rfl, nJ_add]
      rfl
    | none =>
      rw [if_pos (show cmI none = -nI 9 from rfl)]
      obtain ⟨g2, g3⟩ := g1 hw
      have e57 : ∀ (A3 : Nat → Nat → Int32) (o : Option Value), R 6 57 57 [some (.ref j), some (.ref ca), some (.int (nI g)), some (.int (nI mn)), some (.int (nI k)), o] [] (jJ h j r A3) = R 6 57 3 [some (.ref j), some (.ref ca), some (.int (nI g)), some (.int (nI mn)), some (.int (nI (k + 1))), none] [] (jJ h j r A3) := by
        intro A3 o
        rw [B57_57, nJ_add]
      by_cases ek : k + 1 = g
      · obtain ⟨A3, e3, f3⟩ := c_meetAt (A := A1) (g := k + 1) (mn := mn) (f := ga (nxt d (rowC d c k) k (sq d c g mn k))) H hk (fun p => by have := (nxt_ok hd hs (rowC d c k)).1 p; omega) (fun p hp => (g2.1 p hp).1)
        rw [if_pos ek, e3]
        simp only [obd_some, obd_none, Option.toList_some, Option.toList_none, List.cons_append, List.nil_append, cond_true, cond_false, e57]
        have f4 : Fr k A1 A3 := by
          intro i t hn
          rw [f3 i t, if_neg (by unfold inRow at hn; omega)]
        refine ih (k + 1) A3 none (by omega) (Z0_Fr hZ1 f4) ⟨fun k' hk' => ?_, fun k' hk' p hp => ?_⟩
        · by_cases e : k' = k + 1
          · subst e
            rw [sq, if_pos ek]
            refine ⟨fun p hp => ⟨?_, ?_⟩, fun b hb => ?_, ?_, ?_⟩
            · rw [f3, if_pos (by omega)]
              show _ = nI (if p < rE d then maxB (fun _ => true) (ga (nxt d (rowC d c k) k (sq d c g mn k))) 0 (rE d) + mn else ga (nxt d (rowC d c k) k (sq d c g mn k)) p)
              rw [if_pos hp]
            · rw [f3, if_neg (by omega)]; exact (g2.1 p hp).2
            · rw [f3, f3, f3, if_neg (by omega), if_neg (by omega), if_neg (by omega)]; exact g2.2.1 b hb
            · rw [f3, if_neg (by omega)]; exact g2.2.2.1
            · rw [f3, if_neg (by omega)]; exact g2.2.2.2
          · exact GateIs_Fr hd (hT1.1 k' (by omega)) (by omega) f4
        · rw [f3, if_neg (by omega)]
          by_cases e : k' = k
          · subst e; exact g3 p hp
          · exact hT1.2 k' (by omega) p hp
      · rw [if_neg ek, e57]
        refine ih (k + 1) A1 none (by omega) hZ1 ⟨fun k' hk' => ?_, fun k' hk' p hp => ?_⟩
        · by_cases e : k' = k + 1
          · subst e
            rw [sq, if_neg ek]
            exact g2
          · exact hT1.1 k' (by omega)
        · by_cases e : k' = k
          · subst e; exact g3 p hp
          · exact hT1.2 k' (by omega) p hp
theorem c_travel (H : jEnv h j r d ca C) {c : Nat → Nat} {g mn : Nat} (hg : g ≤ rP d) (hmn : mn ≤ 60) (hc : ∀ i, c i ≤ rB d) (hC : ∀ i, i < rP d * rE d → C i = nI (c i)) (hZ : Z0 A) :
    ∃ A2, mc 57 [.ref j, .ref ca, .int (nI g), .int (nI mn)] (jJ h j r A) = some (some (.int (cmI (wrOn d c g mn (rP d) 0))), jJ h j r A2) ∧ Z0 A2 ∧ (wrOn d c g mn (rP d) 0 = none → Trip d c g mn A2 (rP d)) := by
  rw [M57]
  refine l_travel H hg hmn hc hC (rP d) 0 A none (Nat.zero_add _) hZ ⟨fun k hk => ?_, fun k hk => absurd hk (Nat.not_lt_zero k)⟩
  obtain rfl : k = 0 := by omega
  exact Z0_gate H.2.1 hZ
end JRows6
