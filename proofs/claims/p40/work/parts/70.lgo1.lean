/-! The law goes through a row, first: what is wrong in it. -/
def wkd (d : jRD) (c : Nat → Nat) (p : Nat) : Nat → Nat
  | 0 => 0
  | n + 1 => wkd d c p n + (if c (rE d * n + p) = 0 then rM d n else 0)
def led (d : jRD) (c : Nat → Nat) (b : Nat) : Nat → Bool
  | 0 => true
  | n + 1 => led d c b n && decide (¬ rdrs d (rowC d c n) b = 0)
def whyL (d : jRD) (c : Nat → Nat) (k p : Nat) : Nat :=
  if c (rE d * k + p) = 0 then (if sP d p 3 < wkd d c p (k + 1) then 3 else 0)
  else if led d c (c (rE d * k + p) - 1) k = false then 1
  else if cntB (rdb (rowC d c k) (c (rE d * k + p) - 1)) p < sB d (c (rE d * k + p) - 1) 3 then 0 else 2
theorem sq_s (d : jRD) (c : Nat → Nat) (k : Nat) : sq d c 0 0 (k + 1) = nxt d (rowC d c k) k (sq d c 0 0 k) := by
  rw [sq, if_neg (by omega)]
theorem gf_wkd (d : jRD) (c : Nat → Nat) {p : Nat} (hp : p < rE d) : ∀ k, gf (sq d c 0 0 k) p = wkd d c p k
  | 0 => rfl
  | k + 1 => by
    rw [sq_s, wkd, ← gf_wkd d c hp k]
    show (if rowC d c k p = 0 then gf (sq d c 0 0 k) p + rM d k else gf (sq d c 0 0 k) p) = _
    rw [row_at c hp]
    split <;> omega
theorem wkd_le {d : jRD} (hd : rdOk d) (c : Nat → Nat) (p : Nat) : ∀ n, wkd d c p n ≤ 9 * n
  | 0 => Nat.le_refl _
  | n + 1 => by
    have := wkd_le hd c p n
    have := hd.2.2.2.1 n
    rw [wkd]; split <;> omega
theorem fstW_no {f : Nat → Nat} : ∀ m i, fstW f m i = none → ∀ p, i ≤ p → p < i + m → f p = 0
  | 0, i, _, p, h1, h2 => by omega
  | m + 1, i, h, p, h1, h2 => by
    rw [fstW] at h
    by_cases e : f i = 0
    · rw [if_pos e] at h
      by_cases q : p = i
      · rw [q]; exact e
      · exact fstW_no m (i + 1) h p (by omega) (by omega)
    · rw [if_neg e] at h; cases h
theorem fstW_ext {f g : Nat → Nat} : ∀ m i, (∀ p, i ≤ p → p < i + m → f p = g p) → fstW f m i = fstW g m i
  | 0, _, _ => rfl
  | m + 1, i, h => by
    rw [fstW, fstW, h i (Nat.le_refl _) (by omega), fstW_ext m (i + 1) (fun p h1 h2 => h p (by omega) (by omega))]
theorem msk_nil {f : Nat → Bool} : ∀ n, (∀ p, p < n → f p = false) → msk f n = 0
  | 0, _ => rfl
  | n + 1, h => by
    rw [msk, msk_nil n (fun p hp => h p (by omega)), h n (by omega), if_neg Bool.false_ne_true]
theorem rdrs_some {d : jRD} {a : Nat → Nat} {b : Nat} (h : ¬ rdrs d a b = 0) : ∃ p, p < rE d ∧ a p = b + 1 := by
  refine Classical.byContradiction fun z => h ?_
  refine msk_nil _ (fun p hp => ?_)
  refine Bool.eq_false_iff.mpr (fun e => z ⟨p, hp, eq_of_beq e⟩)
/-- all ahead of piece k is right -/
def pre (d : jRD) (c : Nat → Nat) (k : Nat) : Prop := ∀ i, i < k → wrK d c i = none
theorem gc_led {d : jRD} {c : Nat → Nat} (b : Nat) : ∀ k, pre d c k → (gc (sq d c 0 0 k) b = none) = (led d c b k = false)
  | 0, _ => by
    refine propext ⟨fun h => ?_, fun h => ?_⟩
    · have h : some 0 = none := h
      cases h
    · cases h
  | k + 1, h => by
    have ih := gc_led b k (fun i hi => h i (by omega))
    rw [sq_s, led]
    show ((if rdrs d (rowC d c k) b = 0 then none else some (strt d (rowC d c k) k (sq d c 0 0 k) b + rid d b k)) = none) = _
    by_cases e : rdrs d (rowC d c k) b = 0
    · rw [if_pos e, decide_eq_false (not_not_intro e), Bool.and_false]
      exact propext ⟨fun _ => rfl, fun _ => rfl⟩
    · rw [if_neg e, decide_eq_true e, Bool.and_true]
      obtain ⟨p, hp, hb⟩ := rdrs_some e
      have h0 := fstW_no _ _ (h k (by omega)) p (Nat.zero_le _) (by omega)
      unfold whyN at h0
      rw [hb, if_neg (by omega), Nat.add_sub_cancel] at h0
      have hn : ¬ gc (sq d c 0 0 k) b = none := by
        intro z
        rw [if_pos z] at h0
        omega
      rw [ih] at hn
      exact propext ⟨fun z => (by cases z), fun z => absurd z hn⟩
theorem why_L {d : jRD} {c : Nat → Nat} {k p : Nat} (h : pre d c k) (hp : p < rE d) : whyL d c k p = whyN d (rowC d c k) k (sq d c 0 0 k) p := by
  unfold whyL whyN
  rw [row_at c hp, wkd, gf_wkd d c hp]
  by_cases e : c (rE d * k + p) = 0
  · rw [if_pos e, if_pos e, if_pos e]
  · rw [if_neg e, if_neg e]
    by_cases q : led d c (c (rE d * k + p) - 1) k = false
    · rw [if_pos q, if_pos ((gc_led _ k h).mpr q)]
    · rw [if_neg q, if_neg (fun z => q ((gc_led _ k h).mp z))]
      split <;> split <;> omega
def cmW (k : Nat) (o : Option Nat) : Int32 := match o with | none => -nI 9 | some w => nI (100 * k + w)
def pvI (j : Nat) : Int32 := match j with | 0 => -nI 1 | j + 1 => nI j
theorem pvI_s (j : Nat) : nI j + -nI 1 = pvI j := by
  cases j with
  | zero => decide
  | succ j => rw [← Int32.sub_eq_add_neg, nI_sub (by omega)]; rfl
theorem pvI_e {j : Nat} (h : 0 < j) : nI j - nI 1 = pvI j := by
  cases j with
  | zero => omega
  | succ j => rw [nI_sub (by omega)]; rfl
theorem b2j_f (x : Bool) : (b2j x = 0) = (x = false) := by
  cases x with
  | true => exact propext ⟨fun h => absurd h (by decide), fun h => by cases h⟩
  | false => exact propext ⟨fun _ => rfl, fun _ => rfl⟩
section LGo1
variable {h : jHp} {d : jRD} {c : Nat → Nat} {r a o : Nat} {fr fa : Nat → Int32} {k p : Nat}
theorem l_wkd (Hr : La h r 48 fr) (hr : RdA d fr) (Ha : La h a 24 fa) (hf : CtA d c fa) (hd : rdOk d) (hc : ∀ i, c i ≤ 2) (hk : k < rP d) (hp : p < rE d) (l2 l3 : Int32) (w : Nat) :
    ∀ m i, i + m = k + 1 → R 2 96 68 [some (.ref r), some (.ref a), some (.int l2), some (.int l3), some (.ref o), some (.int (nI (rE d))), some (.int (nI k)), some (.int (nI p)), some (.int (nI w)), some (.int (nI (wkd d c p i))), some (.int (nI i)), none, none, none, none, none, none, none] [.int (nI i)] h =
      R 2 96 114 [some (.ref r), some (.ref a), some (.int l2), some (.int l3), some (.ref o), some (.int (nI (rE d))), some (.int (nI k)), some (.int (nI p)), some (.int (nI w)), some (.int (nI (wkd d c p (k + 1)))), some (.int (nI 1)), some (.int (nI 0)), none, none, none, none, none, none] [] h
  | 0, i, hi => by
    have h6 := hd.1
    obtain rfl : i = k + 1 := hi
    rw [B96_68, if_pos (show nI k < nI (k + 1) by rw [nJ_lt (by omega) (by omega)]; omega)]
  | m + 1, i, hi => by
    have h6 := hd.1
    obtain ⟨g1, g2, g3⟩ := cell_lt hd (show i < rP d by omega) hp
    have hci := hc (rE d * i + p)
    have ih := l_wkd Hr hr Ha hf hd hc hk hp l2 l3 w m (i + 1) (by omega)
    rw [wkd] at ih
    rw [B96_68, if_neg (show ¬ nI k < nI i by rw [nJ_lt (by omega) (by omega)]; omega), B96_84, nI_mul, nJ_add, la_r Ha g2 (by omega), obd_some, hf _ g1]
    by_cases e : c (rE d * i + p) = 0
    · rw [if_pos e] at ih
      rw [if_pos (show nI (c (rE d * i + p)) = 0 by rw [e]; rfl), nJ_add, la_r Hr (by omega) (by omega), obd_some, (hr.2.2.2.2.2.1 i (by omega)).1, B96_99, B96_100, B96_66, nJ_add, nJ_add]
      exact ih
    · rw [if_neg e] at ih
      rw [if_neg (show ¬ nI (c (rE d * i + p)) = 0 by rw [nI_eq0 (by omega)]; exact e), B96_99, B96_100, B96_66, nJ_add, nJ_add]
      exact ih
theorem l_led (Ha : La h a 24 fa) (hf : CtA d c fa) (hd : rdOk d) (hc : ∀ i, c i ≤ 2) (hk : k < rP d) (hp : p < rE d) (l2 l3 l9 : Int32) {w : Nat} (hw0 : 0 < w) (hw : w ≤ 2) :
    ∀ m i, i + m = k → R 2 96 124 [some (.ref r), some (.ref a), some (.int l2), some (.int l3), some (.ref o), some (.int (nI (rE d))), some (.int (nI k)), some (.int (nI p)), some (.int (nI w)), some (.int l9), some (.int (b2j (led d c (w - 1) i))), some (.int (nI 0)), some (.int (nI i)), none, none, none, none, none] [.int (nI i)] h =
      R 2 96 167 [some (.ref r), some (.ref a), some (.int l2), some (.int l3), some (.ref o), some (.int (nI (rE d))), some (.int (nI k)), some (.int (nI p)), some (.int (nI w)), some (.int l9), some (.int (b2j (led d c (w - 1) k))), some (.int (nI 0)), some (.int (nI 0)), none, none, none, none, none] [.int (nI 0)] h
  | 0, i, hi => by
    have h6 := hd.1
    obtain rfl : i = k := hi
    rw [B96_124, if_neg (show ¬ nI i < nI i by rw [nJ_lt (by omega) (by omega)]; omega), B96_165]
  | m + 1, i, hi => by
    have h6 := hd.1
    have ih := l_led Ha hf hd hc hk hp l2 l3 l9 hw0 hw m (i + 1) (by omega)
    rw [led] at ih
    rw [B96_124, if_pos (show nI i < nI k by rw [nJ_lt (by omega) (by omega)]; omega)]
    by_cases e : led d c (w - 1) i = false
    · rw [e, Bool.false_and] at ih
      rw [if_pos ((b2j_f _).mpr e), B96_153, B96_154, B96_156, B96_122, nJ_add]
      exact ih
    · have e1 : led d c (w - 1) i = true := by
        cases q : led d c (w - 1) i with
        | true => rfl
        | false => exact absurd q e
      rw [e1, Bool.true_and] at ih
      rw [if_neg (fun z => e ((b2j_f _).mp z)), B96_142, nI_sub (by omega), m_by Ha hf hd hc (show i < rP d by omega) (by omega)]
      simp only [obd_some, obd_none, Option.toList_some, Option.toList_none, List.cons_append, List.nil_append, cond_true, cond_false]
      have h16 : rdrs d (rowC d c i) (w - 1) < 16 := msk_16 _ hd.2.1
      rw [B96_146]
      by_cases z : rdrs d (rowC d c i) (w - 1) = 0
      · rw [decide_eq_false (not_not_intro z)] at ih
        rw [if_pos (show nI (rdrs d (rowC d c i) (w - 1)) = 0 by rw [z]; rfl), B96_153, B96_154, B96_156, B96_122, nJ_add]
        exact ih
      · rw [decide_eq_true z] at ih
        rw [if_neg (show ¬ nI (rdrs d (rowC d c i) (w - 1)) = 0 by rw [nI_eq0 (by omega)]; exact z), B96_154, B96_156, B96_122, nJ_add]
        exact ih
theorem l_ahd (Ha : La h a 24 fa) (hf : CtA d c fa) (hd : rdOk d) (hc : ∀ i, c i ≤ 2) (hk : k < rP d) (hp : p < rE d) (l2 l3 l9 l10 : Int32) {w : Nat} (hw0 : 0 < w) (hw : w ≤ 2) :
    ∀ m i, i + m = p → R 2 96 167 [some (.ref r), some (.ref a), some (.int l2), some (.int l3), some (.ref o), some (.int (nI (rE d))), some (.int (nI k)), some (.int (nI p)), some (.int (nI w)), some (.int l9), some (.int l10), some (.int (nI (cntB (rdb (rowC d c k) (w - 1)) i))), some (.int (nI i)), none, none, none, none, none] [.int (nI i)] h =
      R 2 96 205 [some (.ref r), some (.ref a), some (.int l2), some (.int l3), some (.ref o), some (.int (nI (rE d))), some (.int (nI k)), some (.int (nI p)), some (.int (nI w)), some (.int l9), some (.int l10), some (.int (nI (cntB (rdb (rowC d c k) (w - 1)) p))), none, none, none, none, none, none] [.int (nI w)] h
  | 0, i, hi => by
    have h4 := hd.2.1
    obtain rfl : i = p := hi
    rw [B96_167, if_neg (show ¬ nI i < nI i by rw [nJ_lt (by omega) (by omega)]; omega), B96_203]
  | m + 1, i, hi => by
    have h4 := hd.2.1
    obtain ⟨g1, g2, g3⟩ := cell_lt hd hk (show i < rE d by omega)
    have hci := hc (rE d * k + i)
    have ih := l_ahd Ha hf hd hc hk hp l2 l3 l9 l10 hw0 hw m (i + 1) (by omega)
    rw [cntB] at ih
    have e0 : (rdb (rowC d c k) (w - 1) i = true) = (c (rE d * k + i) = w) := by
      show ((rowC d c k i == w - 1 + 1) = true) = _
      rw [row_at c (by omega), beq_iff_eq, show w - 1 + 1 = w by omega]
    rw [B96_167, if_pos (show nI i < nI p by rw [nJ_lt (by omega) (by omega)]; omega), B96_183, nI_mul, nJ_add, la_r Ha g2 (by omega), obd_some, hf _ g1]
    by_cases e : c (rE d * k + i) = w
    · rw [if_pos (e0.mpr e)] at ih
      rw [if_pos (show nI (c (rE d * k + i)) = nI w by rw [e]), B96_194, B96_195, B96_165, nJ_add, nJ_add]
      exact ih
    · rw [if_neg (fun z => e (e0.mp z))] at ih
      rw [if_neg (show ¬ nI (c (rE d * k + i)) = nI w by rw [nI_inj (by omega) (by omega)]; exact e), B96_194, B96_195, B96_165, nJ_add, nJ_add]
      exact ih
/-- why a person cannot -/
theorem l_why (Hr : La h r 48 fr) (hr : RdA d fr) (Ha : La h a 24 fa) (hf : CtA d c fa) (hd : rdOk d) (hc : ∀ i, c i ≤ rB d) (hk : k < rP d) (hp : p < rE d) (l2 l3 : Int32) :
    R 2 96 45 [some (.ref r), some (.ref a), some (.int l2), some (.int l3), some (.ref o), some (.int (nI (rE d))), some (.int (nI k)), some (.int (nI p)), none, none, none, none, none, none, none, none, none, none] [.int (nI p)] h =
      R 2 96 265 [some (.ref r), some (.ref a), some (.int l2), some (.int l3), some (.ref o), some (.int (nI (rE d))), some (.int (nI k)), some (.int (nI p)), none, none, none, none, some (.int (nI (whyL d c k p))), none, none, none, none, none] [] h := by
  have h6 := hd.1
  have h4 := hd.2.1
  have h2 := hd.2.2.1
  have hc2 : ∀ i, c i ≤ 2 := fun i => by have := hc i; omega
  obtain ⟨g1, g2, g3⟩ := cell_lt hd hk hp
  have hci := hc (rE d * k + p)
  have hwk := wkd_le hd c p (k + 1)
  rw [B96_45, if_neg (nI_nneg (by omega)), nI_mul, nJ_add, la_r Ha g2 (by omega), obd_some, hf _ g1, B96_60, B96_66]
  have e1 := l_wkd (o := o) Hr hr Ha hf hd hc2 hk hp l2 l3 (c (rE d * k + p)) (k + 1) 0 (by omega)
  rw [show wkd d c p 0 = 0 from rfl] at e1
  rw [e1, B96_114]
  unfold whyL
  by_cases e : c (rE d * k + p) = 0
  · have hs := sP_le hd p 3
    rw [if_pos e, e, if_neg (show ¬ 0 < nI 0 by decide), B96_203, B96_205, if_pos (show nI 0 = 0 from rfl), nI_mul, nJ_add, la_r Hr (by omega) (by omega), obd_some, show 23 + 4 * p = 20 + 4 * p + 3 by omega, hr.2.2.2.2.2.2.1 p 3 hp (by omega), B96_219]
    by_cases q : sP d p 3 < wkd d c p (k + 1)
    · rw [if_pos (show nI (sP d p 3) < nI (wkd d c p (k + 1)) by rw [nJ_lt (by omega) (by omega)]; exact q), if_pos q, B96_263]
    · rw [if_neg (show ¬ nI (sP d p 3) < nI (wkd d c p (k + 1)) by rw [nJ_lt (by omega) (by omega)]; exact q), if_neg q, B96_263]
  · rw [if_neg e, if_pos (show 0 < nI (c (rE d * k + p)) by rw [nI_gt0 (by omega)]; omega), B96_122]
    have e2 := l_led (r := r) (o := o) Ha hf hd hc2 hk hp l2 l3 (nI (wkd d c p (k + 1))) (w := c (rE d * k + p)) (by omega) (by omega) k 0 (by omega)
    rw [show b2j (led d c (c (rE d * k + p) - 1) 0) = nI 1 from rfl] at e2
    rw [e2]
    have e3 := l_ahd (r := r) (o := o) Ha hf hd hc2 hk hp l2 l3 (nI (wkd d c p (k + 1))) (b2j (led d c (c (rE d * k + p) - 1) k)) (w := c (rE d * k + p)) (by omega) (by omega) p 0 (by omega)
    rw [show cntB (rdb (rowC d c k) (c (rE d * k + p) - 1)) 0 = 0 from rfl] at e3
    rw [e3, B96_205, if_neg (show ¬ nI (c (rE d * k + p)) = 0 by rw [nI_eq0 (by omega)]; exact e)]
    by_cases q : led d c (c (rE d * k + p) - 1) k = false
    · rw [if_pos ((b2j_f _).mpr q), if_pos q, B96_263]
    · have hcn := cntB_le (rdb (rowC d c k) (c (rE d * k + p) - 1)) p
      have hsb := sB_le hd (c (rE d * k + p) - 1) 3
      rw [if_neg (fun z => q ((b2j_f _).mp z)), if_neg q, B96_249, nI_sub (by omega), nI_mul, nJ_add, nJ_add, la_r Hr (by omega) (by omega), obd_some, hr.2.2.2.2.2.2.2 (c (rE d * k + p) - 1) 3 (by omega) (by omega)]
      by_cases u : cntB (rdb (rowC d c k) (c (rE d * k + p) - 1)) p < sB d (c (rE d * k + p) - 1) 3
      · rw [if_pos (show nI (cntB (rdb (rowC d c k) (c (rE d * k + p) - 1)) p) < nI (sB d (c (rE d * k + p) - 1) 3) by rw [nJ_lt (by omega) (by omega)]; exact u), if_pos u, B96_263]
      · rw [if_neg (show ¬ nI (cntB (rdb (rowC d c k) (c (rE d * k + p) - 1)) p) < nI (sB d (c (rE d * k + p) - 1) 3) by rw [nJ_lt (by omega) (by omega)]; exact u), if_neg u, B96_263]
end LGo1
theorem whyL_le (d : jRD) (c : Nat → Nat) (k p : Nat) : whyL d c k p ≤ 3 := by
  unfold whyL
  split
  · split <;> omega
  · split
    · omega
    · split <;> omega
section LGo2
variable {h0 : jHp} {d : jRD} {c : Nat → Nat} {r a o : Nat} {fr fa : Nat → Int32} {k : Nat}
/-- the arrays that go reads and its own -/
def GoE (h : jHp) (d : jRD) (c : Nat → Nat) (r a o : Nat) (fr fa : Nat → Int32) : Prop := (La h r 48 fr ∧ r ≠ o) ∧ (La h a 24 fa ∧ a ≠ o) ∧ (∃ g0, La h o 60 g0) ∧ RdA d fr ∧ CtA d c fa
theorem GoE.xr (G : GoE h0 d c r a o fr fa) (g : Nat → Int32) : La (hL h0 o 60 g) r 48 fr := G.1.1.mvL G.1.2 g
theorem GoE.xa (G : GoE h0 d c r a o fr fa) (g : Nat → Int32) : La (hL h0 o 60 g) a 24 fa := G.2.1.1.mvL G.2.1.2 g
theorem GoE.xo (G : GoE h0 d c r a o fr fa) (g : Nat → Int32) : La (hL h0 o 60 g) o 60 g := by
  obtain ⟨g0, K⟩ := G.2.2.1
  exact K.own g
theorem GoE.xw (G : GoE h0 d c r a o fr fa) (g : Nat → Int32) {t : Nat} (v : Int32) (ht : t < 60) : asI (hL h0 o 60 g) o (nI t) v = some (hL h0 o 60 (upd g t v)) := by
  rw [la_w v (G.xo g) ht (by omega), hL_hL]
theorem fstW_lt {f : Nat → Nat} (hf : ∀ p, f p ≤ 3) : ∀ m i w, fstW f m i = some w → w ≤ 10 * (i + m) + 3
  | 0, _, _, h => by cases h
  | m + 1, i, w, h => by
    rw [fstW] at h
    by_cases e : f i = 0
    · rw [if_pos e] at h
      have := fstW_lt hf m (i + 1) w h
      omega
    · rw [if_neg e] at h
      cases h
      have := hf i
      omega
/-- all people at a piece, from the last to the first -/
theorem l_gp (G : GoE h0 d c r a o fr fa) (hd : rdOk d) (hc : ∀ i, c i ≤ rB d) (hk : k < rP d) (l2 l3 : Int32) : ∀ j g, j ≤ rE d → g 56 = cmW k (fstW (whyL d c k) (rE d - j) j) →
    ∃ g', R 2 96 45 [some (.ref r), some (.ref a), some (.int l2), some (.int l3), some (.ref o), some (.int (nI (rE d))), some (.int (nI k)), some (.int (pvI j)), none, none, none, none, none, none, none, none, none, none] [.int (pvI j)] (hL h0 o 60 g) =
      R 2 96 23 [some (.ref r), some (.ref a), some (.int l2), some (.int l3), some (.ref o), some (.int (nI (rE d))), some (.int (nI (k + 1))), none, none, none, none, none, none, none, none, none, none, none] [.int (nI (k + 1))] (hL h0 o 60 g') ∧ g' 56 = cmW k (fstW (whyL d c k) (rE d) 0) ∧ ∀ t, t ≠ 56 → g' t = g t
  | 0, g, _, hg => by
    refine ⟨g, ?_, hg, fun t _ => rfl⟩
    rw [B96_45, if_pos (show pvI 0 < 0 by decide), B96_21, nJ_add]
  | j + 1, g, hj, hg => by
    have h6 := hd.1
    have h4 := hd.2.1
    have hw3 := whyL_le d c k j
    have e1 := l_why (o := o) (G.xr g) G.2.2.2.1 (G.xa g) G.2.2.2.2 hd hc hk (show j < rE d by omega) l2 l3
    have ef : fstW (whyL d c k) (rE d - j) j = if whyL d c k j = 0 then fstW (whyL d c k) (rE d - (j + 1)) (j + 1) else some (10 * j + whyL d c k j) := by
      rw [show rE d - j = rE d - (j + 1) + 1 by omega, fstW]
    have step : ∀ v, v = cmW k (fstW (whyL d c k) (rE d - j) j) → ∃ g', R 2 96 296 [some (.ref r), some (.ref a), some (.int l2), some (.int l3), some (.ref o), some (.int (nI (rE d))), some (.int (nI k)), some (.int (nI j)), none, none, none, none, some (.int (nI (whyL d c k j))), none, none, none, none, none] [.int v, .int (nI 56), .ref o] (hL h0 o 60 g) =
        R 2 96 23 [some (.ref r), some (.ref a), some (.int l2), some (.int l3), some (.ref o), some (.int (nI (rE d))), some (.int (nI (k + 1))), none, none, none, none, none, none, none, none, none, none, none] [.int (nI (k + 1))] (hL h0 o 60 g') ∧ g' 56 = cmW k (fstW (whyL d c k) (rE d) 0) ∧ ∀ t, t ≠ 56 → g' t = g t := by
      intro v hv
      obtain ⟨g', q1, q2, q3⟩ := l_gp G hd hc hk l2 l3 j (upd g 56 v) (by omega) (by rw [upd_s]; exact hv)
      refine ⟨g', ?_, q2, fun t ht => (q3 t ht).trans (upd_n ht)⟩
      rw [B96_296, G.xw g _ (by omega), obd_some, B96_297, B96_43, pvI_s]
      exact q1
    have e1' : R 2 96 45 [some (.ref r), some (.ref a), some (.int l2), some (.int l3), some (.ref o), some (.int (nI (rE d))), some (.int (nI k)), some (.int (pvI (j + 1))), none, none, none, none, none, none, none, none, none, none] [.int (pvI (j + 1))] (hL h0 o 60 g) = _ := e1
    rw [e1', B96_265]
    by_cases z : whyL d c k j = 0
    · rw [if_pos z] at ef
      rw [if_neg (show ¬ 0 < nI (whyL d c k j) by rw [nI_gt0 (by omega)]; omega), la_r (G.xo g) (by omega) (by omega), obd_some]
      exact step _ (by rw [hg, ef])
    · rw [if_neg z] at ef
      rw [if_pos (show 0 < nI (whyL d c k j) by rw [nI_gt0 (by omega)]; omega), B96_283, nI_mul, nI_mul, nJ_add, nJ_add]
      exact step _ (by rw [ef]; show _ = nI (100 * k + (10 * j + whyL d c k j)); rw [Nat.add_assoc])
/-- all pieces, up to the first wrong -/
theorem l_gk (G : GoE h0 d c r a o fr fa) (hd : rdOk d) (hE : 0 < rE d) (hc : ∀ i, c i ≤ rB d) (l2 l3 : Int32) : ∀ m k g, k + m = rP d → pre d c k → g 56 = -nI 9 →
    ∃ g', R 2 96 23 [some (.ref r), some (.ref a), some (.int l2), some (.int l3), some (.ref o), some (.int (nI (rE d))), some (.int (nI k)), none, none, none, none, none, none, none, none, none, none, none] [.int (nI k)] (hL h0 o 60 g) =
      R 2 96 311 [some (.ref r), some (.ref a), some (.int l2), some (.int l3), some (.ref o), some (.int (nI (rE d))), none, none, none, none, none, none, none, none, none, none, none, none] [.ref o] (hL h0 o 60 g') ∧ g' 56 = cmW 0 (wrOn d c 0 0 m k) ∧ ∀ t, t ≠ 56 → g' t = g t
  | 0, k, g, hk, hp, hg => by
    have h6 := hd.1
    obtain rfl : k = rP d := hk
    refine ⟨g, ?_, hg, fun t _ => rfl⟩
    rw [B96_23, la_r (G.xr g) (by omega) (by omega), obd_some, G.2.2.2.1.1, if_neg (show ¬ nI (rP d) < nI (rP d) by rw [nJ_lt (by omega) (by omega)]; omega), B96_309]
  | m + 1, k, g, hk, hp, hg => by
    have h6 := hd.1
    have h4 := hd.2.1
    have hkP : k < rP d := by omega
    obtain ⟨g1, q1, q2, q3⟩ := l_gp G hd hc hkP l2 l3 (rE d) g (Nat.le_refl _) (by rw [Nat.sub_self]; exact hg)
    rw [B96_23, la_r (G.xr g) (by omega) (by omega), obd_some, G.2.2.2.1.1, if_pos (show nI k < nI (rP d) by rw [nJ_lt (by omega) (by omega)]; exact hkP), la_r (G.xo g) (by omega) (by omega), obd_some, hg, if_pos (show -nI 9 < 0 by decide), B96_39, pvI_e hE, B96_43, q1]
    have ew : fstW (whyL d c k) (rE d) 0 = wrK d c k := fstW_ext _ _ (fun p _ h2 => why_L hp (by omega))
    rw [ew] at q2
    have hwr : wrOn d c 0 0 (m + 1) k = match wrK d c k with
      | some w => some (100 * k + w)
      | none => wrOn d c 0 0 m (k + 1) := by rw [wrOn]; rfl
    cases e : wrK d c k with
    | none =>
      rw [e] at q2 hwr
      obtain ⟨g2, s1, s2, s3⟩ := l_gk G hd hE hc l2 l3 m (k + 1) g1 (by omega) (fun i hi => by
        by_cases y : i = k
        · rw [y]; exact e
        · exact hp i (by omega)) q2
      exact ⟨g2, s1, by rw [s2, hwr], fun t ht => (s3 t ht).trans (q3 t ht)⟩
    | some w =>
      rw [e] at q2 hwr
      rw [← ew] at e
      have hw := fstW_lt (whyL_le d c k) _ _ _ e
      refine ⟨g1, ?_, ?_, q3⟩
      · rw [B96_23, la_r (G.xr g1) (by omega) (by omega), obd_some, G.2.2.2.1.1]
        by_cases y : k + 1 < rP d
        · rw [if_pos (show nI (k + 1) < nI (rP d) by rw [nJ_lt (by omega) (by omega)]; exact y), la_r (G.xo g1) (by omega) (by omega), obd_some, q2, if_neg (show ¬ cmW k (some w) < 0 from nI_nneg (by omega)), B96_309]
        · rw [if_neg (show ¬ nI (k + 1) < nI (rP d) by rw [nJ_lt (by omega) (by omega)]; exact y), B96_309]
      · rw [q2, hwr]
        show nI (100 * k + w) = nI (100 * 0 + (100 * k + w))
        rw [Nat.mul_zero, Nat.zero_add]
end LGo2
