/-! The law goes through a right row: the beasts. -/
theorem bitR {m p : Nat} (hm : m < 16) (hp : p < 4) : ((nI m >>> (nI p &&& 31)) &&& nI 1 = nI 1) = (m.testBit p = true) := by
  have h : ∀ m : Fin 16, ∀ p : Fin 4, decide ((nI m.1 >>> (nI p.1 &&& 31)) &&& nI 1 = nI 1) = m.1.testBit p.1 := by decide +kernel
  have h1 := h ⟨m, hm⟩ ⟨p, hp⟩
  exact propext ⟨fun e => h1.symm.trans (decide_eq_true e), fun e => of_decide_eq_true (h1.trans e)⟩
theorem rd_bit {d : jRD} (hd : rdOk d) (a : Nat → Nat) (b : Nat) {p : Nat} (hp : p < rE d) : ((nI (rdrs d a b) >>> (nI p &&& 31)) &&& nI 1 = nI 1) = (a p = b + 1) := by
  have h4 := hd.2.1
  unfold rdrs
  rw [bitR (msk_16 _ h4) (by omega), msk_bit, decide_eq_true hp, Bool.true_and]
  show ((a p == b + 1) = true) = _
  rw [beq_iff_eq]
theorem maxB_max (f : Nat → Bool) (g : Nat → Nat) (x : Nat) : ∀ n, maxB f g x n = if maxB f g 0 n < x then x else maxB f g 0 n
  | 0 => by
    rw [maxB, maxB]; split <;> omega
  | n + 1 => by
    rw [maxB, maxB, maxB_max f g x n]
    split
    · (repeat' split) <;> omega
    · rfl
/-- behind the beasts below j -/
def BsI (d : jRD) (c : Nat → Nat) (k : Nat) (s : jGS) (g cm sn : Nat → Int32) (j : Nat) : Prop :=
  (∀ p, p < rE d → g (7 * p + k) = nI (ga s p)) ∧ (∀ p, p < rE d → c (rE d * k + p) ≤ j → g (7 * p + k + 1) = nI (ga (nxt d (rowC d c k) k s) p)) ∧ (∀ p, p < rE d → g (52 + p) = nI (gf (nxt d (rowC d c k) k s) p)) ∧ (g 57 = nI (gt s + cntB (tied d (rowC d c k) k s) j) ∧ g 56 = -nI 9) ∧
  (∀ b, b < rB d → b < j → (∀ m, gc (nxt d (rowC d c k) k s) b = some m → cm b = nI m) ∧ sn b = nI (gs (nxt d (rowC d c k) k s) b)) ∧
  ∀ b, b < rB d → j ≤ b → (∀ m, gc s b = some m → cm b = nI m) ∧ sn b = nI (gs s b)
/-- what is so at gate k ahead of piece k -/
def GtI (d : jRD) (k : Nat) (s : jGS) (g cm sn : Nat → Int32) : Prop :=
  (∀ p, p < rE d → g (7 * p + k) = nI (ga s p)) ∧ (∀ p, p < rE d → g (52 + p) = nI (gf s p)) ∧ (g 57 = nI (gt s) ∧ g 56 = -nI 9) ∧ ∀ b, b < rB d → (∀ m, gc s b = some m → cm b = nI m) ∧ sn b = nI (gs s b)
theorem BsI_0 {d : jRD} {c : Nat → Nat} {k : Nat} {s : jGS} {g cm sn : Nat → Int32} (H : WkI d c k s g (rE d)) (hb : ∀ b, b < rB d → (∀ m, gc s b = some m → cm b = nI m) ∧ sn b = nI (gs s b)) : BsI d c k s g cm sn 0 := by
  obtain ⟨i1, i2, i3, i4⟩ := H
  refine ⟨i1, fun p hp h0 => ?_, fun p hp => ?_, i4, fun b _ h => absurd h (Nat.not_lt_zero b), fun b h1 _ => hb b h1⟩
  · have e : c (rE d * k + p) = 0 := by omega
    rw [i2 p hp e]
    show _ = nI (if rowC d c k p = 0 then ga s p + wlk d p k else strt d (rowC d c k) k s (rowC d c k p - 1) + rid d (rowC d c k p - 1) k)
    rw [row_at c hp, if_pos e]
  · rw [i3 p hp]
    show _ = nI (if rowC d c k p = 0 then gf s p + rM d k else gf s p)
    rw [row_at c hp]
    by_cases e : c (rE d * k + p) = 0
    · rw [if_pos ⟨hp, e⟩, if_pos e]
    · rw [if_neg (fun z => e z.2), if_neg e]
section LGo4
variable {h : jHp} {d : jRD} {c : Nat → Nat} {r a o u v : Nat} {fr fa : Nat → Int32} {k b : Nat} {s : jGS}
/-- whether it was led here, with other riders -/
theorem l_here (G : GoF h d c r a o u v fr fa) (hd : rdOk d) (hc : ∀ i, c i ≤ 2) (hk : k < rP d) (hb : b < rB d) (l2 l3 : Int32) (g cm sn : Nat → Int32) (nw wt : Nat) (hnw : nw < 16) (hwt : wt < 16) : ∀ m i, i + m = k →
    R 2 96 593 [some (.ref r), some (.ref a), some (.int l2), some (.int l3), some (.ref o), some (.int (nI (rE d))), some (.ref u), some (.ref v), some (.int (nI k)), some (.int (nI b)), some (.int (nI nw)), some (.int (nI wt)), some (.int (b2j (led d c b i))), some (.int (nI i)), none, none, none, none] [] (hG h o u v g cm sn) =
      R 2 96 655 [some (.ref r), some (.ref a), some (.int l2), some (.int l3), some (.ref o), some (.int (nI (rE d))), some (.ref u), some (.ref v), some (.int (nI k)), some (.int (nI b)), some (.int (nI nw)), none, none, some (.int (b2j (led d c b k && (decide (0 < k) && decide (¬ nw = wt))))), none, none, none, none] [] (hG h o u v g cm sn)
  | 0, i, hi => by
    have h6 := hd.1
    obtain rfl : i = k := hi
    rw [B96_593, if_neg (show ¬ nI i < nI i by rw [nJ_lt (by omega) (by omega)]; omega)]
    by_cases e : led d c b i = false
    · rw [if_pos ((b2j_f _).mpr e), B96_652, B96_653, e, Bool.false_and]; rfl
    · have e1 : led d c b i = true := by
        cases q : led d c b i with
        | true => rfl
        | false => exact absurd q e
      rw [if_neg (fun z => e ((b2j_f _).mp z)), e1, Bool.true_and]
      by_cases i0 : 0 < i
      · rw [if_pos (show 0 < nI i by rw [nI_gt0 (by omega)]; exact i0), B96_645, decide_eq_true i0, Bool.true_and]
        by_cases q : nw = wt
        · rw [if_pos (show nI nw = nI wt by rw [q]), B96_652, B96_653, decide_eq_false (not_not_intro q)]; rfl
        · rw [if_neg (show ¬ nI nw = nI wt by rw [nI_inj (by omega) (by omega)]; exact q), B96_653, decide_eq_true q]; rfl
      · rw [if_neg (show ¬ 0 < nI i by rw [nI_gt0 (by omega)]; exact i0), B96_652, B96_653, decide_eq_false i0, Bool.false_and]; rfl
  | m + 1, i, hi => by
    have h6 := hd.1
    have h2 := hd.2.2.1
    have ih := l_here G hd hc hk hb l2 l3 g cm sn nw wt hnw hwt m (i + 1) (by omega)
    rw [led] at ih
    rw [B96_593, if_pos (show nI i < nI k by rw [nJ_lt (by omega) (by omega)]; omega)]
    by_cases e : led d c b i = false
    · rw [e, Bool.false_and] at ih
      rw [if_pos ((b2j_f _).mpr e), B96_622, B96_623, B96_625, nJ_add]
      exact ih
    · have e1 : led d c b i = true := by
        cases q : led d c b i with
        | true => rfl
        | false => exact absurd q e
      rw [e1, Bool.true_and] at ih
      rw [if_neg (fun z => e ((b2j_f _).mp z)), B96_612, m_by (G.xa g cm sn) G.2.2.2.2.2.2.2 hd hc (show i < rP d by omega) (by omega)]
      simp only [obd_some, obd_none, Option.toList_some, Option.toList_none, List.cons_append, List.nil_append, cond_true, cond_false]
      have h16 : rdrs d (rowC d c i) b < 16 := msk_16 _ hd.2.1
      rw [B96_615]
      by_cases z : rdrs d (rowC d c i) b = 0
      · rw [decide_eq_false (not_not_intro z)] at ih
        rw [if_pos (show nI (rdrs d (rowC d c i) b) = 0 by rw [z]; rfl), B96_622, B96_623, B96_625, nJ_add]
        exact ih
      · rw [decide_eq_true z] at ih
        rw [if_neg (show ¬ nI (rdrs d (rowC d c i) b) = 0 by rw [nI_eq0 (by omega)]; exact z), B96_623, B96_625, nJ_add]
        exact ih
/-- when the last of its riders is there; whether it stands first -/
theorem l_strt (G : GoF h d c r a o u v fr fa) (hd : rdOk d) (hk : k < rP d) (hb : b < rB d) (hs : gOk k s) (l2 l3 : Int32) (g cm sn : Nat → Int32) (td : Bool) (hg : ∀ p, p < rE d → g (7 * p + k) = nI (ga s p)) (hsn : sn b = nI (gs s b)) : ∀ m j, j + m = rE d →
    R 2 96 684 [some (.ref r), some (.ref a), some (.int l2), some (.int l3), some (.ref o), some (.int (nI (rE d))), some (.ref u), some (.ref v), some (.int (nI k)), some (.int (nI b)), some (.int (nI (rdrs d (rowC d c k) b))), none, none, some (.int (b2j td)), some (.int (nI (maxB (rdb (rowC d c k) b) (ga s) 0 j))), some (.int (nI j)), none, none] [] (hG h o u v g cm sn) =
      R 2 96 787 [some (.ref r), some (.ref a), some (.int l2), some (.int l3), some (.ref o), some (.int (nI (rE d))), some (.ref u), some (.ref v), some (.int (nI k)), some (.int (nI b)), some (.int (nI (rdrs d (rowC d c k) b))), none, none, some (.int (b2j td)), some (.int (nI (maxB (rdb (rowC d c k) b) (ga s) 0 (rE d)))), some (.int (b2j (decide (0 < k) && (td || decide (sB d b 5 < gs s b + rM d k))))), none, none] [] (hG h o u v g cm sn)
  | 0, j, hj => by
    have h6 := hd.1
    have h4 := hd.2.1
    have h2 := hd.2.2.1
    obtain rfl : j = rE d := hj
    have hgs := hs.2.2.2.2.1 b
    have hm9 := hd.2.2.2.1 k
    have hsb := sB_le hd b 5
    rw [B96_684, if_neg (show ¬ nI (rE d) < nI (rE d) by rw [nJ_lt (by omega) (by omega)]; omega)]
    by_cases i0 : 0 < k
    · rw [if_pos (show 0 < nI k by rw [nI_gt0 (by omega)]; exact i0), decide_eq_true i0, Bool.true_and]
      cases td with
      | true => rw [if_neg (show ¬ b2j true = 0 by decide), B96_780, B96_781, B96_785]; rfl
      | false =>
        rw [if_pos (show b2j false = 0 from rfl), Bool.false_or, B96_756, G.rv g cm sn (by omega), obd_some, hsn, nJ_add, G.rr g cm sn (by omega), obd_some, (G.2.2.2.2.2.2.1.2.2.2.2.2.1 k hk).1, nJ_add, B96_768, nI_mul, nJ_add, nJ_add, G.rr g cm sn (by omega), obd_some, G.2.2.2.2.2.2.1.2.2.2.2.2.2.2 b 5 hb (by omega)]
        by_cases q : sB d b 5 < gs s b + rM d k
        · rw [if_pos (show nI (sB d b 5) < nI (gs s b + rM d k) by rw [nJ_lt (by omega) (by omega)]; exact q), decide_eq_true q, B96_780, B96_781, B96_785]; rfl
        · rw [if_neg (show ¬ nI (sB d b 5) < nI (gs s b + rM d k) by rw [nJ_lt (by omega) (by omega)]; exact q), decide_eq_false q, B96_784, B96_785]; rfl
    · rw [if_neg (show ¬ 0 < nI k by rw [nI_gt0 (by omega)]; exact i0), decide_eq_false i0, Bool.false_and, B96_784, B96_785]; rfl
  | m + 1, j, hj => by
    have h6 := hd.1
    have h4 := hd.2.1
    have hp : j < rE d := by omega
    have ih := l_strt G hd hk hb hs l2 l3 g cm sn td hg hsn m (j + 1) (by omega)
    rw [maxB] at ih
    have h1 := hs.1 j
    have hx := maxB_le (f := rdb (rowC d c k) b) (x := 0) (g := ga s) (c := 2000 * k) (Nat.zero_le _) hs.1 j
    have eb : (rdb (rowC d c k) b j = true) = (rowC d c k j = b + 1) := by
      show ((rowC d c k j == b + 1) = true) = _
      rw [beq_iff_eq]
    rw [B96_684, if_pos (show nI j < nI (rE d) by rw [nJ_lt (by omega) (by omega)]; exact hp), B96_699]
    by_cases e : rowC d c k j = b + 1
    · rw [if_pos (eb.mpr e)] at ih
      rw [if_pos ((rd_bit hd _ b hp).mpr e), nI_mul, nJ_add, G.ro g cm sn (by omega), obd_some, hg j hp, B96_715]
      by_cases q : maxB (rdb (rowC d c k) b) (ga s) 0 j < ga s j
      · rw [if_pos q] at ih
        rw [if_pos (show nI (maxB (rdb (rowC d c k) b) (ga s) 0 j) < nI (ga s j) by rw [nJ_lt (by omega) (by omega)]; exact q), nI_mul, nJ_add, G.ro g cm sn (by omega), obd_some, hg j hp, B96_734, B96_736, nJ_add]
        exact ih
      · rw [if_neg q] at ih
        rw [if_neg (show ¬ nI (maxB (rdb (rowC d c k) b) (ga s) 0 j) < nI (ga s j) by rw [nJ_lt (by omega) (by omega)]; exact q), B96_734, B96_736, nJ_add]
        exact ih
    · rw [if_neg (fun z => e (eb.mp z))] at ih
      rw [if_neg (fun z => e ((rd_bit hd _ b hp).mp z)), B96_734, B96_736, nJ_add]
      exact ih
/-- the riders are there -/
theorem l_rdr (G : GoF h d c r a o u v fr fa) (hd : rdOk d) (hk : k < rP d) (hb : b < rB d) (l2 l3 : Int32) (cm sn : Nat → Int32) (st tm : Nat) (hcm : cm b = nI tm) : ∀ m j g, j + m = rE d →
    ∃ g', R 2 96 926 [some (.ref r), some (.ref a), some (.int l2), some (.int l3), some (.ref o), some (.int (nI (rE d))), some (.ref u), some (.ref v), some (.int (nI k)), some (.int (nI b)), some (.int (nI (rdrs d (rowC d c k) b))), none, none, none, some (.int (nI st)), none, none, some (.int (nI j))] [.int (nI j)] (hG h o u v g cm sn) =
      R 2 96 545 [some (.ref r), some (.ref a), some (.int l2), some (.int l3), some (.ref o), some (.int (nI (rE d))), some (.ref u), some (.ref v), some (.int (nI k)), some (.int (nI (b + 1))), none, none, none, none, none, none, none, none] [.int (nI (b + 1))] (hG h o u v g' cm sn) ∧ (∀ p, p < rE d → j ≤ p → rowC d c k p = b + 1 → g' (7 * p + k + 1) = nI tm) ∧ (∀ p, (p < j ∨ ¬ rowC d c k p = b + 1) → p < rE d → g' (7 * p + k + 1) = g (7 * p + k + 1)) ∧ (∀ p, p < rE d → g' (7 * p + k) = g (7 * p + k)) ∧ ∀ t, 52 ≤ t → g' t = g t
  | 0, j, g, hj => by
    have h6 := hd.1
    have h4 := hd.2.1
    have h2 := hd.2.2.1
    obtain rfl : j = rE d := hj
    refine ⟨g, ?_, fun p h1 h2 => absurd h2 (by omega), fun _ _ _ => rfl, fun _ _ => rfl, fun _ _ => rfl⟩
    rw [B96_926, if_neg (show ¬ nI (rE d) < nI (rE d) by rw [nJ_lt (by omega) (by omega)]; omega), B96_982, B96_985, B96_543, nJ_add]
  | m + 1, j, g, hj => by
    have h6 := hd.1
    have h4 := hd.2.1
    have h2 := hd.2.2.1
    have hp : j < rE d := by omega
    rw [B96_926, if_pos (show nI j < nI (rE d) by rw [nJ_lt (by omega) (by omega)]; exact hp)]
    by_cases e : rowC d c k j = b + 1
    · obtain ⟨g', q1, q2, q3, q4, q5⟩ := l_rdr G hd hk hb l2 l3 cm sn st tm hcm m (j + 1) (upd (upd g (28 + 6 * j + k) (nI st)) (7 * j + k + 1) (nI tm)) (by omega)
      refine ⟨g', ?_, fun p h1 h2 h3 => ?_, fun p h1 h2 => ?_, fun p h1 => ?_, fun t ht => ?_⟩
      · rw [if_pos ((rd_bit hd _ b hp).mpr e), B96_942, nI_mul, nJ_add, nJ_add, B96_957, G.wo g cm sn _ (by omega), obd_some, nI_mul, nJ_add, nJ_add, B96_970, G.ru _ cm sn (by omega), obd_some, hcm, G.wo _ cm sn _ (by omega), obd_some, B96_976, B96_979, B96_924, nJ_add]
        exact q1
      · by_cases y : p = j
        · subst y
          rw [q3 p (Or.inl (by omega)) h1, upd_s]
        · exact q2 p h1 (by omega) h3
      · have y : ¬ p = j := by
          rintro rfl
          rcases h1 with z | z
          · omega
          · exact z e
        rw [q3 p (by rcases h1 with z | z; exact Or.inl (by omega); exact Or.inr z) h2, upd_n (by omega), upd_n (by omega)]
      · rw [q4 p h1, upd_n (by omega), upd_n (by omega)]
      · rw [q5 t ht, upd_n (by omega), upd_n (by omega)]
    · obtain ⟨g', q1, q2, q3, q4, q5⟩ := l_rdr G hd hk hb l2 l3 cm sn st tm hcm m (j + 1) g (by omega)
      refine ⟨g', ?_, fun p h1 h2 h3 => ?_, fun p h1 h2 => ?_, q4, q5⟩
      · rw [if_neg (fun z => e ((rd_bit hd _ b hp).mp z)), B96_976, B96_979, B96_924, nJ_add]
        exact q1
      · by_cases y : p = j
        · subst y; exact absurd h3 e
        · exact q2 p h1 (by omega) h3
      · refine q3 p ?_ h2
        by_cases y : p = j
        · subst y; exact Or.inr e
        · rcases h1 with z | z
          · exact Or.inl (by omega)
          · exact Or.inr z
end LGo4
