/-! The law goes through a right row: a beast, a piece, all of it. -/
theorem tied_L {d : jRD} {c : Nat → Nat} {k b : Nat} (hp : pre d c k) : (led d c b k && (decide (0 < k) && decide (¬ rdrs d (rowC d c k) b = (if 0 < k then rdrs d (rowC d c (k - 1)) b else rdrs d (rowC d c k) b)))) = tied d (rowC d c k) k (sq d c 0 0 k) b := by
  unfold tied
  have e1 : (gc (sq d c 0 0 k) b).isSome = led d c b k := by
    have e := gc_led b k hp
    cases q : led d c b k with
    | true =>
      cases w : gc (sq d c 0 0 k) b with
      | none => rw [q] at e; exact absurd (e.mp w) (by decide)
      | some m => rfl
    | false => rw [e.mpr q]; rfl
  rw [e1]
  cases k with
  | zero => rw [decide_eq_false (Nat.lt_irrefl 0), Bool.false_and, Bool.false_and, Bool.and_false]
  | succ k =>
    rw [decide_eq_true (Nat.succ_pos k), Bool.true_and, Bool.true_and, if_pos (Nat.succ_pos k), Nat.add_sub_cancel]
    rw [show gw (sq d c 0 0 (k + 1)) b = rdrs d (rowC d c k) b by rw [sq_s]; rfl]
theorem stnd_L (d : jRD) (a : Nat → Nat) (k : Nat) (s : jGS) (b : Nat) : (decide (0 < k) && (tied d a k s b || decide (sB d b 5 < gs s b + rM d k))) = stnd d a k s b := by
  unfold stnd tied
  cases decide (0 < k) <;> simp
section LGo5
variable {h : jHp} {d : jRD} {c : Nat → Nat} {r a o u v : Nat} {fr fa : Nat → Int32} {k : Nat}
theorem l_bst (G : GoF h d c r a o u v fr fa) (hd : rdOk d) (hc : ∀ i, c i ≤ rB d) (hk : k < rP d) (hp : pre d c (k + 1)) (l2 l3 : Int32) : ∀ m b g cm sn, b + m = rB d → BsI d c k (sq d c 0 0 k) g cm sn b →
    ∃ g' cm' sn', R 2 96 545 [some (.ref r), some (.ref a), some (.int l2), some (.int l3), some (.ref o), some (.int (nI (rE d))), some (.ref u), some (.ref v), some (.int (nI k)), some (.int (nI b)), none, none, none, none, none, none, none, none] [.int (nI b)] (hG h o u v g cm sn) =
      R 2 96 335 [some (.ref r), some (.ref a), some (.int l2), some (.int l3), some (.ref o), some (.int (nI (rE d))), some (.ref u), some (.ref v), some (.int (nI (k + 1))), none, none, none, none, none, none, none, none, none] [.int (nI (k + 1))] (hG h o u v g' cm' sn') ∧ BsI d c k (sq d c 0 0 k) g' cm' sn' (rB d)
  | 0, b, g, cm, sn, hb, I => by
    have h6 := hd.1
    have h2 := hd.2.2.1
    obtain rfl : b = rB d := hb
    refine ⟨g, cm, sn, ?_, I⟩
    rw [B96_545, G.rr g cm sn (by omega), obd_some, G.2.2.2.2.2.2.1.2.2.1, if_neg (show ¬ nI (rB d) < nI (rB d) by rw [nJ_lt (by omega) (by omega)]; omega), B96_333, nJ_add]
  | m + 1, b, g, cm, sn, hbm, I => by
    have h6 := hd.1
    have h4 := hd.2.1
    have h2 := hd.2.2.1
    have hb : b < rB d := by omega
    have hc2 : ∀ i, c i ≤ 2 := fun i => by have := hc i; omega
    have hs := sq_ok hd c 0 (show 0 ≤ 60 by omega) k
    have hpk : pre d c k := fun i hi => hp i (by omega)
    have hwr : wrK d c k = none := hp k (by omega)
    obtain ⟨i1, i2, i3, i4, i5, i6⟩ := I
    obtain ⟨j1, j2⟩ := i6 b hb (Nat.le_refl b)
    have hcf := G.2.2.2.2.2.2.2
    have hrd := G.2.2.2.2.2.2.1
    have hnw : rdrs d (rowC d c k) b < 16 := msk_16 _ hd.2.1
    have hgt := hs.2.2.2.2.2.1
    have hct := cntB_le (tied d (rowC d c k) k (sq d c 0 0 k)) b
    -- with whom now, with whom before
    have eA : R 2 96 545 [some (.ref r), some (.ref a), some (.int l2), some (.int l3), some (.ref o), some (.int (nI (rE d))), some (.ref u), some (.ref v), some (.int (nI k)), some (.int (nI b)), none, none, none, none, none, none, none, none] [.int (nI b)] (hG h o u v g cm sn) =
        R 2 96 655 [some (.ref r), some (.ref a), some (.int l2), some (.int l3), some (.ref o), some (.int (nI (rE d))), some (.ref u), some (.ref v), some (.int (nI k)), some (.int (nI b)), some (.int (nI (rdrs d (rowC d c k) b))), none, none, some (.int (b2j (tied d (rowC d c k) k (sq d c 0 0 k) b))), none, none, none, none] [] (hG h o u v g cm sn) := by
      rw [B96_545, G.rr g cm sn (by omega), obd_some, hrd.2.2.1, if_pos (show nI b < nI (rB d) by rw [nJ_lt (by omega) (by omega)]; exact hb), m_by (G.xa g cm sn) hcf hd hc2 hk (by omega)]
      simp only [obd_some, obd_none, Option.toList_some, Option.toList_none, List.cons_append, List.nil_append, cond_true, cond_false]
      rw [B96_561]
      have e2 := fun wt (hwt : wt < 16) => l_here G hd hc2 hk hb l2 l3 g cm sn (rdrs d (rowC d c k) b) wt hnw hwt k 0 (by omega)
      rw [← tied_L hpk]
      by_cases i0 : 0 < k
      · have e3 := e2 (rdrs d (rowC d c (k - 1)) b) (msk_16 _ hd.2.1)
        rw [if_pos (show 0 < nI k by rw [nI_gt0 (by omega)]; exact i0), B96_577, nI_sub (by omega), m_by (G.xa g cm sn) hcf hd hc2 (show k - 1 < rP d by omega) (by omega)]
        simp only [obd_some, obd_none, Option.toList_some, Option.toList_none, List.cons_append, List.nil_append, cond_true, cond_false]
        rw [B96_580, B96_585, B96_587, if_pos i0]
        exact e3
      · have e3 := e2 (rdrs d (rowC d c k) b) hnw
        rw [if_neg (show ¬ 0 < nI k by rw [nI_gt0 (by omega)]; exact i0), B96_585, B96_587, if_neg i0]
        exact e3
    -- its ties
    have eB : R 2 96 655 [some (.ref r), some (.ref a), some (.int l2), some (.int l3), some (.ref o), some (.int (nI (rE d))), some (.ref u), some (.ref v), some (.int (nI k)), some (.int (nI b)), some (.int (nI (rdrs d (rowC d c k) b))), none, none, some (.int (b2j (tied d (rowC d c k) k (sq d c 0 0 k) b))), none, none, none, none] [] (hG h o u v g cm sn) =
        if nI (rdrs d (rowC d c k) b) = 0 then R 2 96 982 [some (.ref r), some (.ref a), some (.int l2), some (.int l3), some (.ref o), some (.int (nI (rE d))), some (.ref u), some (.ref v), some (.int (nI k)), some (.int (nI b)), some (.int (nI (rdrs d (rowC d c k) b))), none, none, some (.int (b2j (tied d (rowC d c k) k (sq d c 0 0 k) b))), none, none, none, none] [] (hG h o u v (upd g 57 (nI (gt (sq d c 0 0 k) + cntB (tied d (rowC d c k) k (sq d c 0 0 k)) (b + 1)))) cm sn)
        else R 2 96 684 [some (.ref r), some (.ref a), some (.int l2), some (.int l3), some (.ref o), some (.int (nI (rE d))), some (.ref u), some (.ref v), some (.int (nI k)), some (.int (nI b)), some (.int (nI (rdrs d (rowC d c k) b))), none, none, some (.int (b2j (tied d (rowC d c k) k (sq d c 0 0 k) b))), some (.int (nI 0)), some (.int (nI 0)), none, none] [] (hG h o u v (upd g 57 (nI (gt (sq d c 0 0 k) + cntB (tied d (rowC d c k) k (sq d c 0 0 k)) (b + 1)))) cm sn) := by
      rw [B96_655, G.ro g cm sn (by omega), obd_some, i4.1, cntB]
      cases q : tied d (rowC d c k) k (sq d c 0 0 k) b with
      | true => rw [if_neg (show ¬ b2j true = 0 by decide), B96_671, nJ_add, B96_672, G.wo g cm sn _ (by omega), obd_some, if_pos rfl, Nat.add_assoc]
      | false => rw [if_pos (show b2j false = 0 from rfl), B96_671, nJ_add, B96_672, G.wo g cm sn _ (by omega), obd_some, if_neg Bool.false_ne_true]; rfl
    rw [eA, eB]
    generalize hg1 : upd g 57 (nI (gt (sq d c 0 0 k) + cntB (tied d (rowC d c k) k (sq d c 0 0 k)) (b + 1))) = g1
    have k1 : ∀ t, t ≠ 57 → g1 t = g t := fun t ht => by rw [← hg1]; exact upd_n ht
    have k2 : g1 57 = nI (gt (sq d c 0 0 k) + cntB (tied d (rowC d c k) k (sq d c 0 0 k)) (b + 1)) := by rw [← hg1]; exact upd_s _ _ _
    have k3 : g1 56 = -nI 9 := (k1 56 (by omega)).trans i4.2
    by_cases z : rdrs d (rowC d c k) b = 0
    · obtain ⟨g', cm', sn', q1, q2⟩ := l_bst G hd hc hk hp l2 l3 m (b + 1) g1 cm sn (by omega) ⟨fun p h1 => by rw [k1 _ (by omega)]; exact i1 p h1, fun p h1 h3 => by
          rw [k1 _ (by omega)]
          refine i2 p h1 ?_
          by_cases y : c (rE d * k + p) = b + 1
          · have := msk_0 _ z h1
            have e : (rowC d c k p == b + 1) = false := this
            rw [row_at c h1, y, beq_self_eq_true] at e
            cases e
          · omega, fun p h1 => by rw [k1 _ (by omega)]; exact i3 p h1, ⟨k2, k3⟩, fun b' h1 h3 => by
          by_cases y : b' = b
          · subst y
            refine ⟨fun m hm => ?_, ?_⟩
            · have hm : (if rdrs d (rowC d c k) b' = 0 then none else some (strt d (rowC d c k) k (sq d c 0 0 k) b' + rid d b' k)) = some m := hm
              rw [if_pos z] at hm; cases hm
            · rw [j2]
              show _ = nI (if rdrs d (rowC d c k) b' = 0 then gs (sq d c 0 0 k) b' else _)
              rw [if_pos z]
          · exact i5 b' h1 (by omega), fun b' h1 h3 => i6 b' h1 (by omega)⟩
      refine ⟨g', cm', sn', ?_, q2⟩
      rw [if_pos (show nI (rdrs d (rowC d c k) b) = 0 by rw [z]; rfl), B96_982, B96_985, B96_543, nJ_add]
      exact q1
    · rw [if_neg (show ¬ nI (rdrs d (rowC d c k) b) = 0 by rw [nI_eq0 (by omega)]; exact z)]
      -- it has come
      have hcs : cm b = nI (cmb (sq d c 0 0 k) b) := by
        obtain ⟨p, h1, h3⟩ := rdrs_some z
        have h0 := fstW_no _ _ hwr p (Nat.zero_le _) (by omega)
        unfold whyN at h0
        rw [h3, if_neg (by omega), Nat.add_sub_cancel] at h0
        cases w : gc (sq d c 0 0 k) b with
        | none => rw [w, if_pos rfl] at h0; cases h0
        | some t =>
          rw [j1 t w]
          unfold cmb
          rw [w]; rfl
      have hcb := cmb_le hs b
      have hsb4 := sB_le hd b 4
      have hgs := hs.2.2.2.2.1 b
      have hm9 := hd.2.2.2.1 k
      have hst := strt_le hd hs (rowC d c k) b
      have hrid := rid_le hd b k
      have hg2 := hd.2.2.2.2.1 k
      have hmx := maxB_le (f := rdb (rowC d c k) b) (x := 0) (g := ga (sq d c 0 0 k)) (c := 2000 * k) (Nat.zero_le _) hs.1 (rE d)
      have e1 := l_strt G hd hk hb hs l2 l3 g1 cm sn (tied d (rowC d c k) k (sq d c 0 0 k) b) (fun p h1 => by rw [k1 _ (by omega)]; exact i1 p h1) j2 (rE d) 0 (by omega)
      rw [stnd_L] at e1
      have e1' : R 2 96 684 [some (.ref r), some (.ref a), some (.int l2), some (.int l3), some (.ref o), some (.int (nI (rE d))), some (.ref u), some (.ref v), some (.int (nI k)), some (.int (nI b)), some (.int (nI (rdrs d (rowC d c k) b))), none, none, some (.int (b2j (tied d (rowC d c k) k (sq d c 0 0 k) b))), some (.int (nI 0)), some (.int (nI 0)), none, none] [] (hG h o u v g1 cm sn) = _ := e1
      rw [e1']
      -- when they start
      have e2 : R 2 96 787 [some (.ref r), some (.ref a), some (.int l2), some (.int l3), some (.ref o), some (.int (nI (rE d))), some (.ref u), some (.ref v), some (.int (nI k)), some (.int (nI b)), some (.int (nI (rdrs d (rowC d c k) b))), none, none, some (.int (b2j (tied d (rowC d c k) k (sq d c 0 0 k) b))), some (.int (nI (maxB (rdb (rowC d c k) b) (ga (sq d c 0 0 k)) 0 (rE d)))), some (.int (b2j (stnd d (rowC d c k) k (sq d c 0 0 k) b))), none, none] [] (hG h o u v g1 cm sn) =
          R 2 96 832 [some (.ref r), some (.ref a), some (.int l2), some (.int l3), some (.ref o), some (.int (nI (rE d))), some (.ref u), some (.ref v), some (.int (nI k)), some (.int (nI b)), some (.int (nI (rdrs d (rowC d c k) b))), none, none, some (.int (b2j (tied d (rowC d c k) k (sq d c 0 0 k) b))), some (.int (nI (strt d (rowC d c k) k (sq d c 0 0 k) b))), some (.int (b2j (stnd d (rowC d c k) k (sq d c 0 0 k) b))), none, none] [] (hG h o u v g1 cm sn) := by
        rw [B96_787, G.ru g1 cm sn (by omega), obd_some, hcs]
        have e3 : ∀ x, x ≤ 99 → R 2 96 813 [some (.ref r), some (.ref a), some (.int l2), some (.int l3), some (.ref o), some (.int (nI (rE d))), some (.ref u), some (.ref v), some (.int (nI k)), some (.int (nI b)), some (.int (nI (rdrs d (rowC d c k) b))), none, none, some (.int (b2j (tied d (rowC d c k) k (sq d c 0 0 k) b))), some (.int (nI (maxB (rdb (rowC d c k) b) (ga (sq d c 0 0 k)) 0 (rE d)))), some (.int (b2j (stnd d (rowC d c k) k (sq d c 0 0 k) b))), none, none] [.int (nI x), .int (nI (cmb (sq d c 0 0 k) b))] (hG h o u v g1 cm sn) =
            R 2 96 832 [some (.ref r), some (.ref a), some (.int l2), some (.int l3), some (.ref o), some (.int (nI (rE d))), some (.ref u), some (.ref v), some (.int (nI k)), some (.int (nI b)), some (.int (nI (rdrs d (rowC d c k) b))), none, none, some (.int (b2j (tied d (rowC d c k) k (sq d c 0 0 k) b))), some (.int (nI (maxB (rdb (rowC d c k) b) (ga (sq d c 0 0 k)) (cmb (sq d c 0 0 k) b + x) (rE d)))), some (.int (b2j (stnd d (rowC d c k) k (sq d c 0 0 k) b))), none, none] [] (hG h o u v g1 cm sn) := by
          intro x hx
          rw [B96_813, nJ_add, B96_816, maxB_max _ _ (cmb (sq d c 0 0 k) b + x)]
          by_cases y : maxB (rdb (rowC d c k) b) (ga (sq d c 0 0 k)) 0 (rE d) < cmb (sq d c 0 0 k) b + x
          · rw [if_pos (show nI (maxB (rdb (rowC d c k) b) (ga (sq d c 0 0 k)) 0 (rE d)) < nI (cmb (sq d c 0 0 k) b + x) by rw [nJ_lt (by omega) (by omega)]; exact y), if_pos y, B96_830]
          · rw [if_neg (show ¬ nI (maxB (rdb (rowC d c k) b) (ga (sq d c 0 0 k)) 0 (rE d)) < nI (cmb (sq d c 0 0 k) b + x) by rw [nJ_lt (by omega) (by omega)]; exact y), if_neg y, B96_830]
        have e4 : strt d (rowC d c k) k (sq d c 0 0 k) b = maxB (rdb (rowC d c k) b) (ga (sq d c 0 0 k)) (cmb (sq d c 0 0 k) b + (if stnd d (rowC d c k) k (sq d c 0 0 k) b = true then sB d b 4 else 0)) (rE d) := rfl
        rw [e4]
        cases q : stnd d (rowC d c k) k (sq d c 0 0 k) b with
        | true =>
          rw [q] at e3
          rw [if_neg (show ¬ b2j true = 0 by decide), B96_804, nI_mul, nJ_add, nJ_add, G.rr g1 cm sn (by omega), obd_some, hrd.2.2.2.2.2.2.2 b 4 hb (by omega), e3 _ hsb4, if_pos rfl]
        | false =>
          rw [q] at e3
          rw [if_pos (show b2j false = 0 from rfl), e3 0 (by omega), if_neg Bool.false_ne_true]
      rw [e2]
      -- those alone
      have e5 : ∃ x58, R 2 96 832 [some (.ref r), some (.ref a), some (.int l2), some (.int l3), some (.ref o), some (.int (nI (rE d))), some (.ref u), some (.ref v), some (.int (nI k)), some (.int (nI b)), some (.int (nI (rdrs d (rowC d c k) b))), none, none, some (.int (b2j (tied d (rowC d c k) k (sq d c 0 0 k) b))), some (.int (nI (strt d (rowC d c k) k (sq d c 0 0 k) b))), some (.int (b2j (stnd d (rowC d c k) k (sq d c 0 0 k) b))), none, none] [] (hG h o u v g1 cm sn) =
          R 2 96 873 [some (.ref r), some (.ref a), some (.int l2), some (.int l3), some (.ref o), some (.int (nI (rE d))), some (.ref u), some (.ref v), some (.int (nI k)), some (.int (nI b)), some (.int (nI (rdrs d (rowC d c k) b))), none, none, none, some (.int (nI (strt d (rowC d c k) k (sq d c 0 0 k) b))), some (.int (b2j (stnd d (rowC d c k) k (sq d c 0 0 k) b))), none, none] [.int (b2j (stnd d (rowC d c k) k (sq d c 0 0 k) b)), .int (nI (rM d k)), .int (nI b), .ref v] (hG h o u v (upd g1 58 x58) cm sn) := by
        have e6 : ∀ x y, R 2 96 858 [some (.ref r), some (.ref a), some (.int l2), some (.int l3), some (.ref o), some (.int (nI (rE d))), some (.ref u), some (.ref v), some (.int (nI k)), some (.int (nI b)), some (.int (nI (rdrs d (rowC d c k) b))), none, none, none, some (.int (nI (strt d (rowC d c k) k (sq d c 0 0 k) b))), some (.int (b2j (stnd d (rowC d c k) k (sq d c 0 0 k) b))), none, none] [.int x, .int y, .int (nI 58), .ref o] (hG h o u v g1 cm sn) =
            R 2 96 873 [some (.ref r), some (.ref a), some (.int l2), some (.int l3), some (.ref o), some (.int (nI (rE d))), some (.ref u), some (.ref v), some (.int (nI k)), some (.int (nI b)), some (.int (nI (rdrs d (rowC d c k) b))), none, none, none, some (.int (nI (strt d (rowC d c k) k (sq d c 0 0 k) b))), some (.int (b2j (stnd d (rowC d c k) k (sq d c 0 0 k) b))), none, none] [.int (b2j (stnd d (rowC d c k) k (sq d c 0 0 k) b)), .int (nI (rM d k)), .int (nI b), .ref v] (hG h o u v (upd g1 58 (y + x)) cm sn) := by
          intro x y
          rw [B96_858, B96_859, G.wo g1 cm sn _ (by omega), obd_some, nJ_add, G.rr _ cm sn (by omega), obd_some, (hrd.2.2.2.2.2.1 k hk).1]
        rw [B96_832, G.ro g1 cm sn (by omega), obd_some]
        cases tied d (rowC d c k) k (sq d c 0 0 k) b with
        | false => rw [if_pos (show b2j false = 0 from rfl), B96_857, e6]; exact ⟨_, rfl⟩
        | true =>
          rw [if_neg (show ¬ b2j true = 0 by decide), B96_849, G.ru g1 cm sn (by omega), obd_some, hcs]
          by_cases y : nI (cmb (sq d c 0 0 k) b) < nI (strt d (rowC d c k) k (sq d c 0 0 k) b)
          · rw [if_pos y]
            have e7 := e6 (nI 1) (g1 58)
            rw [B96_858] at e7 ⊢
            rw [e7]; exact ⟨_, rfl⟩
          · rw [if_neg y, B96_857, e6]; exact ⟨_, rfl⟩
      obtain ⟨x58, e5⟩ := e5
      rw [e5]
      -- since it stood, and when it comes
      have e8 : R 2 96 873 [some (.ref r), some (.ref a), some (.int l2), some (.int l3), some (.ref o), some (.int (nI (rE d))), some (.ref u), some (.ref v), some (.int (nI k)), some (.int (nI b)), some (.int (nI (rdrs d (rowC d c k) b))), none, none, none, some (.int (nI (strt d (rowC d c k) k (sq d c 0 0 k) b))), some (.int (b2j (stnd d (rowC d c k) k (sq d c 0 0 k) b))), none, none] [.int (b2j (stnd d (rowC d c k) k (sq d c 0 0 k) b)), .int (nI (rM d k)), .int (nI b), .ref v] (hG h o u v (upd g1 58 x58) cm sn) =
          R 2 96 926 [some (.ref r), some (.ref a), some (.int l2), some (.int l3), some (.ref o), some (.int (nI (rE d))), some (.ref u), some (.ref v), some (.int (nI k)), some (.int (nI b)), some (.int (nI (rdrs d (rowC d c k) b))), none, none, none, some (.int (nI (strt d (rowC d c k) k (sq d c 0 0 k) b))), none, none, some (.int (nI 0))] [.int (nI 0)] (hG h o u v (upd g1 58 x58) (upd cm b (nI (strt d (rowC d c k) k (sq d c 0 0 k) b + rid d b k))) (upd sn b (nI (gs (nxt d (rowC d c k) k (sq d c 0 0 k)) b)))) := by
        have e9 : gs (nxt d (rowC d c k) k (sq d c 0 0 k)) b = if stnd d (rowC d c k) k (sq d c 0 0 k) b = true then rM d k else gs (sq d c 0 0 k) b + rM d k := by
          show (if rdrs d (rowC d c k) b = 0 then gs (sq d c 0 0 k) b else if stnd d (rowC d c k) k (sq d c 0 0 k) b = true then rM d k else gs (sq d c 0 0 k) b + rM d k) = _
          rw [if_neg z]
        have eC : ∀ x, R 2 96 885 [some (.ref r), some (.ref a), some (.int l2), some (.int l3), some (.ref o), some (.int (nI (rE d))), some (.ref u), some (.ref v), some (.int (nI k)), some (.int (nI b)), some (.int (nI (rdrs d (rowC d c k) b))), none, none, none, some (.int (nI (strt d (rowC d c k) k (sq d c 0 0 k) b))), none, none, none] [.int (nI x), .int (nI (rM d k)), .int (nI b), .ref v] (hG h o u v (upd g1 58 x58) cm sn) =
            R 2 96 926 [some (.ref r), some (.ref a), some (.int l2), some (.int l3), some (.ref o), some (.int (nI (rE d))), some (.ref u), some (.ref v), some (.int (nI k)), some (.int (nI b)), some (.int (nI (rdrs d (rowC d c k) b))), none, none, none, some (.int (nI (strt d (rowC d c k) k (sq d c 0 0 k) b))), none, none, some (.int (nI 0))] [.int (nI 0)] (hG h o u v (upd g1 58 x58) (upd cm b (nI (strt d (rowC d c k) k (sq d c 0 0 k) b + rid d b k))) (upd sn b (nI (rM d k + x)))) := by
          intro x
          rw [B96_885, nJ_add, B96_886, G.wv _ cm sn _ (by omega), obd_some, nJ_add, G.rr _ cm _ (by omega), obd_some, (hrd.2.2.2.2.2.1 k hk).1, B96_900, nI_mul, nJ_add, B96_914, nJ_add, G.rr _ cm _ (by omega), obd_some, (hrd.2.2.2.2.2.1 k hk).2, nJ_add, G.rr _ cm _ (by omega), obd_some, hrd.2.2.2.2.2.2.2 b _ hb (by omega), nI_mul, nJ_add, G.wu _ cm _ _ (by omega), obd_some, B96_924]
          rfl
        rw [B96_873, e9]
        cases q : stnd d (rowC d c k) k (sq d c 0 0 k) b with
        | true =>
          have eD := eC 0
          rw [if_neg (show ¬ b2j true = 0 by decide), if_pos rfl]
          rw [B96_885] at eD ⊢
          exact eD
        | false =>
          have eD := eC (gs (sq d c 0 0 k) b)
          rw [if_pos (show b2j false = 0 from rfl), G.rv _ cm sn (by omega), obd_some, j2, if_neg Bool.false_ne_true, Nat.add_comm (gs (sq d c 0 0 k) b)]
          rw [B96_885] at eD ⊢
          exact eD
      rw [e8]
      obtain ⟨g2, r1, r2, r3, r4, r5⟩ := l_rdr G hd hk hb l2 l3 (upd cm b (nI (strt d (rowC d c k) k (sq d c 0 0 k) b + rid d b k))) (upd sn b (nI (gs (nxt d (rowC d c k) k (sq d c 0 0 k)) b))) (strt d (rowC d c k) k (sq d c 0 0 k) b) (strt d (rowC d c k) k (sq d c 0 0 k) b + rid d b k) (upd_s _ _ _) (rE d) 0 (upd g1 58 x58) (by omega)
      rw [r1]
      refine l_bst G hd hc hk hp l2 l3 m (b + 1) g2 _ _ (by omega) ⟨fun p h1 => ?_, fun p h1 h3 => ?_, fun p h1 => ?_, ?_, fun b' h1 h3 => ?_, fun b' h1 h3 => ?_⟩
      · rw [r4 p h1, upd_n (by omega), k1 _ (by omega)]; exact i1 p h1
      · by_cases y : rowC d c k p = b + 1
        · rw [r2 p h1 (Nat.zero_le p) y]
          show _ = nI (if rowC d c k p = 0 then ga (sq d c 0 0 k) p + wlk d p k else strt d (rowC d c k) k (sq d c 0 0 k) (rowC d c k p - 1) + rid d (rowC d c k p - 1) k)
          rw [y, if_neg (by omega), Nat.add_sub_cancel]
        · rw [r3 p (Or.inr y) h1, upd_n (by omega), k1 _ (by omega)]
          refine i2 p h1 ?_
          rw [row_at c h1] at y
          omega
      · rw [r5 _ (by omega), upd_n (by omega), k1 _ (by omega)]; exact i3 p h1
      · exact ⟨by rw [r5 _ (by omega), upd_n (by omega)]; exact k2, by rw [r5 _ (by omega), upd_n (by omega)]; exact k3⟩
      · by_cases y : b' = b
        · subst y
          rw [upd_s, upd_s]
          refine ⟨fun t ht => ?_, rfl⟩
          have ht : (if rdrs d (rowC d c k) b' = 0 then none else some (strt d (rowC d c k) k (sq d c 0 0 k) b' + rid d b' k)) = some t := ht
          rw [if_neg z] at ht
          cases ht; rfl
        · rw [upd_n y, upd_n y]; exact i5 b' h1 (by omega)
      · rw [upd_n (by omega), upd_n (by omega)]; exact i6 b' h1 (by omega)
/-- all pieces -/
theorem l_g2 (G : GoF h d c r a o u v fr fa) (hd : rdOk d) (hc : ∀ i, c i ≤ rB d) (hp : pre d c (rP d)) (l3 : Int32) : ∀ m k g cm sn, k + m = rP d → GtI d k (sq d c 0 0 k) g cm sn →
    ∃ g' cm' sn', R 2 96 335 [some (.ref r), some (.ref a), some (.int (nI 0)), some (.int l3), some (.ref o), some (.int (nI (rE d))), some (.ref u), some (.ref v), some (.int (nI k)), none, none, none, none, none, none, none, none, none] [.int (nI k)] (hG h o u v g cm sn) = some (some (.ref o), hG h o u v g' cm' sn') ∧ OutA d (sq d c 0 0 (rP d)) g' ∧ g' 56 = -nI 9
  | 0, k, g, cm, sn, hk, I => by
    have h6 := hd.1
    obtain rfl : k = rP d := hk
    refine ⟨g, cm, sn, ?_, ⟨I.1, I.2.1, I.2.2.1.1⟩, I.2.2.1.2⟩
    rw [B96_335, G.rr g cm sn (by omega), obd_some, G.2.2.2.2.2.2.1.1, if_neg (show ¬ nI (rP d) < nI (rP d) by rw [nJ_lt (by omega) (by omega)]; omega)]
  | m + 1, k, g, cm, sn, hk, I => by
    have h6 := hd.1
    have h4 := hd.2.1
    have hkP : k < rP d := by omega
    have hc2 : ∀ i, c i ≤ 2 := fun i => by have := hc i; have := hd.2.2.1; omega
    obtain ⟨i1, i2, i3, i4⟩ := I
    obtain ⟨g1, q1, q2⟩ := l_w2 (s := sq d c 0 0 k) G hd hc2 hkP (nI 0) l3 cm sn (rE d) 0 g (by omega) ⟨i1, fun p h1 => absurd h1 (Nat.not_lt_zero p), fun p h1 => by rw [if_neg (fun z => absurd z.1 (Nat.not_lt_zero p))]; exact i2 p h1, i3⟩
    obtain ⟨g2, cm2, sn2, s1, s2⟩ := l_bst G hd hc hkP (fun i hi => hp i (by omega)) (nI 0) l3 (rB d) 0 g1 cm sn (by omega) (BsI_0 q2 i4)
    obtain ⟨b1, b2, b3, b4, b5, b6⟩ := s2
    obtain ⟨g3, cm3, sn3, t1, t2, t3⟩ := l_g2 G hd hc hp l3 m (k + 1) g2 cm2 sn2 (by omega) (by
      rw [sq_s]
      exact ⟨fun p h1 => b2 p h1 (hc _), b3, b4, fun b h1 => b5 b h1 h1⟩)
    refine ⟨g3, cm3, sn3, ?_, t2, t3⟩
    · rw [B96_335, G.rr g cm sn (by omega), obd_some, G.2.2.2.2.2.2.1.1, if_pos (show nI k < nI (rP d) by rw [nJ_lt (by omega) (by omega)]; exact hkP), if_neg (show ¬ 0 < nI 0 by decide), B96_435, B96_436, B96_438, q1, s1]
      exact t1
end LGo5
