/-! The law begins with a road: it is written, read, somebody may be lame. -/
theorem suf_T {c : Nat → Int32} {T : List Nat} (h : ∀ i, i < T.length → c i = nI (T.getD i 0)) : Suf (cdOf c 0 T.length) 0 T := fun i => by
  unfold cdOf
  rw [Nat.zero_add, Nat.zero_add]
  by_cases e : i < T.length
  · rw [if_pos e]; exact h i e
  · rw [if_neg e, List.getD_eq_getElem?_getD, List.getElem?_eq_none (by omega)]; rfl
/-- the road of a text, as the law's row has it -/
theorem rd_row {d0 : jRD} {w : jTx} {f : Nat → Int32} (h0 : rL d0 = none) (hw : txOk w) (hd : HdA f w.1.length w.2.1.length w.2.2.length) (hp : PcA f w.1) (hy : YsA f 20 4 w.2.1) (hz : YsA f 36 6 w.2.2) :
    RdA (rdOf d0 w) f ∧ rP (rdOf d0 w) ≤ 3 ∧ rE (rdOf d0 w) ≤ 3 ∧ (∀ p, p < rE (rdOf d0 w) → sP (rdOf d0 w) p 0 ≤ 34) ∧ (0 < rB (rdOf d0 w) → 1 ≤ sB (rdOf d0 w) 0 0) ∧ rL (rdOf d0 w) = none := by
  obtain ⟨e1, e2, e3, e4⟩ := rdOf_n d0 w
  obtain ⟨p0, p3, f0, f3, b2, hp9, he, hb⟩ := hw
  have l4 : ∀ y, y ∈ w.2.1 → y.length = 4 := fun y hy => inB_len (he y hy)
  have l6 : ∀ y, y ∈ w.2.2 → y.length = 6 := fun y hy => inB_len (hb y hy)
  rw [h0] at e4
  refine ⟨⟨by rw [e1]; exact hd.1, by rw [e2]; exact hd.2.1, by rw [e3]; exact hd.2.2.1, by rw [e4]; exact hd.2.2.2.1, by rw [e4]; exact hd.2.2.2.2, fun k hk => ?_, fun p j h1 h2 => ?_, fun q j h1 h2 => ?_⟩, by rw [e1]; exact p3, by rw [e2]; exact f3, fun p h1 => ?_, fun h1 => ?_, e4⟩
  · rw [e1] at hk
    obtain ⟨a1, a2⟩ := rdOf_M d0 w hk
    rw [a1, a2]
    exact hp k hk
  · rw [e2] at h1
    rw [rdOf_Q d0 l4 h1 h2]
    exact hy p j h1 h2
  · rw [e3] at h1
    rw [rdOf_O d0 l6 h1 h2]
    exact hz q j h1 h2
  · rw [e2] at h1
    rw [rdOf_Q d0 l4 h1 (by omega)]
    exact (inB_hd (he _ (getD_in h1 []))).2
  · rw [e3] at h1
    rw [rdOf_O d0 l6 h1 (by omega)]
    exact (inB_hd (hb _ (getD_in h1 []))).1
/-- what the law's object is at the beginning of a turn -/
def StI (S : jST) (e : Nat) : Prop := zn S = e ∧ TS S []
section LInit
variable {x : Nat} {S : jST} {b L : Nat} {xs : Nat → Int32} {e : Nat} {h : jHp}
theorem l_read (I : LW x S b L xs h) (H : StI S e) (he : e < 3) (hL : L ≤ 260) :
    ∃ S' h' r f c6 d mm, R 26 0 24 [some (.ref b), some (.ref x), some (.int (nI e)), none, none, none, none, none, none, none, none, none, none, none, none, none, none, none, none, none, none, none, none, none, none, none, none, none, none, none, none, none, none, none, none, none, none, none, none, none, none, none] [] h = R 26 0 100 [some (.ref b), some (.ref x), some (.int (nI e)), some (.ref r), some (.int (nI (8 * e))), some (.int mm), none, none, none, none, none, none, none, none, none, none, none, none, none, none, none, none, none, none, none, none, none, none, none, none, none, none, none, none, none, none, none, none, none, none, none, none] [.int c6] h' ∧ LW x S' b L xs h' ∧ La h' r 48 f ∧ StI S' (e + 1) ∧ zD S' e = d ∧ RdA d f ∧ rP d * rE d ≤ 6 ∧ rP d ≤ 3 ∧ rE d ≤ 3 ∧ (∀ p, p < rE d → sP d p 0 ≤ 34) ∧ (0 < rB d → 1 ≤ sB d 0 0) ∧ rL d = none ∧ h.2.1 ≤ h'.2.1 ∧ h'.2.1 ≤ h.2.1 + 21 ∧ h.2.2 ≤ h'.2.2 ∧ h'.2.2 ≤ h.2.2 + 648 := by
  obtain ⟨⟨dr, ra, ba, pa, W⟩, hS, hs⟩ := I
  have w0 := xw_wf W
  obtain ⟨hzn, ht1, ht2, ht3⟩ := H
  have A1 : La (nwL h 48) h.2.1 48 (fun _ => 0) := nw_own hs
  have W1 : XW x S dr ra ba pa (nwL h 48) := W.nw
  have s1 := hs.nw (n := 48) w0
  have z1 : (nwL h 48).2 = (h.2.1 + 1, h.2.2 + 48) := rfl
  rw [B0_24, if_pos (show nI e < nI 3 by rw [nJ_lt (by omega) (by omega)]; exact he), newI_nw (by omega), obd_some, nI_mul]
  generalize nwL h 48 = h1 at A1 W1 s1 z1 ⊢
  generalize h.2.1 = r at A1 z1 ⊢
  -- the text
  have hw : ∃ f w h2, R 26 0 38 [some (.ref b), some (.ref x), some (.int (nI e)), some (.ref r), none, none, none, none, none, none, none, none, none, none, none, none, none, none, none, none, none, none, none, none, none, none, none, none, none, none, none, none, none, none, none, none, none, none, none, none, none, none] [.int (nI (8 * e))] h1 = R 26 0 68 [some (.ref b), some (.ref x), some (.int (nI e)), some (.ref r), some (.int (nI (8 * e))), none, none, none, none, none, none, none, none, none, none, none, none, none, none, none, none, none, none, none, none, none, none, none, none, none, none, none, none, none, none, none, none, none, none, none, none, none] [.int (nI (tText w).length)] h2 ∧ txOk w ∧ w.1.length * w.2.1.length ≤ 6 ∧ (tText w).length ≤ 120 ∧ WS x dr ra ba pa S b L xs r h1.2 f (tText w) h2 ∧ HdA f w.1.length w.2.1.length w.2.2.length ∧ PcA f w.1 ∧ YsA f 20 4 w.2.1 ∧ YsA f 36 6 w.2.2 := by
    have I1 : WS x dr ra ba pa S b L xs r h1.2 (fun _ => 0) [] h1 := ⟨⟨S, W1, hS, ⟨rfl, rfl, rfl⟩, ht1, ht2, ht3⟩, A1, s1, rfl⟩
    by_cases y : e = 2
    · obtain ⟨f, w, h2, e1, g1, g2, g3, g4, g5, g6, g7, g8, g9⟩ := m_write (av := 8 * e) hL (by omega) (show 0 < 2 by omega) (by omega) (show 0 < 3 by omega) (by omega) I1
      refine ⟨f, w, h2, ?_, g1, Nat.mul_le_mul g2 g3, g4, g5, g6, g7, g8, g9⟩
      have y2 : nI e = nI 2 := by rw [y]
      rw [B0_38, if_pos y2, B0_55, if_pos y2, e1]
      simp only [obd_some, obd_none, Option.toList_some, Option.toList_none, List.cons_append, List.nil_append, cond_true, cond_false]
    · obtain ⟨f, w, h2, e1, g1, g2, g3, g4, g5, g6, g7, g8, g9⟩ := m_write (av := 8 * e) hL (by omega) (show 0 < 3 by omega) (by omega) (show 0 < 2 by omega) (by omega) I1
      refine ⟨f, w, h2, ?_, g1, Nat.mul_le_mul g2 g3, g4, g5, g6, g7, g8, g9⟩
      have y2 : ¬ nI e = nI 2 := by rw [nI_inj (by omega) (by omega)]; exact y
      rw [B0_38, if_neg y2, B0_55, if_neg y2, e1]
      simp only [obd_some, obd_none, Option.toList_some, Option.toList_none, List.cons_append, List.nil_append, cond_true, cond_false]
  obtain ⟨f, w, h2, e2, g1, g2, g3, ⟨⟨S2, W2, hS2, ⟨m1, m2, m3⟩, t1, t2, t3⟩, A2, s2, z2⟩, g5, g6, g7, g8⟩ := hw
  rw [e2]
  have hlen : 0 < (tText w).length := Nat.succ_pos _
  -- the road
  obtain ⟨d0, q1, q2, q3, h3, dr3, ra3, ba3, pa3, e3, W3, K3⟩ := T_road W2 hS2 (nI 0) (nI 0) (nI 0) (nI (tText w).length)
  have er : rRoad S2 d0 (nI 0) (nI 0) (nI 0) (nI (tText w).length) = (nI (zn S2), addR (setF S2 0) (rdOf d0 w)) := by
    unfold rRoad
    rw [if_pos (show inN (nI 0) 4 from inN_of (by omega) (by omega)), if_pos (show inN (nI 0) 3 from inN_of (by omega) (by omega)), show (nI 0).toNatClampNeg = 0 from rfl, toNat_nI (show (tText w).length < 2147483648 by omega)]
    have ec : fCells (zS S2 0) (nI 0) (nI 0) (nI (tText w).length) = 0 := by
      unfold fCells
      rw [t1, t2, if_neg (fun z => by cases z), if_neg (show ¬ ¬ laneI (some 0) = nI 0 from fun z => z rfl), if_neg (nI_nneg (by omega)), if_pos]
      unfold inCs
      rw [toInt_nI (by omega), toInt_nI (by omega)]
      omega
    rw [if_pos ec, sText_t g1 (suf_T t3)]
    dsimp only
    rw [if_pos (show zn S2 < 3 by rw [m1, hzn]; exact he)]
  rw [er] at q3 e3 W3
  obtain ⟨R1, R2, R3, R4, R5, R6⟩ := rd_row q2 g1 g5 g6 g7 g8
  have hz3 : zn S2 = e := by rw [m1, hzn]
  have hD : zD (addR (setF S2 0) (rdOf d0 w)) e = rdOf d0 w := by
    show (if e = zn S2 then rdOf d0 w else zD S2 e) = _
    rw [if_pos hz3.symm]
  obtain ⟨n1, n2, -, -⟩ := rdOf_n d0 w
  refine ⟨addR (setF S2 0) (rdOf d0 w), h3, r, f, cellV L xs (8 * e + 7), rdOf d0 w, nI (tText w).length, ?_, ⟨⟨dr3, ra3, ba3, pa3, W3⟩, q3, K3.2.1 _ _ _ s2⟩, K3.1 _ _ _ A2, ⟨by show zn S2 + 1 = e + 1; rw [hz3], t1, t2, fun i hi => absurd hi (Nat.not_lt_zero i)⟩, hD, R1, by rw [n1, n2]; exact g2, R2, R3, R4, R5, R6, ?_⟩
  · rw [B0_68, if_neg (show ¬ nI (tText w).length < nI 1 by rw [nJ_lt (by omega) (by omega)]; omega), B0_82, xw_o W2, obd_some, e3]
    simp only [obd_some, obd_none, Option.toList_some, Option.toList_none, List.cons_append, List.nil_append, cond_true, cond_false]
    rw [B0_85, if_pos (show nI (zn S2) = nI e by rw [hz3]), nJ_add, m_cell (K3.2.1 _ _ _ s2) hL (by omega)]
    simp only [obd_some, obd_none, Option.toList_some, Option.toList_none, List.cons_append, List.nil_append, cond_true, cond_false]
  · obtain ⟨-, -, k1, k2, k3, k4⟩ := K3
    rw [z2, z1] at k1 k2 k3 k4
    exact ⟨by omega, by omega, by omega, by omega⟩
end LInit
