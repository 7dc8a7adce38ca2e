/-- how many rows a road has -/
def nRows (d : jRD) : Nat := (rB d + 1) ^ (rP d * rE d)
/-- what a Best remembers is of its road, with whoever was lame then -/
def BestOk (d : jRD) (rr ws lp lf : Int32) (A AJ : Nat → Nat → Int32) : Prop := GateIs d AJ 0 gs0 ∧ (ws = nI 0 ∨ (ws = nI 1 ∧ ∃ q, lp = lwho q ∧ lf = lfro q ∧ (∀ x, q = some x → x.1 < 4 ∧ x.2 < 6) ∧ TabIs A (acc (setL d q) (nRows d)).1 ∧ rr = bR (setL d q) (nRows d)))
section BOnce
variable {h : jHp} {b r : Nat} {d : jRD} {rr ws lp lf : Int32} {A AJ : Nat → Nat → Int32}
theorem c_onceMany (H : bEnv h b r d) (hM : many d) : mc 34 [.ref b] (bJ h b r rr ws lp lf A AJ) = some (some (.int (nI 0)), bJ h b r rr ws lp lf A AJ) := by
  have hr0 : RoadAt (bJ h b r rr ws lp lf A AJ) r d := be_road H
  rw [M34, bb_0, obd_some, rd_o hr0, obd_some, c_hasManyRows hr0 H.2.1, if_pos hM]
  simp only [obd_some, obd_none, Option.toList_some, Option.toList_none, List.cons_append, List.nil_append, cond_true, cond_false, B34_7]
  rw [if_neg (show ¬ nI 1 = 0 by decide)]
theorem c_searchOnce (H : bEnv h b r d) (hE : 0 < rE d) (hP : 0 < rP d) (hM : ¬ many d) (hB : BestOk d rr ws lp lf A AJ) :
    ∃ A2 AJ2, mc 34 [.ref b] (bJ h b r rr ws lp lf A AJ) = some (some (.int (nI 1)), bJ h b r (bR d (nRows d)) (nI 1) (lwho (rL d)) (lfro (rL d)) A2 AJ2) ∧ TabIs A2 (acc d (nRows d)).1 ∧ GateIs d AJ2 0 gs0 := by
  have hr0 : RoadAt (bJ h b r rr ws lp lf A AJ) r d := be_road H
  have hN : (rB d + 1) ^ (rP d * rE d) ≤ 65536 := Nat.le_of_not_lt hM
  obtain ⟨hG, hW⟩ := hB
  obtain ⟨A2, AJ2, e1, e2, e3⟩ := c_exploreAll (A := A) H hE hP hN hG
  have e0 := c_forgetAll (rr := rr) (ws := ws) (lp := lp) (lf := lf) (A := A) (AJ := AJ) H
  rw [M34, bb_0, obd_some, rd_o hr0, obd_some, c_hasManyRows hr0 H.2.1, if_neg hM]
  simp only [obd_some, obd_none, Option.toList_some, Option.toList_none, List.cons_append, List.nil_append, cond_true, cond_false, B34_7]
  rw [if_pos (show nI 0 = 0 from rfl), bb_3, obd_some]
  rcases hW with w0 | ⟨w1, q, rfl, rfl, hq, hT, hrr⟩
  · rw [if_pos (show ws = 0 from w0), bb_o, obd_some, e0]
    simp only [obd_some, obd_none, Option.toList_some, Option.toList_none, List.cons_append, List.nil_append, cond_true, cond_false, B34_41, bb_o]
    rw [cal_ok (by rw [rkE _ _ _ (by omega)]; omega) (Nat.le_of_ble_eq_true rfl), e1]
    simp only [obd_some, obd_none, Option.toList_some, Option.toList_none, List.cons_append, List.nil_append, cond_true, cond_false, B34_47]
    exact ⟨A2, AJ2, rfl, e2, e3⟩
  · rw [if_neg (show ¬ ws = 0 by rw [w1]; decide), bb_0, obd_some, bb_4, obd_some, bb_5, obd_some, rd_o hr0, obd_some, c_isLame hr0 H.2.1 hq]
    simp only [obd_some, obd_none, Option.toList_some, Option.toList_none, List.cons_append, List.nil_append, cond_true, cond_false, B34_34, b2i_0]
    by_cases e : rL d = q
    · rw [if_neg (fun z => z e), B34_47]
      subst e
      exact ⟨A, AJ, by rw [hrr, w1]; rfl, hT, hG⟩
    · rw [if_pos e, bb_o, obd_some, e0]
      simp only [obd_some, obd_none, Option.toList_some, Option.toList_none, List.cons_append, List.nil_append, cond_true, cond_false, B34_41, bb_o]
      rw [cal_ok (by rw [rkE _ _ _ (by omega)]; omega) (Nat.le_of_ble_eq_true rfl), e1]
      simp only [obd_some, obd_none, Option.toList_some, Option.toList_none, List.cons_append, List.nil_append, cond_true, cond_false, B34_47]
      exact ⟨A2, AJ2, rfl, e2, e3⟩
end BOnce
