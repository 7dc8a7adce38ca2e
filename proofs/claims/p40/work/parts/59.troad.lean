/-! A new road. -/
def addR (S : jST) (d : jRD) : jST := (zn S + 1, fun j => if j = zn S then d else zD S j, zg S, zm S, zP S, zS S, zt S, zf S)
def rRoad (S : jST) (d0 : jRD) (k l i n : Int32) : Int32 × jST := if inN k 4 then (if inN l 3 then (if fCells (zS S k.toNatClampNeg) l i n = 0 then (match sText (cdOf (sC (zS S k.toNatClampNeg)) i.toNatClampNeg n.toNatClampNeg) n.toNatClampNeg with
    | .inl t => (-nI 100 - nI t, setF S 0)
    | .inr w => if zn S < 3 then (nI (zn S), addR (setF S 0) (rdOf d0 w)) else (-nI 4, setF S 0)) else (fI (fCells (zS S k.toNatClampNeg) l i n), setF S (fCells (zS S k.toNatClampNeg) l i n))) else (-nI 2, setF S 0)) else (-nI 1, setF S 0)
def Gw (x : Nat) (S' : jST) (h : jHp) (r : jRs) (v : Value) : Prop := ∃ h' dr ra ba pa, r = some (some v, h') ∧ XW x S' dr ra ba pa h' ∧ Keep h h'
theorem Gv.w {x dr : Nat} {ra ba pa : Nat → Nat} {S' : jST} {h : jHp} {r : jRs} {v : Value} (H : Gv x dr ra ba pa S' h r v) : Gw x S' h r v := by
  obtain ⟨h', e, W, K⟩ := H
  exact ⟨h', dr, ra, ba, pa, e, W, K.keep⟩
theorem fCells_0 {d : jSD} {l i n : Int32} (h : fCells d l i n = 0) : inCs i n (sN d) ∧ laneI (sL d) = l := by
  unfold fCells at h
  by_cases a : sL d = none
  · rw [if_pos a] at h; omega
  · rw [if_neg a] at h
    by_cases b : laneI (sL d) = l
    · rw [if_neg (not_not_intro b)] at h
      by_cases c : n < 0
      · rw [if_pos c] at h; omega
      · rw [if_neg c] at h
        by_cases e : inCs i n (sN d)
        · exact ⟨e, b⟩
        · rw [if_neg e] at h; omega
    · rw [if_pos b] at h; omega
theorem fCells_le (d : jSD) (l i n : Int32) : fCells d l i n ≤ 4 := by
  unfold fCells
  by_cases a : sL d = none
  · rw [if_pos a]; omega
  · rw [if_neg a]
    by_cases b : laneI (sL d) = l
    · rw [if_neg (not_not_intro b)]
      by_cases c : n < 0
      · rw [if_pos c]; omega
      · rw [if_neg c]
        by_cases e : inCs i n (sN d)
        · rw [if_pos e]; omega
        · rw [if_neg e]; omega
    · rw [if_pos b]; omega
theorem inCs_nI {d : jSD} (hd : sdOk d) {i n : Int32} (h : inCs i n (sN d)) : ∃ a b, i = nI a ∧ n = nI b ∧ a + b ≤ sN d := by
  have h1 := hd.1
  obtain ⟨a1, a2, a3⟩ := h
  obtain ⟨a, ha, rfl⟩ := inN_nI (k := i) (n := 121) ⟨a1, by omega⟩
  obtain ⟨b, hb, rfl⟩ := inN_nI (k := n) (n := 121) ⟨a2, by omega⟩
  rw [toInt_nI (by omega), toInt_nI (by omega)] at a3
  exact ⟨a, b, rfl, rfl, by omega⟩
theorem stOk_R {S : jST} (hS : stOk S) (hn : zn S < 3) {d : jRD} (hd : rdGo d) : stOk (addR S d) := by
  obtain ⟨s1, s2, s3, s4, s5, s6, s7⟩ := hS
  refine ⟨hn, s2, s3, s4, fun i hi => ?_, fun q hq => ?_, s7⟩
  · have hi : i < zn S + 1 := hi
    show rdGo (if i = zn S then d else zD S i)
    by_cases c : i = zn S
    · rw [if_pos c]; exact hd
    · rw [if_neg c]; exact s5 i (by omega)
  · obtain ⟨g1, g2⟩ := s6 q hq
    refine ⟨Nat.lt_succ_of_lt g1, ?_⟩
    show plOk (if pX (zP S q) = zn S then d else zD S (pX (zP S q))) (zP S q)
    rw [if_neg (by omega)]; exact g2
theorem Z0_zA : Z0 zA := ⟨fun _ _ => ⟨rfl, rfl⟩, fun _ _ => ⟨rfl, rfl, rfl⟩, rfl, rfl⟩
theorem xF_R (x : Nat) (S : jST) (d : jRD) (dr r1 : Nat) : updV (updV (xF x S dr) 5 (.ref r1)) 6 (.int (nI (zn S + 1))) = xF x (addR S d) r1 := by
  funext k; unfold updV
  by_cases e : k = 6
  · subst e; rfl
  · rw [if_neg e]
    by_cases e5 : k = 5
    · subst e5; rfl
    · rw [if_neg e5]
      match k, e, e5 with
      | 0, _, _ => rfl
      | 1, _, _ => rfl
      | 2, _, _ => rfl
      | 3, _, _ => rfl
      | 4, _, _ => rfl
      | 7, _, _ => rfl
      | 8, _, _ => rfl
      | 9, _, _ => rfl
      | 10, _, _ => rfl
      | k + 11, _, _ => rfl
section TRoad
variable {x dr : Nat} {S : jST} {ra ba pa : Nat → Nat} {h : jHp}
theorem XW.draft (W : XW x S dr ra ba pa h) {d : jRD} (hd : rdOk d) (hL : rL d = none) : XW x S dr ra ba pa (hX 4 h dr (rdF d) (roA d)) ∧ KeepP h (hX 4 h dr (rdF d) (roA d)) := by
  obtain ⟨w1, ⟨r1, r2, r3, r4⟩, ⟨q, w3⟩, ⟨d0, B, w4b⟩, w5, w6, w7, w8, w9, w⟩ := W
  exact ⟨⟨w1.mvc B (by decide) _ _, ⟨tb_mv r1 B _ _, tb_mv r2 B _ _, tb_mv r3 B _ _, tb_mv r4 B _ _⟩, ⟨q, w3.mvc B (by decide) _ _⟩, ⟨d, At.own _ _ _ _ _, hd, hL⟩, fun i hi => (w5 i hi).mv B (w9.2.1 i hi) _ _, fun i hi => (w6 i hi).mvc B (by decide) (by decide), fun i hi => (w7 i hi).mvc B (by decide) (by decide), fun k hk => (w8 k hk).mvc B (by decide) _ _, w9, wf_mv w B _ _⟩, (Keep0.mv B (by decide) _ _).P⟩
theorem XW.addRoad (W : XW x S dr ra ba pa h) (hS : stOk S) {g1 g2 : Nat → Option Nat} {b0 r1 : Nat} {d : jRD} (e1 : h.1 (x + 1) = some (cR 4 3 g1)) (k1 : g1 (zn S) = some dr) (e2 : h.1 (x + 2) = some (cR 0 3 g2)) (k2 : g2 (zn S) = some b0)
    (B : BestAt h b0 dr d) (D : RoadAt h dr d) (N : RoadAt h r1 rd0) (n1 : r1 ≠ dr) (n2 : ∀ i, i < zn S → r1 ≠ ra i) (n3 : ∀ i, i < zn S → b0 ≠ ba i) :
    XW x (addR S d) r1 (fun j => if j = zn S then dr else ra j) (fun j => if j = zn S then b0 else ba j) pa (hX 7 h x (xF x (addR S d) r1) zA) := by
  obtain ⟨w1, ⟨⟨q1, t1, u1⟩, ⟨q2, t2, u2⟩, r3, r4⟩, ⟨q, w3⟩, _, w5, w6, w7, w8, w9, w⟩ := W
  have a1 : q1 = g1 := by
    have e3 : (cR 4 3 q1) = cR 4 3 g1 := Option.some.inj (t1.symm.trans e1)
    have e4 : (4, 3, q1) = (4, 3, g1) := Sum.inl.inj (Sum.inr.inj (Sum.inr.inj e3))
    exact congrArg (fun z => z.2.2) e4
  have a2 : q2 = g2 := by
    have e3 : (cR 0 3 q2) = cR 0 3 g2 := Option.some.inj (t2.symm.trans e2)
    have e4 : (0, 3, q2) = (0, 3, g2) := Sum.inl.inj (Sum.inr.inj (Sum.inr.inj e3))
    exact congrArg (fun z => z.2.2) e4
  subst a1 a2
  have lt : ∀ i, i < zn (addR S d) → ¬ i = zn S → i < zn S := fun i hi c => by have hi : i < zn S + 1 := hi; omega
  refine ⟨At.own _ _ _ _ _, ⟨⟨q1, cR_mv t1 w1 _ _, fun i hi => ?_⟩, ⟨q2, cR_mv t2 w1 _ _, fun i hi => ?_⟩, tb_mv r3 w1 _ _, tb_mv r4 w1 _ _⟩, ⟨q, w3.mvc w1 (by decide) _ _⟩, ⟨rd0, N.mvc w1 (by decide) _ _, ⟨by decide, by decide, by decide, fun _ => Nat.zero_le _, fun _ => Nat.zero_le _, fun _ => Nat.zero_le _, fun _ => Nat.zero_le _, fun q z => by cases z⟩, rfl⟩, fun i hi => ?_, fun i hi => ?_, fun i hi => ?_, fun k hk => (w8 k hk).mvc w1 (by decide) _ _, ⟨fun i j hi hj => ?_, fun i hi => ?_, fun i j hi hj => ?_, w9.2.2.2⟩, wf_mv w w1 _ _⟩
  · dsimp only
    by_cases c : i = zn S
    · subst c; rw [if_pos rfl]; exact k1
    · rw [if_neg c]; exact u1 i (lt i hi c)
  · dsimp only
    by_cases c : i = zn S
    · subst c; rw [if_pos rfl]; exact k2
    · rw [if_neg c]; exact u2 i (lt i hi c)
  · show RoadAt _ (if i = zn S then dr else ra i) (if i = zn S then d else zD S i)
    by_cases c : i = zn S
    · rw [if_pos c, if_pos c]; exact D.mvc w1 (by decide) _ _
    · rw [if_neg c, if_neg c]; exact (w5 i (lt i hi c)).mvc w1 (by decide) _ _
  · show BestAt _ (if i = zn S then b0 else ba i) (if i = zn S then dr else ra i) (if i = zn S then d else zD S i)
    by_cases c : i = zn S
    · rw [if_pos c, if_pos c, if_pos c]; exact B.mvc w1 (by decide) (by decide)
    · rw [if_neg c, if_neg c, if_neg c]; exact (w6 i (lt i hi c)).mvc w1 (by decide) (by decide)
  · have hx := (hS.2.2.2.2.2.1 i hi).1
    show PlanAt _ (pa i) (if pX (zP S i) = zn S then dr else ra (pX (zP S i))) (zP S i)
    rw [if_neg (by omega)]
    exact (w7 i hi).mvc w1 (by decide) (by decide)
  · dsimp only
    by_cases c : i = zn S
    · rw [if_pos c]
      by_cases c2 : j = zn S
      · rw [if_pos c2]; exact fun _ => c.trans c2.symm
      · rw [if_neg c2]; exact fun z => absurd z.symm (w9.2.1 j (lt j hj c2))
    · rw [if_neg c]
      by_cases c2 : j = zn S
      · rw [if_pos c2]; exact fun z => absurd z (w9.2.1 i (lt i hi c))
      · rw [if_neg c2]; exact w9.1 i j (lt i hi c) (lt j hj c2)
  · dsimp only
    by_cases c : i = zn S
    · rw [if_pos c]; exact fun z => n1 z.symm
    · rw [if_neg c]; exact fun z => n2 i (lt i hi c) z.symm
  · dsimp only
    by_cases c : i = zn S
    · rw [if_pos c]
      by_cases c2 : j = zn S
      · rw [if_pos c2]; exact fun _ => c.trans c2.symm
      · rw [if_neg c2]; exact fun z => absurd z (n3 j (lt j hj c2))
    · rw [if_neg c]
      by_cases c2 : j = zn S
      · rw [if_pos c2]; exact fun z => absurd z.symm (n3 i (lt i hi c))
      · rw [if_neg c2]; exact w9.2.2.1 i j (lt i hi c) (lt j hj c2)
end TRoad
