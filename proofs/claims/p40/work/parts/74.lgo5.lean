/-! The law goes through a row: all of it. -/
theorem wrOn_lt {d : jRD} (hE : rE d ≤ 4) {c : Nat → Nat} {g mn : Nat} : ∀ m k w, wrOn d c g mn m k = some w → w ≤ 100 * (k + m) + 43
  | 0, k, w, h => by rw [wrOn] at h; cases h
  | m + 1, k, w, h => by
    rw [wrOn] at h
    cases e : fstW (whyN d (rowC d c k) k (sq d c g mn k)) (rE d) 0 with
    | some z =>
      rw [e] at h
      have h1 := fstW_le (whyN_le d (rowC d c k) k (sq d c g mn k)) _ _ z e
      have h2 : 100 * k + z = w := Option.some.inj h
      omega
    | none =>
      rw [e] at h
      have := wrOn_lt hE m (k + 1) w h
      omega
theorem hL_self {h : jHp} {q n : Nat} {f : Nat → Int32} (H : La h q n f) : hL h q n f = h := by
  unfold hL hset
  refine Prod.ext ?_ rfl
  funext t
  dsimp only
  by_cases e : t = q
  · rw [if_pos e, e, H.1]
  · rw [if_neg e]
theorem KpL.hL {h h0 : jHp} (w : wf h) (K : KpL h h0) {q n : Nat} {f0 : Nat → Int32} (Q : La h0 q n f0) (hq : h.2.1 ≤ q) (g : Nat → Int32) : KpL h (hL h0 q n g) :=
  ⟨fun p m f H => (K.1 p m f H).mvL (fun z => by have := H.lt w; omega) g, fun p m f H => (K.2.1 _ _ _ H).mvL Q g, fun x S dr ra ba pa W => (K.2.2.1 x S dr ra ba pa W).mvL Q g, fun w => wf_mvL (K.2.2.2.1 w) Q g, K.2.2.2.2.1, K.2.2.2.2.2⟩
theorem m_go {h : jHp} {d : jRD} {c : Nat → Nat} {r a b L : Nat} {fr fa xs : Nat → Int32} (w : wf h) (Hs : Sa h b L xs) (Hr : La h r 48 fr) (hr : RdA d fr) (Ha : La h a 24 fa) (hf : CtA d c fa) (hd : rdOk d) (hE : 0 < rE d) (hc : ∀ i, c i ≤ rB d) :
    ∃ q h' g, mc 96 [.ref r, .ref a, .int (nI 0), .int (nI 0)] h = some (some (.ref q), h') ∧ La h' q 60 g ∧ KpL h h' ∧ h.2.1 ≤ q ∧ h'.2.1 ≤ h.2.1 + 3 ∧ h'.2.2 ≤ h.2.2 + 64 ∧ ((wrOn d c 0 0 (rP d) 0 = none ∧ g 56 = -nI 9 ∧ OutA d (sq d c 0 0 (rP d)) g) ∨ (¬ wrOn d c 0 0 (rP d) 0 = none ∧ ¬ g 56 < 0)) := by
  have h6 := hd.1
  have h4 := hd.2.1
  have rl := Hr.lt w
  have al := Ha.lt w
  have O0 : La (nwL h 60) h.2.1 60 (fun _ => 0) := nw_own Hs
  have w0 : wf (nwL h 60) := wf_nw w
  have S0 : Sa (nwL h 60) b L xs := Hs.nw w
  have K0 : KpL h (nwL h 60) := KpL.nw 60 w
  have z0 : (nwL h 60).2 = (h.2.1 + 1, h.2.2 + 60) := rfl
  have G : GoE (nwL h 60) d c r a h.2.1 fr fa := ⟨⟨Hr.nw w, by omega⟩, ⟨Ha.nw w, by omega⟩, ⟨_, O0⟩, hr, hf⟩
  obtain ⟨g1, q1, q2, q3⟩ := l_gk G hd hE hc (nI 0) (nI 0) (rP d) 0 (upd (fun _ => 0) 56 (-nI 9)) (by omega) (fun i hi => absurd hi (Nat.not_lt_zero i)) (upd_s _ _ _)
  rw [M96, newI_nw (by omega), obd_some, la_w _ O0 (by omega) (by omega), obd_some, B96_15, la_r (G.xr _) (by omega) (by omega), obd_some, hr.2.1, B96_21, q1, B96_311, la_r (G.xo g1) (by omega) (by omega), obd_some, q2]
  generalize nwL h 60 = h0 at O0 w0 S0 K0 z0 G ⊢
  have O1 : La (hL h0 h.2.1 60 g1) h.2.1 60 g1 := O0.own g1
  have w1 : wf (hL h0 h.2.1 60 g1) := wf_mvL w0 O0 g1
  have S1 : Sa (hL h0 h.2.1 60 g1) b L xs := S0.mvL O0 g1
  have K1 : KpL h (hL h0 h.2.1 60 g1) := K0.hL w O0 (Nat.le_refl _) g1
  have z1 : (hL h0 h.2.1 60 g1).2 = (h.2.1 + 1, h.2.2 + 60) := z0
  cases e : wrOn d c 0 0 (rP d) 0 with
  | some y =>
    rw [e] at q2
    refine ⟨h.2.1, hL h0 h.2.1 60 g1, g1, ?_, O1, K1, Nat.le_refl _, by rw [z1]; omega, by rw [z1]; omega, Or.inr ⟨(fun z => by cases z), ?_⟩⟩
    · have hy : 100 * 0 + y < 2147483648 := by
        have := wrOn_lt hd.2.1 _ _ _ e
        omega
      rw [if_neg (show ¬ cmW 0 (some y) < 0 from nI_nneg hy)]
    · have hy : 100 * 0 + y < 2147483648 := by
        have := wrOn_lt hd.2.1 _ _ _ e
        omega
      rw [q2]
      exact nI_nneg hy
  | none =>
    rw [e] at q2
    have r1 : La (hL h0 h.2.1 60 g1) r 48 fr := G.xr g1
    have a1 : La (hL h0 h.2.1 60 g1) a 24 fa := G.xa g1
    rw [if_pos (show cmW 0 none < 0 by decide), newI_nw (by omega), obd_some, newI_nw (by omega), obd_some, B96_330, B96_333]
    generalize hL h0 h.2.1 60 g1 = h1 at O1 w1 S1 K1 z1 r1 a1 ⊢
    have w2 : wf (nwL h1 2) := wf_nw w1
    have S2 : Sa (nwL h1 2) b L xs := S1.nw w1
    have U2 : La (nwL h1 2) h1.2.1 2 (fun _ => 0) := nw_own S1
    have V3 : La (nwL (nwL h1 2) 2) (nwL h1 2).2.1 2 (fun _ => 0) := nw_own S2
    have U3 : La (nwL (nwL h1 2) 2) h1.2.1 2 (fun _ => 0) := U2.nw w2
    have O3 : La (nwL (nwL h1 2) 2) h.2.1 60 g1 := (O1.nw w1).nw w2
    have w3 : wf (nwL (nwL h1 2) 2) := wf_nw w2
    have K3 : KpL h (nwL (nwL h1 2) 2) := (K1.tr (KpL.nw 2 w1)).tr (KpL.nw 2 w2)
    have z2 : h1.2.1 = h.2.1 + 1 := by rw [z1]
    have z3 : (nwL h1 2).2.1 = h.2.1 + 2 := by show h1.2.1 + 1 = _; omega
    have z4 : (nwL (nwL h1 2) 2).2.1 = h.2.1 + 3 := by show h1.2.1 + 1 + 1 = _; omega
    have z5 : (nwL (nwL h1 2) 2).2.2 = h.2.2 + 64 := by show h1.2.2 + 2 + 2 = _; rw [z1]
    have r3 : La (nwL (nwL h1 2) 2) r 48 fr := (r1.nw w1).nw w2
    have a3 : La (nwL (nwL h1 2) 2) a 24 fa := (a1.nw w1).nw w2
    rw [z3] at V3
    rw [z2] at U3
    rw [z3, z2]
    generalize nwL (nwL h1 2) 2 = h3 at V3 U3 O3 w3 K3 z4 z5 r3 a3 ⊢
    have F : GoF h3 d c r a h.2.1 (h.2.1 + 1) (h.2.1 + 2) fr fa := ⟨⟨r3, by omega, by omega, by omega⟩, ⟨a3, by omega, by omega, by omega⟩, ⟨_, O3⟩, ⟨_, U3⟩, ⟨_, V3⟩, ⟨by omega, by omega, by omega⟩, hr, hf⟩
    have eG : hG h3 h.2.1 (h.2.1 + 1) (h.2.1 + 2) g1 (fun _ => 0) (fun _ => 0) = h3 := by
      unfold hG
      rw [hL_self O3, hL_self U3, hL_self V3]
    have hp : pre d c (rP d) := fun i hi => (wrOn_none (d := d) (c := c) (rP d) 0 ▸ e) i (Nat.zero_le i) (by omega)
    have g1t : ∀ t, t ≠ 56 → g1 t = nI 0 := fun t ht => (q3 t ht).trans (upd_n ht)
    obtain ⟨g2, cm2, sn2, s1, s2, s3⟩ := l_g2 F hd hc hp (nI 0) (rP d) 0 g1 (fun _ => 0) (fun _ => 0) (by omega) ⟨fun p h1 => g1t _ (by omega), fun p h1 => g1t _ (by omega), ⟨g1t _ (by omega), q2⟩, fun b _ => ⟨fun m hm => by
      have hm : some 0 = some m := hm
      cases hm; rfl, rfl⟩⟩
    rw [eG] at s1
    refine ⟨h.2.1, _, g2, s1, F.xo g2 cm2 sn2, ?_, Nat.le_refl _, by show h3.2.1 ≤ _; omega, by show h3.2.2 ≤ _; omega, Or.inl ⟨rfl, s3, s2⟩⟩
    obtain ⟨n1, n2, n3⟩ := F.2.2.2.2.2.1
    have A1 := K3.hL w O3 (Nat.le_refl _) g2
    have U4 : La (hL h3 h.2.1 60 g2) (h.2.1 + 1) 2 (fun _ => 0) := U3.mvL (fun z => n1 z.symm) g2
    have V4 : La (hL h3 h.2.1 60 g2) (h.2.1 + 2) 2 (fun _ => 0) := V3.mvL (fun z => n2 z.symm) g2
    have A2 := A1.hL w U4 (by omega) cm2
    have V5 := V4.mvL (q := h.2.1 + 1) (n := 2) (fun z => n3 z.symm) cm2
    exact A2.hL w V5 (by omega) sn2
