/-! The law's world: the object, the script, its own arrays. -/
def LW (x : Nat) (S : jST) (b L : Nat) (xs : Nat → Int32) (h : jHp) : Prop := (∃ dr ra ba pa, XW x S dr ra ba pa h) ∧ stOk S ∧ Sa h b L xs
/-- its row of the road, and six arrays one behind another -/
def Av (h : jHp) (r p : Nat) (fr : Nat → Int32) (F : Nat → Nat → Int32) : Prop := La h r 48 fr ∧ (∀ i, i < 6 → La h (p + i) 6 (F i)) ∧ r < p
def WL (x : Nat) (S : jST) (b L : Nat) (xs : Nat → Int32) (r p : Nat) (fr : Nat → Int32) (F : Nat → Nat → Int32) (h : jHp) : Prop := LW x S b L xs h ∧ Av h r p fr F
theorem LW.wf {x : Nat} {S : jST} {b L : Nat} {xs : Nat → Int32} {h : jHp} (I : LW x S b L xs h) : wf h := by
  obtain ⟨⟨dr, ra, ba, pa, W⟩, -⟩ := I
  exact xw_wf W
theorem LW.o {x : Nat} {S : jST} {b L : Nat} {xs : Nat → Int32} {h : jHp} (I : LW x S b L xs h) : ∃ F, gO h x 7 = some F := by
  obtain ⟨⟨dr, ra, ba, pa, W⟩, -⟩ := I
  exact ⟨_, xw_o W⟩
theorem LW.kp {x : Nat} {S : jST} {b L : Nat} {xs : Nat → Int32} {h h' : jHp} (I : LW x S b L xs h) (K : KpL h h') : LW x S b L xs h' := by
  obtain ⟨⟨dr, ra, ba, pa, W⟩, hS, s⟩ := I
  exact ⟨⟨dr, ra, ba, pa, K.2.2.1 _ _ _ _ _ _ W⟩, hS, K.2.1 _ _ _ s⟩
theorem LW.mvL {x : Nat} {S : jST} {b L : Nat} {xs : Nat → Int32} {h : jHp} (I : LW x S b L xs h) {q n : Nat} {f0 : Nat → Int32} (K : La h q n f0) (g : Nat → Int32) : LW x S b L xs (hL h q n g) := by
  obtain ⟨⟨dr, ra, ba, pa, W⟩, hS, s⟩ := I
  exact ⟨⟨dr, ra, ba, pa, W.mvL K g⟩, hS, s.mvL K g⟩
theorem LW.call {x : Nat} {S S' : jST} {b L : Nat} {xs : Nat → Int32} {h : jHp} {rc : jRs} {v : Value} (I : LW x S b L xs h) (hS' : stOk S') (T : ∀ dr ra ba pa, XW x S dr ra ba pa h → Gv x dr ra ba pa S' h rc v) : ∃ h', rc = some (some v, h') ∧ LW x S' b L xs h' ∧ Keep0 h h' := by
  obtain ⟨⟨dr, ra, ba, pa, W⟩, hS, s⟩ := I
  obtain ⟨h', e, W', K⟩ := T dr ra ba pa W
  exact ⟨h', e, ⟨⟨dr, ra, ba, pa, W'⟩, hS', K.2.1 _ _ _ s⟩, K⟩
section WL
variable {x : Nat} {S : jST} {b L : Nat} {xs : Nat → Int32} {r p : Nat} {fr : Nat → Int32} {F : Nat → Nat → Int32} {h h' : jHp}
theorem Av.kp (A : Av h r p fr F) (K : ∀ q n f, La h q n f → La h' q n f) : Av h' r p fr F := ⟨K _ _ _ A.1, fun i hi => K _ _ _ (A.2.1 i hi), A.2.2⟩
theorem WL.kp (I : WL x S b L xs r p fr F h) (K : KpL h h') : WL x S b L xs r p fr F h' := ⟨I.1.kp K, I.2.kp K.1⟩
theorem WL.get (I : WL x S b L xs r p fr F h) {i k : Nat} (hi : i < 6) (hk : k < 6) : alI h (p + i) (nI k) = some (F i k) := la_r (I.2.2.1 i hi) hk (by omega)
theorem WL.rr (I : WL x S b L xs r p fr F h) {k : Nat} (hk : k < 48) : alI h r (nI k) = some (fr k) := la_r I.2.1 hk (by omega)
theorem WL.set (I : WL x S b L xs r p fr F h) {i k : Nat} (v : Int32) (hi : i < 6) (hk : k < 6) : asI h (p + i) (nI k) v = some (hL h (p + i) 6 (upd (F i) k v)) ∧ WL x S b L xs r p fr (updA F i (upd (F i) k v)) (hL h (p + i) 6 (upd (F i) k v)) := by
  have hr := I.2.2.2
  refine ⟨la_w v (I.2.2.1 i hi) hk (by omega), I.1.mvL (I.2.2.1 i hi) _, I.2.1.mvL (by omega) _, fun j hj => ?_, hr⟩
  by_cases e : j = i
  · subst e
    rw [updA_s]
    exact (I.2.2.1 j hj).own _
  · rw [updA_n e]
    exact (I.2.2.1 j hj).mvL (by omega) _
theorem WL.put (I : WL x S b L xs r p fr F h) {i k : Nat} (v : Int32) (hi : i < 6) (hk : k < 6) : ∃ h' F', asI h (p + i) (nI k) v = some h' ∧ WL x S b L xs r p fr F' h' ∧ F' i k = v ∧ (∀ i' j, i' ≠ i ∨ j ≠ k → F' i' j = F i' j) ∧ h'.2 = h.2 ∧ ∀ q m f, p + 6 ≤ q → La h q m f → La h' q m f := by
  obtain ⟨e, I'⟩ := I.set v hi hk
  refine ⟨_, _, e, I', by rw [updA_s, upd_s], fun i' j hj => ?_, rfl, fun q m f hq Q => Q.mvL (by omega) _⟩
  by_cases c : i' = i
  · subst c
    rw [updA_s, upd_n]
    rcases hj with z | z
    · exact absurd rfl z
    · exact z
  · rw [updA_n c]
theorem WL.call (I : WL x S b L xs r p fr F h) {rc : jRs} {v : Value} (T : ∀ dr ra ba pa, XW x S dr ra ba pa h → Gv x dr ra ba pa S h rc v) : ∃ h', rc = some (some v, h') ∧ WL x S b L xs r p fr F h' ∧ Keep0 h h' := by
  obtain ⟨h', e, I', K⟩ := I.1.call I.1.2.1 T
  exact ⟨h', e, ⟨I', I.2.kp K.1⟩, K⟩
end WL
/-- six new arrays -/
def nw6 (h : jHp) : jHp := nwL (nwL (nwL (nwL (nwL (nwL h 6) 6) 6) 6) 6) 6
theorem Av.new {h : jHp} {r b L : Nat} {fr xs : Nat → Int32} (w : wf h) (s : Sa h b L xs) (H : La h r 48 fr) : Av (nw6 h) r h.2.1 fr (fun _ _ => 0) ∧ KpL h (nw6 h) ∧ (nw6 h).2 = (h.2.1 + 6, h.2.2 + 36) := by
  have w1 := wf_nw (n := 6) w
  have w2 := wf_nw (n := 6) w1
  have w3 := wf_nw (n := 6) w2
  have w4 := wf_nw (n := 6) w3
  have w5 := wf_nw (n := 6) w4
  have s1 := s.nw (n := 6) w
  have s2 := s1.nw (n := 6) w1
  have s3 := s2.nw (n := 6) w2
  have s4 := s3.nw (n := 6) w3
  have s5 := s4.nw (n := 6) w4
  have K : KpL h (nw6 h) := (((((KpL.nw 6 w).tr (KpL.nw 6 w1)).tr (KpL.nw 6 w2)).tr (KpL.nw 6 w3)).tr (KpL.nw 6 w4)).tr (KpL.nw 6 w5)
  refine ⟨⟨K.1 _ _ _ H, fun i hi => ?_, H.lt w⟩, K, rfl⟩
  rcases (by omega : i = 0 ∨ i = 1 ∨ i = 2 ∨ i = 3 ∨ i = 4 ∨ i = 5) with rfl | rfl | rfl | rfl | rfl | rfl
  · exact (((((nw_own s).nw w1).nw w2).nw w3).nw w4).nw w5
  · exact ((((nw_own s1).nw w2).nw w3).nw w4).nw w5
  · exact (((nw_own s2).nw w3).nw w4).nw w5
  · exact ((nw_own s3).nw w4).nw w5
  · exact (nw_own s4).nw w5
  · exact nw_own s5
/-- the best of the rows below n by the k-th of the law's six ways -/
def tK (few k : Nat) : Nat := if k < 3 then 100 else few
def OpA (d : jRD) (F : Nat → Nat → Int32) (k : Nat) (o : Option Nat) : Prop := match o with
  | none => F 0 k = -nI 9
  | some w => F 0 k = nI w ∧ F 1 k = nI (rec4 d w (k % 3)) ∧ F 2 k = nI (rec4 d w 0) ∧ F 3 k = nI (rec4 d w 3) ∧ F 4 k = nI (rec4 d w 1) ∧ F 5 k = nI (rec4 d w 2)
def BkI (d : jRD) (few n : Nat) (F : Nat → Nat → Int32) (k : Nat) : Prop := ∃ o, bstP d (k % 3) (tK few k) n o ∧ OpA d F k o
theorem OpA.same {d : jRD} {F F' : Nat → Nat → Int32} {k : Nat} {o : Option Nat} (H : OpA d F k o) (h : ∀ i, F' i k = F i k) : OpA d F' k o := by
  cases o with
  | none => exact (h 0).trans H
  | some w => exact ⟨(h 0).trans H.1, (h 1).trans H.2.1, (h 2).trans H.2.2.1, (h 3).trans H.2.2.2.1, (h 4).trans H.2.2.2.2.1, (h 5).trans H.2.2.2.2.2⟩
