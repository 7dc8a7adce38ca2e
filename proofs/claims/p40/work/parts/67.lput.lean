/-! The law's text, put cell by cell; numbers. -/
def TS (S : jST) (T : List Nat) : Prop := sL (zS S 0) = some 0 ∧ sN (zS S 0) = 120 ∧ ∀ i, i < T.length → sC (zS S 0) i = nI (T.getD i 0)
def SmR (S S' : jST) : Prop := zn S' = zn S ∧ zD S' = zD S ∧ zm S' = zm S
def TW (x dr : Nat) (ra ba pa : Nat → Nat) (S0 : jST) (T : List Nat) (h : jHp) : Prop := ∃ S, XW x S dr ra ba pa h ∧ stOk S ∧ SmR S0 S ∧ TS S T
theorem cut0 {c : Nat} (hc : c < 128) : cutL (some 0) (nI c) = nI c := by
  have h : ∀ c : Fin 128, cutL (some 0) (nI c.1) = nI c.1 := by decide +kernel
  exact h ⟨c, hc⟩
theorem getD_l {α : Type} {X Y : List α} {i : Nat} (d : α) (h : i < X.length) : (X ++ Y).getD i d = X.getD i d := by
  rw [List.getD_eq_getElem?_getD, List.getD_eq_getElem?_getD, List.getElem?_append_left h]
theorem getD_r {α : Type} {X Y : List α} {i : Nat} (d : α) (h : X.length ≤ i) : (X ++ Y).getD i d = Y.getD (i - X.length) d := by
  rw [List.getD_eq_getElem?_getD, List.getD_eq_getElem?_getD, List.getElem?_append_right h]
theorem getD_s {α : Type} (X : List α) (c d : α) : (X ++ [c]).getD X.length d = c := by
  rw [getD_r d (Nat.le_refl _), Nat.sub_self]; rfl
section LPut
variable {x dr : Nat} {ra ba pa : Nat → Nat} {S0 : jST} {T : List Nat} {h : jHp}
theorem m_put {c : Nat} (I : TW x dr ra ba pa S0 T h) (hc : c < 128) (hT : T.length < 120) : ∃ h', mc 101 [.ref x, .int (nI T.length), .int (nI c)] h = some (some (.int (nI (T.length + 1))), h') ∧ TW x dr ra ba pa S0 (T ++ [c]) h' ∧ Keep0 h h' := by
  obtain ⟨S, W, hS, ⟨a1, a2, a3⟩, t1, t2, t3⟩ := I
  obtain ⟨h', e, W', K⟩ := T_put W hS (nI 0) (nI T.length) (nI c)
  have er : rPut S (nI 0) (nI T.length) (nI c) = (nI 1, setS (setF S 0) 0 (setC (zS S 0) T.length (nI c))) := by
    unfold rPut
    rw [if_pos (show inN (nI 0) 4 from inN_of (by omega) (by omega)), show (nI 0).toNatClampNeg = 0 from rfl, if_neg (show ¬ sL (zS S 0) = none by rw [t1]; exact fun z => by cases z), if_pos (show inN (nI T.length) (sN (zS S 0)) by rw [t2]; exact inN_of hT (by omega)), toNat_nI (show T.length < 2147483648 by omega), t1, cut0 hc]
  rw [er] at e W'
  have e0 : zS (setS (setF S 0) 0 (setC (zS S 0) T.length (nI c))) 0 = setC (zS S 0) T.length (nI c) := by
    show (if (0 : Nat) = 0 then setC (zS S 0) T.length (nI c) else zS (setF S 0) 0) = _
    rw [if_pos rfl]
  refine ⟨h', ?_, ⟨_, W', stOk_S (stOk_F hS (by omega)) (hS.2.2.2.2.2.2 0 (by omega)), ⟨a1, a2, a3⟩, ?_⟩, K⟩
  · rw [M101, if_neg (nI_nneg (show T.length < 2147483648 by omega)), xw_o W, obd_some, e]
    simp only [obd_some, obd_none, Option.toList_some, Option.toList_none, List.cons_append, List.nil_append, cond_true, cond_false]
    rw [B101_11, if_pos rfl, nJ_add]
  · unfold TS
    rw [e0]
    refine ⟨t1, t2, fun i hi => ?_⟩
    rw [List.length_append, List.length_cons, List.length_nil] at hi
    show upd (sC (zS S 0)) T.length (nI c) i = _
    by_cases q : i = T.length
    · subst q; rw [upd_s, getD_s]
    · rw [upd_n q, t3 i (by omega), getD_l 0 (by omega)]
theorem m_num {v : Nat} (I : TW x dr ra ba pa S0 T h) (hv : v ≤ 99) (hT : T.length + 2 ≤ 120) : ∃ h', mc 105 [.ref x, .int (nI T.length), .int (nI v)] h = some (some (.int (nI (T ++ tNum v).length)), h') ∧ TW x dr ra ba pa S0 (T ++ tNum v) h' ∧ Keep0 h h' := by
  unfold tNum
  rw [M105]
  have h10 : ¬ (nI 10 = 0) := by decide
  by_cases e : 9 < v
  · rw [if_pos (show nI 9 < nI v by rw [nJ_lt (by omega) (by omega)]; exact e), if_neg h10, nI_div (by omega) (by omega), nJ_add]
    obtain ⟨h1, e1, I1, K1⟩ := m_put (c := 48 + v / 10) I (by omega) (by omega)
    rw [e1]
    simp only [obd_some, obd_none, Option.toList_some, Option.toList_none, List.cons_append, List.nil_append, cond_true, cond_false]
    rw [B105_18, B105_22, if_neg h10, nI_mod (by omega) (by omega), nJ_add]
    obtain ⟨h2, e2, I2, K2⟩ := m_put (c := 48 + v % 10) I1 (by omega) (by rw [List.length_append, List.length_cons, List.length_nil]; omega)
    rw [List.length_append, List.length_cons, List.length_nil] at e2
    rw [show T.length + 1 = T.length + (0 + 1) from rfl, e2]
    simp only [obd_some, obd_none, Option.toList_some, Option.toList_none, List.cons_append, List.nil_append, cond_true, cond_false]
    rw [B105_35, if_pos e]
    refine ⟨h2, ?_, ?_, K1.tr K2⟩
    · rw [List.length_append, List.length_cons, List.length_cons, List.length_nil]
    · rw [List.append_assoc] at I2
      exact I2
  · rw [if_neg (show ¬ nI 9 < nI v by rw [nJ_lt (by omega) (by omega)]; exact e), B105_22, if_neg h10, nI_mod (by omega) (by omega), nJ_add]
    obtain ⟨h1, e1, I1, K1⟩ := m_put (c := 48 + v % 10) I (by omega) (by omega)
    rw [e1]
    simp only [obd_some, obd_none, Option.toList_some, Option.toList_none, List.cons_append, List.nil_append, cond_true, cond_false]
    rw [B105_35, if_neg e]
    refine ⟨h1, ?_, I1, K1⟩
    rw [List.length_append, List.length_cons, List.length_nil]
theorem TW.mvL {a n : Nat} {f0 : Nat → Int32} (I : TW x dr ra ba pa S0 T h) (K : La h a n f0) (g : Nat → Int32) : TW x dr ra ba pa S0 T (hL h a n g) := by
  obtain ⟨S, W, r⟩ := I
  exact ⟨S, W.mvL K g, r⟩
end LPut
/-- while the law writes a road: its row, its text, the script -/
def WS (x dr : Nat) (ra ba pa : Nat → Nat) (S0 : jST) (b L : Nat) (xs : Nat → Int32) (a : Nat) (z : Nat × Nat) (f : Nat → Int32) (T : List Nat) (h : jHp) : Prop := TW x dr ra ba pa S0 T h ∧ La h a 48 f ∧ Sa h b L xs ∧ h.2 = z
section LWS
variable {x dr : Nat} {ra ba pa : Nat → Nat} {S0 : jST} {b L : Nat} {xs : Nat → Int32} {a : Nat} {z : Nat × Nat} {f : Nat → Int32} {T : List Nat} {h : jHp}
theorem WS.put {c : Nat} (I : WS x dr ra ba pa S0 b L xs a z f T h) (hc : c < 128) (hT : T.length < 120) : ∃ h', mc 101 [.ref x, .int (nI T.length), .int (nI c)] h = some (some (.int (nI (T.length + 1))), h') ∧ WS x dr ra ba pa S0 b L xs a z f (T ++ [c]) h' := by
  obtain ⟨h', e, I', K⟩ := m_put I.1 hc hT
  exact ⟨h', e, I', K.1 _ _ _ I.2.1, K.2.1 _ _ _ I.2.2.1, K.2.2.trans I.2.2.2⟩
theorem WS.num {v : Nat} (I : WS x dr ra ba pa S0 b L xs a z f T h) (hv : v ≤ 99) (hT : T.length + 2 ≤ 120) : ∃ h', mc 105 [.ref x, .int (nI T.length), .int (nI v)] h = some (some (.int (nI (T ++ tNum v).length)), h') ∧ WS x dr ra ba pa S0 b L xs a z f (T ++ tNum v) h' := by
  obtain ⟨h', e, I', K⟩ := m_num I.1 hv hT
  exact ⟨h', e, I', K.1 _ _ _ I.2.1, K.2.1 _ _ _ I.2.2.1, K.2.2.trans I.2.2.2⟩
theorem WS.set {t : Nat} (I : WS x dr ra ba pa S0 b L xs a z f T h) (v : Int32) (ht : t < 48) : asI h a (nI t) v = some (hL h a 48 (upd f t v)) ∧ WS x dr ra ba pa S0 b L xs a z (upd f t v) T (hL h a 48 (upd f t v)) :=
  ⟨la_w v I.2.1 ht (by omega), I.1.mvL I.2.1 _, I.2.1.own _, I.2.2.1.mvL I.2.1 _, I.2.2.2⟩
theorem WS.nil (I : WS x dr ra ba pa S0 b L xs a z f T h) : WS x dr ra ba pa S0 b L xs a z f [] h := by
  obtain ⟨⟨S, W, hS, hm, t1, t2, t3⟩, r⟩ := I
  exact ⟨⟨S, W, hS, hm, t1, t2, fun i hi => absurd hi (Nat.not_lt_zero i)⟩, r⟩
theorem WS.get {t : Nat} (I : WS x dr ra ba pa S0 b L xs a z f T h) (ht : t < 48) : alI h a (nI t) = some (f t) := la_r I.2.1 ht (by omega)
end LWS
