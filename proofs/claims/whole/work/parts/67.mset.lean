/-! The reference's calls that change what there is. -/
theorem rdn_ext {c : Nat → Nat} {n : Nat} (h0 : ∀ i, n ≤ i → c i = 0) : ∀ k, rdn c (n + k) = rdn c n
  | 0 => rfl
  | k + 1 => by
    have ih := rdn_ext h0 k
    unfold rdn at ih ⊢
    rw [← Nat.add_assoc, cntB, ih, h0 (n + k) (by omega)]
    rfl
section MSet
variable {h : jHp} {m : Nat} {S : jST} {F : Nat → Value} {A : Nat → Nat → Int32}
theorem l_mTell {d : jRD} {p : jPD} {q i : Nat} (D0 : MRd d i A) (P0 : MPl d p q A) (hi : i < 3) (hq : q < 10) (hd : rdOk d) (hp : plOk d p) : ∀ n t, t + n = rP d * rE d → R 3 220 64 [some (.ref m), some (.int (nI q)), some (.int (nI (pK p))), some (.int (nI i)), some (.int (nI (rdn (pC p) t))), some (.int (nI t))] [] (hX 8 h m F A) = some (some (.int (nI (tellA p))), hX 8 h m F A) := by
  have h24 := cells_le hd
  have hk := hp.1
  intro n
  induction n with
  | zero =>
    intro t ht
    obtain rfl : t = rP d * rE d := ht
    have e : rdn (pC p) (rP d * rE d) = rdn (pC p) 24 := by
      have := rdn_ext (c := pC p) (n := rP d * rE d) hp.2.2.2.2 (24 - rP d * rE d)
      rw [show rP d * rE d + (24 - rP d * rE d) = 24 by omega] at this
      exact this.symm
    rw [B220_64, x8_2, obd_some, m_1 (by omega), obd_some, x8_3, obd_some, m_2 (by omega), obd_some, D0.1, D0.2.1, nI_mul, if_neg (show ¬ nI (rP d * rE d) < nI (rP d * rE d) from Int32.lt_irrefl), e]
    simp only [B220_141, B220_142]
    unfold tellA
    rcases (by omega : pK p = 0 ∨ pK p = 1 ∨ pK p = 2) with c | c | c
    · rw [c, if_pos (show nI 0 = 0 from rfl)]; rfl
    · rw [c, if_neg (show ¬ nI 1 = 0 by decide), if_pos (show nI 1 = nI 1 from rfl), nJ_add]; rfl
    · rw [c, if_neg (show ¬ nI 2 = 0 by decide), if_neg (show ¬ nI 2 = nI 1 by decide), nI_mul, nJ_add, if_pos rfl, show 2 * rdn (pC p) 24 + 100 = rdn (pC p) 24 + 100 + rdn (pC p) 24 by omega]
  | succ n ih =>
    intro t htn
    have ht : t < rP d * rE d := by omega
    have hc := hp.2.2.2.1 t
    have h2 := hd.2.2.1
    have e : rdn (pC p) (t + 1) = rdn (pC p) t + if pC p t = 0 then 0 else 1 := by
      unfold rdn
      rw [cntB]
      by_cases c : pC p t = 0
      · rw [if_pos c, c]; rfl
      · rw [if_neg c, show (pC p t == 0) = false from beq_eq_false_iff_ne.mpr c]; rfl
    rw [B220_64, x8_2, obd_some, m_1 (by omega), obd_some, x8_3, obd_some, m_2 (by omega), obd_some, D0.1, D0.2.1, nI_mul, if_pos (show nI t < nI (rP d * rE d) by rw [nJ_lt (by omega) (by omega)]; exact ht), x8_26, obd_some, nI_mul, nJ_add, m_18 (by omega), obd_some, P0.2.2.2.2 t ht, B220_96, nJ_add, nJ_add, nJ_add]
    by_cases c : pC p t = 0
    · rw [if_pos c] at e
      rw [if_pos (show nI (pC p t) = 0 by rw [c]; rfl), ← e]
      exact ih (t + 1) (by omega)
    · rw [if_neg c] at e
      rw [if_neg (show ¬ nI (pC p t) = 0 by rw [nI_eq0 (by omega)]; exact c), ← e]
      exact ih (t + 1) (by omega)
theorem M_tell (R0 : MR S F A) (hS : stOk S) (v : Int32) : Mv m (rTell S v).2 h (mc 220 [.ref m, .int v] (hX 8 h m F A)) (.int (rTell S v).1) := by
  have h3 := hS.2.1
  have hz := hS.1
  rw [M220, m_o, obd_some, c_noPlan R0 hS]
  simp only [obd_some, obd_none, Option.toList_some, Option.toList_none, List.cons_append, List.nil_append, cond_true, cond_false, B220_5, b2i_0]
  unfold rTell
  by_cases hv : inN v (zm S)
  · obtain ⟨q, hq, rfl⟩ := inN_nI hv
    have P0 := R0.2.2.1 q hq
    obtain ⟨hx, hp⟩ := hS.2.2.2.2.2.1 q hq
    have D0 := R0.2.1 _ hx
    have hd := (hS.2.2.2.2.1 _ hx).1
    have hk := hp.1
    have fin : ∀ F' t, MR (setT S t) F' A → ∃ F2 A2, R 3 220 51 [some (.ref m), some (.int (nI q)), some (.int (nI (pK (zP S q)))), none, none, none] [] (hX 8 h m F' A) = some (some (.int (nI (tellA (zP S q)))), hX 8 h m F2 A2) ∧ MR (setT S t) F2 A2 := by
      intro F' t R1
      refine ⟨F', A, ?_, R1⟩
      rw [B220_51, x8_23, obd_some, m_15 (by omega), obd_some, P0.2.1]
      exact l_mTell D0 P0 (by omega) (by omega) hd hp (rP (zR S q) * rE (zR S q)) 0 (Nat.zero_add _)
    have R1 := R0.t0
    rw [if_pos (not_not_intro hv), if_pos hv, toNat_nI (by omega), x8_22, obd_some, m_14 (by omega), obd_some, P0.1]
    unfold tellT
    rcases (by omega : pK (zP S q) = 0 ∨ pK (zP S q) = 1 ∨ pK (zP S q) = 2) with c | c | c
    · rw [c] at fin ⊢
      rw [if_neg (show ¬ nI 0 = nI 2 by decide), B220_27, if_neg (show ¬ 0 < nI 0 by decide), B220_36, m_o, obd_some, c_traced R0]
      simp only [obd_some, obd_none, Option.toList_some, Option.toList_none, List.cons_append, List.nil_append, cond_true, cond_false, B220_41]
      rw [if_neg (show ¬ nI 0 = nI 2 by decide)]
      exact fin _ _ (R0.t0 (lv (zt S) (nI 1)))
    · rw [c] at fin ⊢
      rw [if_neg (show ¬ nI 1 = nI 2 by decide), B220_27, if_pos (show 0 < nI 1 by decide), m_o, obd_some, c_traced R0]
      simp only [obd_some, obd_none, Option.toList_some, Option.toList_none, List.cons_append, List.nil_append, cond_true, cond_false, B220_36]
      rw [m_o, obd_some, c_traced (R0.t0 (lv (zt S) (nI 2)))]
      simp only [obd_some, obd_none, Option.toList_some, Option.toList_none, List.cons_append, List.nil_append, cond_true, cond_false, B220_41]
      rw [if_neg (show ¬ nI 1 = nI 2 by decide)]
      exact fin _ _ ((R0.t0 (lv (zt S) (nI 2))).t0 (lv (lv (zt S) (nI 2)) (nI 1)))
    · rw [c] at fin ⊢
      rw [if_pos (show nI 2 = nI 2 from rfl), m_o, obd_some, c_traced R0]
      simp only [obd_some, obd_none, Option.toList_some, Option.toList_none, List.cons_append, List.nil_append, cond_true, cond_false, B220_27]
      rw [if_pos (show 0 < nI 2 by decide), m_o, obd_some, c_traced (R0.t0 (lv (zt S) (nI 3)))]
      simp only [obd_some, obd_none, Option.toList_some, Option.toList_none, List.cons_append, List.nil_append, cond_true, cond_false, B220_36]
      rw [m_o, obd_some, show zt (setT S (lv (zt S) (nI 3))) = lv (zt S) (nI 3) from rfl, c_traced ((R0.t0 (lv (zt S) (nI 3))).t0 (lv (lv (zt S) (nI 3)) (nI 2)))]
      simp only [obd_some, obd_none, Option.toList_some, Option.toList_none, List.cons_append, List.nil_append, cond_true, cond_false, B220_41]
      simp only [if_true]
      rw [m_o, obd_some, show zt (setT (setT S (lv (zt S) (nI 3))) (lv (lv (zt S) (nI 3)) (nI 2))) = lv (lv (zt S) (nI 3)) (nI 2) from rfl, c_traced (((R0.t0 (lv (zt S) (nI 3))).t0 (lv (lv (zt S) (nI 3)) (nI 2))).t0 (lv (lv (lv (zt S) (nI 3)) (nI 2)) (nI 1)))]
      simp only [obd_some, obd_none, Option.toList_some, Option.toList_none, List.cons_append, List.nil_append, cond_true, cond_false]
      exact fin _ _ ((((R0.t0 (lv (zt S) (nI 3))).t0 (lv (lv (zt S) (nI 3)) (nI 2))).t0 (lv (lv (lv (zt S) (nI 3)) (nI 2)) (nI 1))).t0 (lv (lv (lv (lv (zt S) (nI 3)) (nI 2)) (nI 1)) (nI 1)))
  · rw [if_neg (show ¬ ¬ ¬ _ from fun z => z hv), if_neg hv]
    exact Mv.same R0 rfl
theorem MR.lame (R0 : MR S F A) (hS : stOk S) {i : Nat} (hi : i < zn S) (q : Option (Nat × Nat)) : MR (setD S i (setL (zD S i) q)) F (uA (uA A 8 i (lwho q)) 9 i (lfro q)) := by
  have e : ∀ j, j < 8 → uA (uA A 8 i (lwho q)) 9 i (lfro q) j = A j := by
    intro j hj; funext t; rw [uA_n (by omega), uA_n (by omega)]
  have e2 : ∀ j, 9 < j → uA (uA A 8 i (lwho q)) 9 i (lfro q) j = A j := by
    intro j hj; funext t; rw [uA_n (by omega), uA_n (by omega)]
  refine ⟨R0.1, fun j hj => ?_, fun p hp => ?_, fun k hk => (R0.2.2.2 k hk).of fun a b c => e2 a (by omega)⟩
  · show MRd (if j = i then setL (zD S i) q else zD S j) j _
    by_cases c : j = i
    · subst c
      rw [if_pos rfl]
      obtain ⟨d1, d2, d3, d4, d5, d6, d7, d8⟩ := R0.2.1 j hj
      refine ⟨?_, ?_, ?_, ?_, ?_, ?_, ?_, ?_⟩
      · rw [e 1 (by omega)]; exact d1
      · rw [e 2 (by omega)]; exact d2
      · rw [e 3 (by omega)]; exact d3
      · rw [e 4 (by omega), e 5 (by omega)]; exact d4
      · rw [e 6 (by omega)]; exact d5
      · rw [e 7 (by omega)]; exact d6
      · rw [uA_n (by omega), uA_s]; rfl
      · rw [uA_s]; rfl
    · rw [if_neg c]
      obtain ⟨d1, d2, d3, d4, d5, d6, d7, d8⟩ := R0.2.1 j hj
      refine ⟨?_, ?_, ?_, ?_, ?_, ?_, ?_, ?_⟩
      · rw [e 1 (by omega)]; exact d1
      · rw [e 2 (by omega)]; exact d2
      · rw [e 3 (by omega)]; exact d3
      · rw [e 4 (by omega), e 5 (by omega)]; exact d4
      · rw [e 6 (by omega)]; exact d5
      · rw [e 7 (by omega)]; exact d6
      · rw [uA_n (by omega), uA_n (by omega)]; exact d7
      · rw [uA_n (by omega), uA_n (by omega)]; exact d8
  · have g := (R0.2.2.1 p hp).of (fun a b c => e2 a (by omega))
    show MPl (if pX (zP S p) = i then setL (zD S i) q else zD S (pX (zP S p))) (zP S p) p _
    by_cases c : pX (zP S p) = i
    · rw [if_pos c]
      have g : MPl (zD S (pX (zP S p))) (zP S p) p _ := g
      rw [c] at g; exact g
    · rw [if_neg c]; exact g
theorem M_lame (R0 : MR S F A) (hS : stOk S) (v p k : Int32) : Mv m (rLame S v p k).2 h (mc 169 [.ref m, .int v, .int p, .int k] (hX 8 h m F A)) (.int (rLame S v p k).1) := by
  have h3 := hS.1
  have e44 : ∀ o0 o1 o2 o3 o4 o5 o6 (h : jHp), R 4 169 44 [o0, o1, o2, o3, o4, o5, o6] [] h = some (some (.int (-nI 1)), h) := by
    intro o0 o1 o2 o3 o4 o5 o6 h
    rw [B169_44, B169_45]
  have e57 : ∀ i q o3 o4 o5 o6, i < zn S → (∀ x, q = some x → x.1 < 4 ∧ x.2 < 6) → R 4 169 57 [some (.ref m), some (.int (nI i)), some (.int (lwho q)), o3, o4, o5, o6] [.int (lfro q)] (hX 8 h m F A) = some (some (.int (b2i (¬ rL (zD S i) = q))), hX 8 h m F (uA (uA A 8 i (lwho q)) 9 i (lfro q))) := by
    intro i q o3 o4 o5 o6 hi hq
    have D0 := R0.2.1 i hi
    have hd := (hS.2.2.2.2.1 i hi).1
    have e := lm_inj hd.2.2.2.2.2.2.2 hq
    have e85 : ∀ c : Bool, R 4 169 85 [some (.ref m), some (.int (nI i)), some (.int (lwho q)), none, none, some (.int (lfro q)), none] [.int (b2j c)] (hX 8 h m F A) = some (some (.int (b2j (!c))), hX 8 h m F (uA (uA A 8 i (lwho q)) 9 i (lfro q))) := by
      intro c
      rw [B169_85, x8_9, obd_some, mw_8 (by omega), obd_some, x8_10, obd_some, mw_9 (by omega), obd_some]
      cases c with
      | true => rw [if_neg (show ¬ b2j true = 0 by decide), B169_112]; rfl
      | false => rw [if_pos (show b2j false = 0 by decide), B169_112]; rfl
    rw [B169_57, x8_9, obd_some, m_8 (by omega), obd_some, D0.2.2.2.2.2.2.1]
    by_cases a : lwho (rL (zD S i)) = lwho q
    · rw [if_pos a, x8_10, obd_some, m_9 (by omega), obd_some, D0.2.2.2.2.2.2.2]
      by_cases b : lfro (rL (zD S i)) = lfro q
      · rw [if_pos b, show (nI 1) = b2j true from rfl, e85 true]
        unfold b2i
        rw [if_neg (not_not_intro (e ▸ ⟨a, b⟩))]; rfl
      · rw [if_neg b, show (nI 0) = b2j false from rfl, e85 false]
        unfold b2i
        rw [if_pos (fun z => b (e.symm ▸ z : lwho (rL (zD S i)) = lwho q ∧ lfro (rL (zD S i)) = lfro q).2)]; rfl
    · rw [if_neg a, show (nI 0) = b2j false from rfl, e85 false]
      unfold b2i
      rw [if_pos (fun z => a (e.symm ▸ z : lwho (rL (zD S i)) = lwho q ∧ lfro (rL (zD S i)) = lfro q).1)]; rfl
  rw [M169]
  unfold rLame
  by_cases p9 : p = -nI 9
  · rw [if_pos p9, if_pos p9, m_o, obd_some, c_noRoad R0 hS]
    simp only [obd_some, obd_none, Option.toList_some, Option.toList_none, List.cons_append, List.nil_append, cond_true, cond_false, B169_18, b2i_0]
    by_cases hv : inN v (zn S)
    · obtain ⟨i, hi, rfl⟩ := inN_nI hv
      have e := e57 i none (some (.int k)) (some (.int (nI 1))) none none hi (fun x z => by cases z)
      rw [if_pos (not_not_intro hv), if_pos hv, if_neg (show ¬ nI 1 = 0 by decide), if_neg (show ¬ nI 1 = 0 by decide), toNat_nI (by omega), p9]
      exact ⟨_, _, e, R0.lame hS hi none⟩
    · rw [if_neg (show ¬ ¬ ¬ _ from fun z => z hv), if_neg hv, e44]
      exact Mv.same R0 rfl
  · rw [if_neg p9, if_neg p9, m_o, obd_some, c_noRoad R0 hS]
    simp only [obd_some, obd_none, Option.toList_some, Option.toList_none, List.cons_append, List.nil_append, cond_true, cond_false, B169_18, b2i_0]
    by_cases hv : inN v (zn S)
    · obtain ⟨i, hi, rfl⟩ := inN_nI hv
      have hd := (hS.2.2.2.2.1 i hi).1
      have h4 := hd.2.1
      have h6 := hd.1
      rw [if_pos (not_not_intro hv), if_pos hv, if_pos (show nI 0 = 0 from rfl), toNat_nI (by omega), m_o, obd_some, c_noPerson R0 hS hi]
      simp only [obd_some, obd_none, Option.toList_some, Option.toList_none, List.cons_append, List.nil_append, cond_true, cond_false, B169_32, b2i_0]
      by_cases hp : inN p (rE (zD S i))
      · obtain ⟨u, hu, rfl⟩ := inN_nI hp
        rw [if_pos (not_not_intro hp), if_pos hp, toNat_nI (by omega), m_o, obd_some, c_noPiece R0 hS hi]
        simp only [obd_some, obd_none, Option.toList_some, Option.toList_none, List.cons_append, List.nil_append, cond_true, cond_false, B169_41, b2i_0]
        by_cases hk : inN k (rP (zD S i))
        · obtain ⟨w, hw, rfl⟩ := inN_nI hk
          have e := e57 i (some (u, w)) (some (.int (nI w))) (some (.int (nI 0))) none none hi (fun x z => by cases z; exact ⟨by omega, by omega⟩)
          rw [if_pos (not_not_intro hk), if_pos hk, if_pos (show nI 0 = 0 from rfl), toNat_nI (by omega)]
          exact ⟨_, _, e, R0.lame hS hi (some (u, w))⟩
        · rw [if_neg (show ¬ ¬ ¬ _ from fun z => z hk), if_neg hk, e44]
          exact Mv.same R0 rfl
      · rw [if_neg (show ¬ ¬ ¬ _ from fun z => z hp), if_neg hp, e44]
        exact Mv.same R0 rfl
    · rw [if_neg (show ¬ ¬ ¬ _ from fun z => z hv), if_neg hv, e44]
      exact Mv.same R0 rfl
end MSet
