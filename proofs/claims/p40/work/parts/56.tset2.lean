def lv (t n : Int32) : Int32 := nI 31 * t + n
def tellT (p : jPD) (t : Int32) : Int32 := if pK p = 2 then lv (lv (lv (lv t (nI 3)) (nI 2)) (nI 1)) (nI 1) else if pK p = 1 then lv (lv t (nI 2)) (nI 1) else lv t (nI 1)
def manyN (S : jST) : Nat → Nat
  | 0 => zn S | 1 => zm S | 2 => sumN (fun i => rE (zD S i)) (zn S) | _ => sumN (fun i => rB (zD S i)) (zn S)
def aMany (S : jST) (w : Int32) : Int32 := if inN w 4 then nI (manyN S w.toNatClampNeg) else -nI 2
theorem lane_eq {a b : jSD} (ha : sdOk a) (hb : sdOk b) (h0 : ¬ sL a = none) (h1 : ¬ sL b = none) : (laneI (sL a) = laneI (sL b)) = (sL a = sL b) := by
  cases ea : sL a with
  | none => exact absurd ea h0
  | some l =>
    cases eb : sL b with
    | none => exact absurd eb h1
    | some l' =>
      have h2 := ha.2.2 l ea
      have h3 := hb.2.2 l' eb
      show (nI l = nI l') = _
      rw [nI_inj (by omega) (by omega), Option.some.injEq]
theorem sh_wI {h : jHp} {b : Nat} {d : jSD} (H : SheetAt h b d) : wI h (b + 1) = some (120, sC d) := by
  unfold wI
  rw [H.celli (i := 1) (by decide) (by decide)]
  rfl
theorem sdA_cp (a b : jSD) (i j n : Nat) : updA (sdA b) 1 (va_cpy (sC a) (sC b) i j n) = sdA (cpD a b i j n) := by
  funext k t
  unfold updA
  by_cases e : k = 1
  · subst e; rfl
  · rw [if_neg e]
    match k, e with
    | 0, _ => rfl
    | k + 2, _ => rfl
theorem c_acpy {h : jHp} {b b' : Nat} {d d' : jSD} (H : SheetAt h b d) (H' : SheetAt h b' d') (hd : sdOk d) (hd' : sdOk d') {i j n : Int32} (h1 : inCs i n (sN d)) (h2 : inCs j n (sN d')) : acpy h (b + 1) i (b' + 1) j n = some (hX 6 h b' (sdF d') (sdA (cpD d d' i.toNatClampNeg j.toNatClampNeg n.toNatClampNeg))) := by
  have g1 := hd.1
  have g2 := hd'.1
  have ei : i.toNatClampNeg = i.toInt.toNat := rfl
  have ej : j.toNatClampNeg = j.toInt.toNat := rfl
  have en : n.toNatClampNeg = n.toInt.toNat := rfl
  obtain ⟨a1, a2, a3⟩ := h1
  obtain ⟨b1, b2, b3⟩ := h2
  unfold acpy
  rw [sh_wI H, sh_wI H', Option.bind_some, Option.bind_some, if_neg]
  · have e := hset_hXi (c := 6) (h := h) (b := b') (i := 1) (F := sdF d') (A := sdA d') (by decide) (by decide) (va_cpy (sC d) (sC d') i.toNatClampNeg j.toNatClampNeg n.toNatClampNeg)
    rw [show hX 6 h b' (sdF d') (sdA d') = h from H', sdA_cp] at e
    exact congrArg some e
  · simp only [lt0_int]
    omega
section TSet2
variable {x dr : Nat} {S : jST} {ra ba pa : Nat → Nat} {h : jHp}
theorem XW.ownT (W : XW x S dr ra ba pa h) (t : Int32) : XW x (setT S t) dr ra ba pa (hX 7 h x (xF x (setT S t) dr) zA) := W.own rfl rfl rfl rfl rfl
theorem l_people (W : XW x S dr ra ba pa h) (hS : stOk S) : ∀ m i (o3 : Option Value), i + m = zn S → R 2 92 4 [some (.ref x), some (.int (nI (sumN (fun i => rE (zD S i)) i))), some (.int (nI i)), o3] [] h = some (some (.int (nI (sumN (fun i => rE (zD S i)) (zn S)))), h) := by
  have h3 := hS.1
  intro m
  induction m with
  | zero =>
    intro i o3 hi
    obtain rfl : i = zn S := hi
    rw [B92_4, xw_6 W, obd_some, if_neg (show ¬ nI (zn S) < nI (zn S) from Int32.lt_irrefl)]
  | succ m ih =>
    intro i o3 him
    have hi : i < zn S := by omega
    rw [B92_4, xw_6 W, obd_some, if_pos (show nI i < nI (zn S) by rw [nJ_lt (by omega) (by omega)]; exact hi), xw_o W, obd_some, c_roadOf W hS hi]
    simp only [obd_some, obd_none, Option.toList_some, Option.toList_none, List.cons_append, List.nil_append, cond_true, cond_false, B92_17r]
    rw [rd_1 (xw_road W hi), obd_some, nJ_add, nJ_add]
    exact ih (i + 1) none (by omega)
theorem l_beasts (W : XW x S dr ra ba pa h) (hS : stOk S) : ∀ m i (o3 : Option Value), i + m = zn S → R 2 93 4 [some (.ref x), some (.int (nI (sumN (fun i => rB (zD S i)) i))), some (.int (nI i)), o3] [] h = some (some (.int (nI (sumN (fun i => rB (zD S i)) (zn S)))), h) := by
  have h3 := hS.1
  intro m
  induction m with
  | zero =>
    intro i o3 hi
    obtain rfl : i = zn S := hi
    rw [B93_4, xw_6 W, obd_some, if_neg (show ¬ nI (zn S) < nI (zn S) from Int32.lt_irrefl)]
  | succ m ih =>
    intro i o3 him
    have hi : i < zn S := by omega
    rw [B93_4, xw_6 W, obd_some, if_pos (show nI i < nI (zn S) by rw [nJ_lt (by omega) (by omega)]; exact hi), xw_o W, obd_some, c_roadOf W hS hi]
    simp only [obd_some, obd_none, Option.toList_some, Option.toList_none, List.cons_append, List.nil_append, cond_true, cond_false, B93_17r]
    rw [rd_2 (xw_road W hi), obd_some, nJ_add, nJ_add]
    exact ih (i + 1) none (by omega)
theorem T_many (W : XW x S dr ra ba pa h) (hS : stOk S) (w : Int32) : mc 91 [.ref x, .int w] h = some (some (.int (aMany S w)), h) := by
  rw [M91, B91_1]
  unfold aMany
  by_cases hw : inN w 4
  · obtain ⟨t, ht, rfl⟩ := inN_nI hw
    rw [if_pos hw, toNat_nI (by omega), swT_in (by omega) (by omega)]
    rcases (by omega : t = 0 ∨ t = 1 ∨ t = 2 ∨ t = 3) with rfl | rfl | rfl | rfl
    · exact (B91_32 _ _ _).trans (by rw [xw_6 W]; rfl)
    · exact (B91_37 _ _ _).trans (by rw [xw_7 W]; rfl)
    · refine (B91_42 _ _ _).trans ?_
      have e := l_people W hS (zn S) 0 none (Nat.zero_add _)
      rw [xw_o W, obd_some, M92, show some (Value.int (nI 0)) = some (.int (nI (sumN (fun i => rE (zD S i)) 0))) from rfl]
      rw [show R 2 92 4 [some (.ref x), some (.int (nI (sumN (fun i => rE (zD S i)) 0))), some (.int (nI (sumN (fun i => rE (zD S i)) 0))), none] [] h = _ from e]
      simp only [obd_some, obd_none, Option.toList_some, Option.toList_none, List.cons_append, List.nil_append, cond_true, cond_false, B91_46]
      rfl
    · refine (B91_47 _ _ _).trans ?_
      have e := l_beasts W hS (zn S) 0 none (Nat.zero_add _)
      rw [xw_o W, obd_some, M93, show some (Value.int (nI 0)) = some (.int (nI (sumN (fun i => rB (zD S i)) 0))) from rfl]
      rw [show R 2 93 4 [some (.ref x), some (.int (nI (sumN (fun i => rB (zD S i)) 0))), some (.int (nI (sumN (fun i => rB (zD S i)) 0))), none] [] h = _ from e]
      simp only [obd_some, obd_none, Option.toList_some, Option.toList_none, List.cons_append, List.nil_append, cond_true, cond_false, B91_51]
      rfl
  · rw [if_neg hw, swT_out (fun z => hw ⟨z.1, by omega⟩)]
    exact B91_52 _ _ _
end TSet2
