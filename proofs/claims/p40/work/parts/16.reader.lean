/-! Reading a TEXT: what it comes to, over its codes alone; then the class's Reader. -/
def zA : Nat → Nat → Int32 := fun _ _ => 0
/-- the codes of a text of n cells from i on; 0 behind its end -/
def cdOf (c : Nat → Int32) (i n : Nat) : Nat → Int32 := fun t => if t < n then c (i + t) else nI 0
abbrev dgt (c : Int32) (lo hi : Nat) : Prop := (lo : Int) ≤ c.toInt ∧ c.toInt ≤ (hi : Int)
def dv (c : Int32) : Nat := (c.toInt - 48).toNat
/-- a number of one or two digits: its fault, or itself and where it ends -/
def sNum (cd : Nat → Int32) (t lo hi : Nat) : Nat ⊕ (Nat × Nat) :=
  if dgt (cd t) 48 57 then
    if dgt (cd (t + 1)) 48 57 then (if lo ≤ 10 * dv (cd t) + dv (cd (t + 1)) ∧ 10 * dv (cd t) + dv (cd (t + 1)) ≤ hi then .inr (10 * dv (cd t) + dv (cd (t + 1)), t + 2) else .inl t)
    else (if lo ≤ dv (cd t) ∧ dv (cd t) ≤ hi then .inr (dv (cd t), t + 1) else .inl t)
  else .inl t
/-- numbers of such bounds with a comma ahead of each but the first -/
def sNums (cd : Nat → Int32) : List (Nat × Nat) → Bool → Nat → Nat ⊕ (List Nat × Nat)
  | [], _, t => .inr ([], t)
  | q :: qs, first, t =>
    if first = false ∧ ¬ cd t = nI 44 then .inl t
    else match sNum cd (if first = true then t else t + 1) q.1 q.2 with
      | .inl f => .inl f
      | .inr w => match sNums cd qs false w.2 with
        | .inl f => .inl f
        | .inr z => .inr (w.1 :: z.1, z.2)
def sPiece (cd : Nat → Int32) (t : Nat) : Nat ⊕ (Nat × Nat) :=
  if dgt (cd t) 49 57 then if dgt (cd (t + 1)) 48 50 then .inr (dv (cd t), dv (cd (t + 1))) else .inl (t + 1) else .inl t
def sPieces (cd : Nat → Int32) : Nat → Bool → Nat → Nat ⊕ (List (Nat × Nat) × Nat)
  | 0, _, t => .inr ([], t)
  | m + 1, first, t =>
    if first = true ∨ dgt (cd t) 49 57 then match sPiece cd t with
      | .inl f => .inl f
      | .inr w => match sPieces cd m false (t + 2) with
        | .inl f => .inl f
        | .inr z => .inr (w :: z.1, z.2)
    else .inr ([], t)
def bndP : List (Nat × Nat) := [(1, 60), (1, 60), (1, 60), (0, 99)]
def bndB : List (Nat × Nat) := [(1, 60), (1, 60), (1, 60), (1, 2), (0, 30), (9, 99)]
/-- people and beasts, from so many of them on -/
def sFolk (cd : Nat → Int32) (n : Nat) : Nat → Nat → Nat → Nat → Nat ⊕ (List (List Nat) × List (List Nat))
  | 0, _, _, t => .inl t
  | m + 1, e, b, t =>
    if n ≤ t ∧ 0 < e then .inr ([], [])
    else if ¬ cd t = nI 59 then .inl t
    else if cd (t + 1) = nI 112 ∧ e < 4 ∧ b = 0 then match sNums cd bndP true (t + 2) with
      | .inl f => .inl f
      | .inr w => match sFolk cd n m (e + 1) b w.2 with
        | .inl f => .inl f
        | .inr z => .inr (w.1 :: z.1, z.2)
    else if cd (t + 1) = nI 98 ∧ 0 < e ∧ b < 2 then match sNums cd bndB true (t + 2) with
      | .inl f => .inl f
      | .inr w => match sFolk cd n m e (b + 1) w.2 with
        | .inl f => .inl f
        | .inr z => .inr (z.1, w.1 :: z.2)
    else .inl (t + 1)
/-- the whole text: its first fault, or the pieces, the people, the beasts -/
def sText (cd : Nat → Int32) (n : Nat) : Nat ⊕ (List (Nat × Nat) × List (List Nat) × List (List Nat)) :=
  if cd 0 = nI 109 then match sPieces cd 6 true 1 with
    | .inl f => .inl f
    | .inr w => match sFolk cd n 7 0 0 w.2 with
      | .inl f => .inl f
      | .inr z => .inr (w.1, z.1, z.2)
  else .inl 0
/-! the class's Reader -/
def rrF (b i n r t : Nat) : Nat → Value := fun k => match k with | 0 => .ref b | 1 => .int (nI i) | 2 => .int (nI n) | 3 => .ref r | 4 => .int (nI t) | _ => .int 0
theorem rrF_t (b i n r t u : Nat) : updV (rrF b i n r t) 4 (.int (nI u)) = rrF b i n r u := by
  funext k; unfold updV
  by_cases e : k = 4
  · subst e; rfl
  · rw [if_neg e]
    match k, e with
    | 0, _ => rfl
    | 1, _ => rfl
    | 2, _ => rfl
    | 3, _ => rfl
    | k + 5, _ => rfl
/-- the heap while a Reader at a reads the sheet at b into the road at r -/
def rH (h : jHp) (b i n r t a : Nat) (d : jRD) : jHp := hX 3 (hX 4 h r (rdF d) (roA d)) a (rrF b i n r t) zA
def setPn (d : jRD) (p e b : Nat) : jRD := (p, e, b, rL d, rM d, rG d, rQ d, rO d)
def setA (d : jRD) (m g q o : Nat → Nat) : jRD := (rP d, rE d, rB d, rL d, m, g, q, o)
def updN (f : Nat → Nat) (k x : Nat) : Nat → Nat := fun j => if j = k then x else f j
theorem rdF_0 (d : jRD) (p : Nat) : updV (rdF d) 0 (.int (nI p)) = rdF (setPn d p (rE d) (rB d)) := by
  funext k; unfold updV
  by_cases e : k = 0
  · subst e; rfl
  · rw [if_neg e]
    match k, e with
    | 1, _ => rfl
    | 2, _ => rfl
    | 3, _ => rfl
    | 4, _ => rfl
    | k + 5, _ => rfl
theorem rdF_1 (d : jRD) (p : Nat) : updV (rdF d) 1 (.int (nI p)) = rdF (setPn d (rP d) p (rB d)) := by
  funext k; unfold updV
  by_cases e : k = 1
  · subst e; rfl
  · rw [if_neg e]
    match k, e with
    | 0, _ => rfl
    | 2, _ => rfl
    | 3, _ => rfl
    | 4, _ => rfl
    | k + 5, _ => rfl
theorem rdF_2 (d : jRD) (p : Nat) : updV (rdF d) 2 (.int (nI p)) = rdF (setPn d (rP d) (rE d) p) := by
  funext k; unfold updV
  by_cases e : k = 2
  · subst e; rfl
  · rw [if_neg e]
    match k, e with
    | 0, _ => rfl
    | 1, _ => rfl
    | 3, _ => rfl
    | 4, _ => rfl
    | k + 5, _ => rfl
theorem upd_nI (f : Nat → Nat) (k x : Nat) : upd (fun j => nI (f j)) k (nI x) = fun j => nI (updN f k x j) := by
  funext j; unfold upd updN; split <;> rfl
theorem roA_1 (d : jRD) (t x : Nat) : updA (roA d) 1 (upd (roA d 1) t (nI x)) = roA (setA d (updN (rM d) t x) (rG d) (rQ d) (rO d)) := by
  funext i j; unfold updA
  by_cases e : i = 1
  · subst e; exact congrFun (upd_nI (rM d) t x) j
  · rw [if_neg e]
    match i, e with
    | 0, _ => rfl
    | 2, _ => rfl
    | 3, _ => rfl
    | 4, _ => rfl
    | i + 5, _ => rfl
theorem roA_2 (d : jRD) (t x : Nat) : updA (roA d) 2 (upd (roA d 2) t (nI x)) = roA (setA d (rM d) (updN (rG d) t x) (rQ d) (rO d)) := by
  funext i j; unfold updA
  by_cases e : i = 2
  · subst e; exact congrFun (upd_nI (rG d) t x) j
  · rw [if_neg e]
    match i, e with
    | 0, _ => rfl
    | 1, _ => rfl
    | 3, _ => rfl
    | 4, _ => rfl
    | i + 5, _ => rfl
theorem roA_3 (d : jRD) (t x : Nat) : updA (roA d) 3 (upd (roA d 3) t (nI x)) = roA (setA d (rM d) (rG d) (updN (rQ d) t x) (rO d)) := by
  funext i j; unfold updA
  by_cases e : i = 3
  · subst e; exact congrFun (upd_nI (rQ d) t x) j
  · rw [if_neg e]
    match i, e with
    | 0, _ => rfl
    | 1, _ => rfl
    | 2, _ => rfl
    | 4, _ => rfl
    | i + 5, _ => rfl
theorem roA_4 (d : jRD) (t x : Nat) : updA (roA d) 4 (upd (roA d 4) t (nI x)) = roA (setA d (rM d) (rG d) (rQ d) (updN (rO d) t x)) := by
  funext i j; unfold updA
  by_cases e : i = 4
  · subst e; exact congrFun (upd_nI (rO d) t x) j
  · rw [if_neg e]
    match i, e with
    | 0, _ => rfl
    | 1, _ => rfl
    | 2, _ => rfl
    | 3, _ => rfl
    | i + 5, _ => rfl
section ReaderRows
variable {h : jHp} {b i n r t a : Nat} {d : jRD} {sd : jSD}
/-- what a Reader needs: the sheet, the text within it, all apart -/
def rOk (h : jHp) (b i n r a : Nat) (sd : jSD) : Prop := SheetAt h b sd ∧ sdOk sd ∧ i + n ≤ sN sd ∧ (r + 4 < b ∨ b + 1 < r) ∧ (a < b ∨ b + 1 < a) ∧ (a < r ∨ r + 4 < a)
theorem rr_0 : gA (rH h b i n r t a d) a 3 0 = some b := x3_0
theorem rr_1 : gI (rH h b i n r t a d) a 3 1 = some (nI i) := x3_1
theorem rr_2 : gI (rH h b i n r t a d) a 3 2 = some (nI n) := x3_2
theorem rr_3 : gA (rH h b i n r t a d) a 3 3 = some r := x3_3
theorem rr_4 : gI (rH h b i n r t a d) a 3 4 = some (nI t) := x3_4
theorem rr_p (u : Nat) : pF (rH h b i n r t a d) a 3 4 (.int (nI u)) = some (rH h b i n r u a d) := by
  unfold rH; rw [p3_4, rrF_t]
theorem rr_o : gO (rH h b i n r t a d) a 3 = some (oF 3 a (rrF b i n r t)) := gO_hX _ _ _ _ _
theorem rr_sheet (H : rOk h b i n r a sd) : SheetAt (rH h b i n r t a d) b sd := by
  obtain ⟨h1, -, -, h4, h5, -⟩ := H
  exact (h1.out (c := 6) (d := 4) (b := r) (by simp only [oN]; omega)).out (c := 6) (d := 3) (b := a) (by simp only [oN]; omega)
theorem rr_road (H : rOk h b i n r a sd) : RoadAt (rH h b i n r t a d) r d :=
  (At.own 4 h r (rdF d) (roA d)).out (c := 4) (d := 3) (b := a) (by have := H.2.2.2.2.2; simp only [oN]; omega)
/-- a write into the road -/
theorem rr_hset (H : rOk h b i n r a sd) {c0 : Nat} (hc : c0 ≤ 4) (x : jCl) : hset (rH h b i n r t a d) (r + c0) x = hX 3 (hset (hX 4 h r (rdF d) (roA d)) (r + c0) x) a (rrF b i n r t) zA := by
  unfold rH
  exact hset_out x (by have := H.2.2.2.2.2; simp only [oN]; omega)
theorem rr_pF (H : rOk h b i n r a sd) {k : Nat} {v : Value} {d' : jRD} (hk : oOff 4 k = 0) (e : updV (rdF d) k v = rdF d') (e2 : roA d = roA d') : pF (rH h b i n r t a d) r 4 k v = some (rH h b i n r t a d') := by
  have ho : r < a ∨ a + oN 3 < r := by have := H.2.2.2.2.2; simp only [oN]; omega
  unfold pF
  rw [show gO (rH h b i n r t a d) r 4 = some (oF 4 r (rdF d)) by unfold rH; rw [gO_out ho]; exact gO_hX _ _ _ _ _]
  rw [Option.bind_some, oF_upd hk, e]
  unfold rH
  rw [hset_out _ ho, hset_hX0, e2]
theorem rr_asI (H : rOk h b i n r a sd) {k z u x : Nat} {d' : jRD} (h0 : 0 < k) (h1 : k ≤ 4) (hz : oSz 4 k = z) (hz2 : z ≤ 100) (hu : u < z) (e : updA (roA d) k (upd (roA d k) u (nI x)) = roA d') (e2 : rdF d = rdF d') : asI (rH h b i n r t a d) (r + k) (nI u) (nI x) = some (rH h b i n r t a d') := by
  have ho : r + k < a ∨ a + oN 3 < r + k := by have := H.2.2.2.2.2; simp only [oN]; omega
  unfold asI wI
  have e3 : (rH h b i n r t a d).1 (r + k) = some (cI (oSz 4 k) (roA d k)) := by
    unfold rH; rw [hX_out ho]; exact hX_i h0 h1
  rw [e3]
  show (if nI u < 0 ∨ oSz 4 k ≤ (nI u).toNatClampNeg then none else some _) = _
  rw [if_neg, toNat_nI (by omega)]
  · show some (hset _ _ (cI (oSz 4 k) _)) = _
    unfold rH
    rw [hset_out _ ho, hset_hXi h0 (show k ≤ oN 4 from h1), e, e2]
  · rw [toNat_nI (by omega), hz]
    rintro (q | q)
    · exact nI_nneg (by omega) q
    · omega
theorem c_code (H : rOk h b i n r a sd) (ht : t ≤ n) : mc 15 [.ref a] (rH h b i n r t a d) = some (some (.int (cdOf (sC sd) i n t)), rH h b i n r t a d) := by
  have hs := rr_sheet (t := t) (d := d) H
  obtain ⟨-, h2, h3, -⟩ := H
  have h1 := h2.1
  rw [M15]
  simp (disch := omega) only [rr_4, rr_2, obd_some, obd_none, Option.toList_some, Option.toList_none, List.cons_append, List.nil_append, cond_true, cond_false, nJ_add, nI_mul, nJ_lt, nJ_le, nI_inj, nI_lt0, nI_eq0, nI_gt0, toNat_nI]
  unfold cdOf
  by_cases a1 : t < n
  · rw [if_pos a1, if_pos a1]
    simp (disch := omega) only [rr_0, rr_1, rr_4, obd_some, obd_none, Option.toList_some, Option.toList_none, List.cons_append, List.nil_append, cond_true, cond_false, nJ_add, nI_mul, nJ_lt, nJ_le, nI_inj, nI_lt0, nI_eq0, nI_gt0, toNat_nI, sh_o hs, c_at hs h2 (show i + t < sN sd by omega), B15_27]
  · rw [if_neg a1, if_neg a1]
theorem n_le (H : rOk h b i n r a sd) : n ≤ 120 := by
  have h1 := H.2.1.1
  have h3 := H.2.2.1
  omega
theorem cd_lt {c : Nat → Int32} {lo hi : Nat} (hlo : 0 < lo) (hq : dgt (cdOf c i n t) lo hi) : t < n := by
  by_cases e : t < n
  · exact e
  · unfold cdOf dgt at hq
    rw [if_neg e, toInt_nI (by decide)] at hq
    omega
theorem cd_eq {c : Nat → Int32} {x : Nat} (hx : 0 < x) (hx2 : x < 2147483648) (hq : cdOf c i n t = nI x) : t < n := by
  by_cases e : t < n
  · exact e
  · unfold cdOf at hq
    rw [if_neg e, nI_inj (by decide) hx2] at hq
    omega
theorem dgt_dv {c : Int32} {lo hi : Nat} (h1 : 48 ≤ lo) (hq : dgt c lo hi) : c - nI 48 = nI (dv c) ∧ lo ≤ 48 + dv c ∧ 48 + dv c ≤ hi := by
  have h2 := Int32.toInt_lt c
  unfold dgt at hq
  have e : c = nI c.toInt.toNat := by
    apply Int32.toInt_inj.mp
    rw [toInt_nI (by omega)]; omega
  unfold dv
  refine ⟨?_, by omega, by omega⟩
  have e2 : (c.toInt - 48).toNat = c.toInt.toNat - 48 := by omega
  rw [e2]
  conv => lhs; rw [e]
  exact nI_sub (by omega)
theorem c_isAt (H : rOk h b i n r a sd) (ht : t ≤ n) {lo hi : Nat} (hlo : lo < 1000) (hhi : hi < 1000) : mc 17 [.ref a, .int (nI lo), .int (nI hi)] (rH h b i n r t a d) = some (some (.int (b2i (dgt (cdOf (sC sd) i n t) lo hi))), rH h b i n r t a d) := by
  rw [M17]
  simp (disch := omega) only [rr_o, c_code H ht, obd_some, obd_none, Option.toList_some, Option.toList_none, List.cons_append, List.nil_append, cond_true, cond_false, B17_0, B17_4, B17_12, lt_int, gt_int]
  generalize cdOf (sC sd) i n t = c
  unfold b2i dgt
  by_cases a1 : c.toInt < (lo : Int)
  · rw [if_pos a1, if_neg (by omega)]
  · rw [if_neg a1]
    by_cases a2 : (hi : Int) < c.toInt
    · rw [if_pos a2, if_neg (by omega)]
    · rw [if_neg a2, if_pos (by omega)]
def setRow (d : jRD) (k u x : Nat) : jRD := if k = 3 then setA d (rM d) (rG d) (updN (rQ d) u x) (rO d) else setA d (rM d) (rG d) (rQ d) (updN (rO d) u x)
theorem rr_row (H : rOk h b i n r a sd) {k u x : Nat} (hk : (k = 3 ∧ u < 16) ∨ (k = 4 ∧ u < 12)) : asI (rH h b i n r t a d) (r + k) (nI u) (nI x) = some (rH h b i n r t a (setRow d k u x)) := by
  rcases hk with ⟨rfl, hu⟩ | ⟨rfl, hu⟩
  · exact rr_asI H (by decide) (by decide) rfl (by decide) hu (roA_3 d u x) rfl
  · exact rr_asI H (by decide) (by decide) rfl (by decide) hu (roA_4 d u x) rfl
theorem rr_len (H : rOk h b i n r a sd) {k u : Nat} (hk : (k = 3 ∧ u < 16) ∨ (k = 4 ∧ u < 12)) : ∃ z, u < z ∧ z ≤ 16 ∧ alen (rH h b i n r t a d) (r + k) = some (nI z) := by
  have ho : ∀ j, j ≤ 4 → (r + j < a ∨ a + oN 3 < r + j) := by intro j hj; have := H.2.2.2.2.2; simp only [oN]; omega
  rcases hk with ⟨rfl, hu⟩ | ⟨rfl, hu⟩
  · exact ⟨16, hu, by decide, by unfold rH; rw [alen_out (ho 3 (by decide))]; exact n4_3⟩
  · exact ⟨12, hu, by decide, by unfold rH; rw [alen_out (ho 4 (by decide))]; exact n4_4⟩
/-- one number, with a comma ahead of it or not -/
def sNum1 (cd : Nat → Int32) (comma : Bool) (t lo hi : Nat) : Nat ⊕ (Nat × Nat) := if comma = true ∧ ¬ cd t = nI 44 then .inl t else sNum cd (if comma = true then t + 1 else t) lo hi
/-- what a reading comes to: a fault, or a place behind and the numbers told -/
def rdEnd {β : Type} (h : jHp) (b i n r a : Nat) (x : jRs) (q : Nat ⊕ β) (P : β → Nat → jRD → Prop) (d : jRD) : Prop := match q with
  | .inl f => f ≤ n ∧ ∃ t' d', t' ≤ n ∧ rdOk d' ∧ x = some (some (.int (nI f)), rH h b i n r t' a d') ∧ rL d' = rL d
  | .inr w => ∃ t' d', t' ≤ n ∧ rdOk d' ∧ x = some (some (.int (-nI 9)), rH h b i n r t' a d') ∧ P w t' d'
theorem rdEnd_d {β : Type} {h : jHp} {b i n r a : Nat} {x : jRs} {q : Nat ⊕ β} {P : β → Nat → jRD → Prop} {d1 d2 : jRD} (e : rL d1 = rL d2) (H : rdEnd h b i n r a x q P d1) : rdEnd h b i n r a x q P d2 := by
  cases q with
  | inl f =>
    obtain ⟨h1, t', d', h2, h3, h4, h5⟩ := H
    exact ⟨h1, t', d', h2, h3, h4, h5.trans e⟩
  | inr w => exact H
theorem setRow_L (d : jRD) (k u x : Nat) : rL (setRow d k u x) = rL d := by unfold setRow; split <;> rfl
theorem l_num105 (H : rOk h b i n r a sd) (hd : rdOk d) (ht : t ≤ n) {k u lo hi v f : Nat} (hk : (k = 3 ∧ u < 16) ∨ (k = 4 ∧ u < 12)) (hlo : lo < 1000) (hhi : hi ≤ 99) (hv : v < 1000) (hf : f ≤ n) (o0 o3 : Option Value) :
    rdEnd h b i n r a (R 4 21 105 [o0, some (.ref (r + k)), some (.int (nI u)), o3, some (.int (nI lo)), some (.int (nI hi)), some (.int (nI f)), some (.int (nI v))] [] (rH h b i n r t a d))
      (if lo ≤ v ∧ v ≤ hi then .inr v else .inl f) (fun w t' d' => t' = t ∧ d' = setRow d k u w) d := by
  have h120 := n_le H
  have hu : u < 16 := by rcases hk with q | q <;> omega
  obtain ⟨z, hz1, hz2, hz3⟩ := rr_len (t := t) (d := d) H hk
  rw [B21_105]
  simp (disch := omega) only [nJ_add, nI_mul, nJ_lt, nJ_le, nI_inj, nI_lt0, nI_eq0, nI_gt0, toNat_nI, B21_129, B21_131]
  by_cases a1 : v < lo
  · rw [if_pos a1, if_neg (by omega)]
    exact ⟨hf, t, d, ht, hd, rfl, rfl⟩
  · rw [if_neg a1]
    by_cases a2 : hi < v
    · rw [if_pos a2, if_neg (by omega)]
      exact ⟨hf, t, d, ht, hd, rfl, rfl⟩
    · rw [if_neg a2, if_pos (show lo ≤ v ∧ v ≤ hi by omega), hz3, obd_some]
      simp (disch := omega) only [nJ_add, nI_mul, nJ_lt, nJ_le, nI_inj, nI_lt0, nI_eq0, nI_gt0, toNat_nI]
      rw [if_pos hz1, rr_row H hk, obd_some]
      refine ⟨t, _, ht, ?_, rfl, rfl, rfl⟩
      obtain ⟨d1, d2, d3, d4, d5, d6, d7, d8⟩ := hd
      unfold setRow
      split
      · exact ⟨d1, d2, d3, d4, d5, fun j => by unfold setA rQ updN; dsimp only; split; omega; exact d6 j, d7, d8⟩
      · exact ⟨d1, d2, d3, d4, d5, d6, fun j => by unfold setA rO updN; dsimp only; split; omega; exact d7 j, d8⟩
end ReaderRows
