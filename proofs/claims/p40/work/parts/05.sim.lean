/-! The machine's heap holds what a picture says. -/
def jOk (B : Nat) (D : va_G) (U : State) (H : Heap) (a : Nat) (c : jCl) : Prop := match c with
  | .inl q => B ≤ a ∧ q.1 < 9 ∧ t_OB a (D.1 q.1) (fNT q.1) (D.2 q.1) H q.2
  | .inr (.inl q) => B ≤ a ∧ ∃ cA : ClassId, ArrOfT U cA .int ∧ H[a]? = some (vp_cell cA (q.1, .inl q.2))
  | .inr (.inr (.inl q)) => B ≤ a ∧ q.1 < 13 ∧ ∃ cA : ClassId, ArrOfT U cA (.object (cnT q.1)) ∧ va_RA U cA (.object (cnT q.1)) ∧ H[a]? = some (vp_cell cA (q.2.1, .inr (.inr (.inr (.inr q.2.2)))))
  | .inr (.inr (.inr q)) => ∃ cell : Cell, H[a]? = some cell ∧ U.isArrayOf cell .int ∧ cell.vm ≠ .unknown ∧ cell.slots.size = q.1 ∧ ∀ j : Nat, j < q.1 → cell.slots[j]? = some (.int (q.2 j))
def jSim (B : Nat) (D : va_G) (U : State) (H : Heap) (h : jHp) : Prop := H.size = h.2.1 ∧ B ≤ h.2.1 ∧ ∀ (a : Nat) (c : jCl), h.1 a = some c → jOk B D U H a c
theorem jOk.lt {B : Nat} {D : va_G} {U : State} {H : Heap} {a : Nat} {c : jCl} (h : jOk B D U H a c) : a < H.size := by
  rcases c with q | q | q | q
  · obtain ⟨-, -, cell, h1, -⟩ := h
    exact (Array.getElem?_eq_some_iff.mp h1).1
  · obtain ⟨-, cA, -, h1⟩ := h
    exact (Array.getElem?_eq_some_iff.mp h1).1
  · obtain ⟨-, -, cA, -, -, h1⟩ := h
    exact (Array.getElem?_eq_some_iff.mp h1).1
  · obtain ⟨cell, h1, -⟩ := h
    exact (Array.getElem?_eq_some_iff.mp h1).1
theorem jOk.kept {B : Nat} {D : va_G} {U : State} {H H1 : Heap} {a : Nat} {c : jCl} (h : jOk B D U H a c) (e : H1[a]? = H[a]?) : jOk B D U H1 a c := by
  rcases c with q | q | q | q
  · obtain ⟨h0, h1, h2⟩ := h
    exact ⟨h0, h1, h2.kept e⟩
  · obtain ⟨h0, cA, h2, h1⟩ := h
    exact ⟨h0, cA, h2, e.trans h1⟩
  · obtain ⟨h0, h4, cA, h2, h3, h1⟩ := h
    exact ⟨h0, h4, cA, h2, h3, e.trans h1⟩
  · obtain ⟨cell, h1, h2⟩ := h
    exact ⟨cell, e.trans h1, h2⟩
theorem jOk.moved {B : Nat} {D : va_G} {u U : State} {H : Heap} {a : Nat} {c : jCl} (hvm : u.vm.Alike U.vm) (h : jOk B D u H a c) : jOk B D U H a c := by
  rcases c with q | q | q | q
  · exact h
  · obtain ⟨h0, cA, h2, h1⟩ := h
    exact ⟨h0, cA, arrOfT_moved hvm h2, h1⟩
  · obtain ⟨h0, h4, cA, h2, h3, h1⟩ := h
    exact ⟨h0, h4, cA, arrOfT_moved hvm h2, h3.moved hvm, h1⟩
  · obtain ⟨cell, h1, h2, h3⟩ := h
    exact ⟨cell, h1, State.isArrayOf_alike hvm h2, h3⟩
theorem jSim.moved {B : Nat} {D : va_G} {u U : State} {H : Heap} {h : jHp} (hvm : u.vm.Alike U.vm) (S : jSim B D u H h) : jSim B D U H h := ⟨S.1, S.2.1, fun a c q => (S.2.2 a c q).moved hvm⟩
theorem jSim.set {B : Nat} {D : va_G} {U : State} {H H1 : Heap} {h : jHp} {a : Nat} {c : jCl} (S : jSim B D U H h) (hz : H1.size = H.size) (oq : ∀ q, q ≠ a → H1[q]? = H[q]?) (hc : jOk B D U H1 a c) : jSim B D U H1 (hset h a c) := by
  refine ⟨hz.trans S.1, S.2.1, fun q d hd => ?_⟩
  have hd : (if q = a then some c else h.1 q) = some d := hd
  by_cases e : q = a
  · rw [if_pos e] at hd
    cases hd
    rw [e]
    exact hc
  · rw [if_neg e] at hd
    exact (S.2.2 q d hd).kept (oq q e)
theorem jSim.new {B : Nat} {D : va_G} {U : State} {H H1 : Heap} {h : jHp} {n : Nat} {c : jCl} (S : jSim B D U H h) (hz : H1.size = H.size + 1) (oq : ∀ q, q < H.size → H1[q]? = H[q]?) (hc : jOk B D U H1 H.size c) : jSim B D U H1 (hnew h c n) := by
  refine ⟨by rw [hz, S.1]; rfl, Nat.le_succ_of_le S.2.1, fun q d hd => ?_⟩
  have hd : (if q = h.2.1 then some c else h.1 q) = some d := hd
  by_cases e : q = h.2.1
  · rw [if_pos e] at hd
    cases hd
    rw [e, ← S.1]
    exact hc
  · rw [if_neg e] at hd
    exact (S.2.2 q d hd).kept (oq q (S.2.2 q d hd).lt)
/-! the locals -/
def lvl (ls : jLs) : List (Nat × Value) := (List.range ls.length).filterMap fun i => (ls[i]?.join).map fun v => (i, v)
theorem mem_lvl {ls : jLs} {i : Nat} {v : Value} : (i, v) ∈ lvl ls ↔ ls[i]? = some (some v) := by
  unfold lvl
  rw [List.mem_filterMap]
  constructor
  · rintro ⟨j, -, h⟩
    rw [Option.map_eq_some_iff] at h
    obtain ⟨w, h1, h2⟩ := h
    cases h2
    cases hx : ls[i]? with
    | none => rw [hx] at h1; cases h1
    | some o => rw [hx] at h1; exact congrArg some h1
  · intro h
    exact ⟨i, List.mem_range.mpr (List.getElem?_eq_some_iff.mp h).1, by rw [h]; rfl⟩
def jLR (LS : Array Slot) (n : Nat) (ls : jLs) : Prop := ls.length = n ∧ lv_has LS n (lvl ls)
theorem jLR.of {LS : Array Slot} {n : Nat} {ls : jLs} {L : List (Nat × Value)} (h : lv_has LS n L) (hn : ls.length = n) (k : ∀ i v, ls[i]? = some (some v) → (i, v) ∈ L) : jLR LS n ls :=
  ⟨hn, h.1, h.2.1, fun q hq => h.2.2 q (k q.1 q.2 (mem_lvl.mp hq))⟩
theorem jLR.at {LS : Array Slot} {n : Nat} {ls : jLs} (h : jLR LS n ls) {i : Nat} {v : Value} (hv : ls[i]? = some (some v)) : LS[i]? = some (.val v) := h.2.2.2 (i, v) (mem_lvl.mpr hv)
theorem fg_len : ∀ (f : List Nat) (ls : jLs), (fg f ls).length = ls.length
  | [], _ => rfl
  | k :: f, ls => by rw [fg, fg_len f, List.length_set]
theorem fg_get : ∀ (f : List Nat) (ls : jLs) (i : Nat) (v : Value), (fg f ls)[i]? = some (some v) → ls[i]? = some (some v)
  | [], _, _, _, h => h
  | k :: f, ls, i, v, h => by
    have h1 := fg_get f _ i v h
    by_cases e : k = i
    · subst e
      rw [List.getElem?_set_self'] at h1
      cases hx : ls[k]? <;> rw [hx] at h1 <;> cases h1
    · rwa [List.getElem?_set_ne e] at h1
theorem jLR_fg {LS : Array Slot} {n : Nat} {ls : jLs} (h : jLR LS n ls) (f : List Nat) : jLR LS n (fg f ls) :=
  jLR.of h.2 ((fg_len f ls).trans h.1) fun i v hv => mem_lvl.mpr (fg_get f ls i v hv)
theorem cut_len (l : jLs) (x : Nat) : (cut l x).length = l.length := by
  unfold cut
  split
  · split <;> simp
  · rfl
theorem cut_get (l : jLs) (x j : Nat) (w : Value) (hj : j ≠ x) (h : (cut l x)[j]? = some (some w)) : l[j]? = some (some w) ∧ ¬ (j + 1 = x ∧ w.category = 2) := by
  unfold cut at h
  split at h
  · next v hv =>
    by_cases e : v.category = 2
    · rw [if_pos e] at h
      by_cases e2 : x - 1 = j
      · subst e2
        rw [List.getElem?_set_self'] at h
        rw [hv] at h
        cases h
      · rw [List.getElem?_set_ne e2] at h
        exact ⟨h, fun q => e2 (by omega)⟩
    · rw [if_neg e] at h
      refine ⟨h, fun q => e ?_⟩
      have e3 : x - 1 = j := by omega
      rw [e3, h] at hv
      cases hv
      exact q.2
  · next hv =>
    refine ⟨h, fun q => hv w ?_⟩
    have e3 : x - 1 = j := by omega
    rw [e3, h]
theorem jLR.sto1 {LS : Array Slot} {n : Nat} {ls : jLs} (h : jLR LS n ls) {i : Nat} {v : Value} {LS' : Array Slot} (h' : lv_has LS' n ((i, v) :: (lvl ls).filter (fun q => !(q.1 == i) && !(q.1 + 1 == i && q.2.category == 2)))) : jLR LS' n ((cut ls i).set i (some v)) := by
  refine jLR.of h' (by rw [List.length_set, cut_len, h.1]) fun j w hw => ?_
  by_cases e : i = j
  · subst e
    rw [List.getElem?_set_self'] at hw
    cases hx : (cut ls i)[i]? <;> rw [hx] at hw <;> cases hw
    exact List.mem_cons_self
  · rw [List.getElem?_set_ne e] at hw
    obtain ⟨h1, h2⟩ := cut_get ls i j w (Ne.symm e) hw
    refine List.mem_cons_of_mem _ (List.mem_filter.mpr ⟨mem_lvl.mpr h1, ?_⟩)
    have e1 : (j == i) = false := by simpa using Ne.symm e
    have e2 : (j + 1 == i && w.category == 2) = false := by
      cases hb : (j + 1 == i && w.category == 2) with
      | false => rfl
      | true =>
        rw [Bool.and_eq_true, beq_iff_eq, beq_iff_eq] at hb
        exact absurd hb h2
    show (!(j == i) && !(j + 1 == i && w.category == 2)) = true
    rw [e1, e2]; rfl
theorem jLR.sto2 {LS : Array Slot} {n : Nat} {ls : jLs} (h : jLR LS n ls) {i : Nat} {v : Value} {LS' : Array Slot} (h' : lv_has LS' n ((i, v) :: (lvl ls).filter (fun q => !(q.1 == i) && (!(q.1 == i + 1) && !(q.1 + 1 == i && q.2.category == 2))))) : jLR LS' n (((cut ls i).set i (some v)).set (i + 1) none) := by
  refine jLR.of h' (by rw [List.length_set, List.length_set, cut_len, h.1]) fun j w hw => ?_
  by_cases e0 : i + 1 = j
  · subst e0
    rw [List.getElem?_set_self'] at hw
    cases hx : ((cut ls i).set i (some v))[i + 1]? <;> rw [hx] at hw <;> cases hw
  rw [List.getElem?_set_ne e0] at hw
  by_cases e : i = j
  · subst e
    rw [List.getElem?_set_self'] at hw
    cases hx : (cut ls i)[i]? <;> rw [hx] at hw <;> cases hw
    exact List.mem_cons_self
  · rw [List.getElem?_set_ne e] at hw
    obtain ⟨h1, h2⟩ := cut_get ls i j w (Ne.symm e) hw
    refine List.mem_cons_of_mem _ (List.mem_filter.mpr ⟨mem_lvl.mpr h1, ?_⟩)
    have e1 : (j == i) = false := by simpa using Ne.symm e
    have e3 : (j == i + 1) = false := by simpa using Ne.symm e0
    have e2 : (j + 1 == i && w.category == 2) = false := by
      cases hb : (j + 1 == i && w.category == 2) with
      | false => rfl
      | true =>
        rw [Bool.and_eq_true, beq_iff_eq, beq_iff_eq] at hb
        exact absurd hb h2
    show (!(j == i) && (!(j == i + 1) && !(j + 1 == i && w.category == 2))) = true
    rw [e1, e2, e3]; rfl
/-- the locals at a method's entry -/
def entS (a : List Value) : jLs := a.flatMap fun v => if v.category = 2 then [some v, none] else [some v]
def ent (n : Nat) (a : List Value) : jLs := entS a ++ List.replicate (n - (entS a).length) none
theorem entS_len (a : List Value) : (entS a).length = (lg_sl a).length := by
  induction a with
  | nil => rfl
  | cons v a ih =>
    show ((if v.category = 2 then [some v, none] else [some v]) ++ entS a).length = ((if v.category = 2 then [Slot.val v, Slot.second] else [Slot.val v]) ++ lg_sl a).length
    rw [List.length_append, List.length_append, ih]
    split <;> rfl
theorem entS_get : ∀ (a : List Value) (o i : Nat) (v : Value), (entS a)[i]? = some (some v) → (o + i, v) ∈ lv_args o a
  | [], o, i, v, h => by simp [entS] at h
  | w :: a, o, i, v, h => by
    have h : ((if w.category = 2 then [some w, none] else [some w]) ++ entS a)[i]? = some (some v) := h
    show (o + i, v) ∈ (o, w) :: lv_args (if w.category = 2 then o + 2 else o + 1) a
    by_cases e : w.category = 2
    · rw [if_pos e] at h ⊢
      match i, h with
      | 0, h => cases h; exact List.mem_cons_self
      | 1, h => cases h
      | i + 2, h =>
        have h : (entS a)[i]? = some (some v) := h
        have := entS_get a (o + 2) i v h
        rw [show o + (i + 2) = o + 2 + i by omega]
        exact List.mem_cons_of_mem _ this
    · rw [if_neg e] at h ⊢
      match i, h with
      | 0, h => cases h; exact List.mem_cons_self
      | i + 1, h =>
        have h : (entS a)[i]? = some (some v) := h
        have := entS_get a (o + 1) i v h
        rw [show o + (i + 1) = o + 1 + i by omega]
        exact List.mem_cons_of_mem _ this
theorem jLR_ent {a : List Value} {n : Nat} (h : (entS a).length ≤ n) : jLR ((lg_sl a ++ List.replicate (n - (lg_sl a).length) Slot.unset).toArray) n (ent n a) := by
  have hl : (lg_sl a).length ≤ n := by rw [← entS_len]; exact h
  refine jLR.of (lv_entry a hl) (by unfold ent; rw [List.length_append, List.length_replicate]; omega) fun i v hv => ?_
  unfold ent at hv
  by_cases e : i < (entS a).length
  · rw [List.getElem?_append_left e] at hv
    have := entS_get a 0 i v hv
    rwa [Nat.zero_add] at this
  · rw [List.getElem?_append_right (by omega)] at hv
    have h1 := List.eq_of_mem_replicate (List.mem_of_getElem? hv)
    cases h1
/-! what the combinators say of Props -/
theorem obd_p {α : Type} {o : Option α} {k : α → Prop} (h : obd False o k) : ∃ x, o = some x ∧ k x := by
  unfold obd at h; split at h
  · exact ⟨_, rfl, h⟩
  · exact h.elim
theorem b2_p {st : List Value} {k : Int32 → Int32 → List Value → Prop} (h : b2 False st k) : ∃ a b s, st = .int b :: .int a :: s ∧ k a b s := by
  unfold b2 at h; split at h
  · exact ⟨_, _, _, rfl, h⟩
  · exact h.elim
theorem b1_p {st : List Value} {k : Int32 → List Value → Prop} (h : b1 False st k) : ∃ a s, st = .int a :: s ∧ k a s := by
  unfold b1 at h; split at h
  · exact ⟨_, _, rfl, h⟩
  · exact h.elim
theorem l2_p {st : List Value} {k : Int64 → Int64 → List Value → Prop} (h : l2 False st k) : ∃ a b s, st = .long b :: .long a :: s ∧ k a b s := by
  unfold l2 at h; split at h
  · exact ⟨_, _, _, rfl, h⟩
  · exact h.elim
theorem l1_p {st : List Value} {k : Int64 → List Value → Prop} (h : l1 False st k) : ∃ a s, st = .long a :: s ∧ k a s := by
  unfold l1 at h; split at h
  · exact ⟨_, _, rfl, h⟩
  · exact h.elim
theorem a1_p {st : List Value} {k : Nat → List Value → Prop} (h : a1 False st k) : ∃ a s, st = .ref a :: s ∧ k a s := by
  unfold a1 at h; split at h
  · exact ⟨_, _, rfl, h⟩
  · exact h.elim
theorem ai_p {st : List Value} {k : Nat → Int32 → List Value → Prop} (h : ai False st k) : ∃ a i s, st = .int i :: .ref a :: s ∧ k a i s := by
  unfold ai at h; split at h
  · exact ⟨_, _, _, rfl, h⟩
  · exact h.elim
theorem aii_p {st : List Value} {k : Nat → Int32 → Int32 → List Value → Prop} (h : aii False st k) : ∃ a i x s, st = .int x :: .int i :: .ref a :: s ∧ k a i x s := by
  unfold aii at h; split at h
  · exact ⟨_, _, _, _, rfl, h⟩
  · exact h.elim
theorem air_p {st : List Value} {k : Nat → Int32 → Nat → List Value → Prop} (h : air False st k) : ∃ a i x s, st = .ref x :: .int i :: .ref a :: s ∧ k a i x s := by
  unfold air at h; split at h
  · exact ⟨_, _, _, _, rfl, h⟩
  · exact h.elim
theorem a5_p {st : List Value} {k : Nat → Int32 → Nat → Int32 → Int32 → List Value → Prop} (h : a5 False st k) : ∃ a i b j n s, st = .int n :: .int j :: .ref b :: .int i :: .ref a :: s ∧ k a i b j n s := by
  unfold a5 at h; split at h
  · exact ⟨_, _, _, _, _, _, rfl, h⟩
  · exact h.elim
theorem nul_p {st : List Value} {k0 : List Value → Prop} {k1 : Nat → List Value → Prop} (h : nul False st k0 k1) : (∃ s, st = .null :: s ∧ k0 s) ∨ ∃ a s, st = .ref a :: s ∧ k1 a s := by
  unfold nul at h; split at h
  · exact Or.inl ⟨_, rfl, h⟩
  · exact Or.inr ⟨_, _, rfl, h⟩
  · exact h.elim
theorem cond_p {b : Bool} {t : Prop} (h : cond b t False) : b = true ∧ t := by cases b; exact h.elim; exact ⟨rfl, h⟩
theorem pfv_p {st : List Value} {z : Nat} {k : Nat → Value → List Value → Prop} (h : pfv False st z k) : ∃ a v s, st = v :: .ref a :: s ∧ k a v s ∧ ((z = 0 ∧ ∃ x, v = .int x) ∨ (z = 3 ∧ ∃ x, v = .int x ∧ bl x = true) ∨ (z = 1 ∧ ∃ x, v = .long x) ∨ (z = 2 ∧ ∃ x, v = .ref x)) := by
  unfold pfv at h; split at h
  · next v a s =>
    cases h0 : Nat.beq z 0 with
    | true => rw [h0] at h; exact ⟨_, _, _, rfl, h, Or.inl ⟨Nat.eq_of_beq_eq_true h0, _, rfl⟩⟩
    | false =>
      rw [h0] at h
      obtain ⟨h1, h⟩ := cond_p h
      obtain ⟨h2, h⟩ := cond_p h
      exact ⟨_, _, _, rfl, h, Or.inr (Or.inl ⟨Nat.eq_of_beq_eq_true h1, _, rfl, h2⟩)⟩
  · obtain ⟨h1, h⟩ := cond_p h
    exact ⟨_, _, _, rfl, h, Or.inr (Or.inr (Or.inl ⟨Nat.eq_of_beq_eq_true h1, _, rfl⟩))⟩
  · obtain ⟨h1, h⟩ := cond_p h
    exact ⟨_, _, _, rfl, h, Or.inr (Or.inr (Or.inr ⟨Nat.eq_of_beq_eq_true h1, _, rfl⟩))⟩
  · exact h.elim
theorem ldI_p {ls : jLs} {x : Nat} {k : Int32 → Prop} (h : ldI False ls x k) : ∃ v, ls[x]? = some (some (.int v)) ∧ k v := by
  unfold ldI at h; split at h
  · next v hv => exact ⟨v, hv, h⟩
  · exact h.elim
theorem ldL_p {ls : jLs} {x : Nat} {k : Int64 → Prop} (h : ldL False ls x k) : ∃ v, ls[x]? = some (some (.long v)) ∧ k v := by
  unfold ldL at h; split at h
  · next v hv => exact ⟨v, hv, h⟩
  · exact h.elim
theorem ldA_p {ls : jLs} {x : Nat} {k0 : Prop} {k : Nat → Prop} (h : ldA False ls x k0 k) : (ls[x]? = some (some .null) ∧ k0) ∨ ∃ v, ls[x]? = some (some (.ref v)) ∧ k v := by
  unfold ldA at h; split at h
  · next hv => exact Or.inl ⟨hv, h⟩
  · next v hv => exact Or.inr ⟨v, hv, h⟩
  · exact h.elim
theorem sto1_p {ls : jLs} {x : Nat} {v : Value} {k : jLs → Prop} (h : sto1 False ls x v k) : x < ls.length ∧ k ((cut ls x).set x (some v)) := by
  obtain ⟨h1, h2⟩ := cond_p h
  exact ⟨Nat.le_of_ble_eq_true h1, h2⟩
theorem sto2_p {ls : jLs} {x : Nat} {v : Value} {k : jLs → Prop} (h : sto2 False ls x v k) : x + 1 < ls.length ∧ k (((cut ls x).set x (some v)).set (x + 1) none) := by
  obtain ⟨h1, h2⟩ := cond_p h
  exact ⟨Nat.le_of_ble_eq_true h1, h2⟩
theorem ret1_p {st : List Value} {k : Value → Prop} (h : ret1 False st k) : ∃ v, st = [v] ∧ k v := by
  unfold ret1 at h; split at h
  · exact ⟨_, rfl, h⟩
  · exact h.elim
theorem tk_eq : ∀ (n : Nat) (st acc a s : List Value), tk n st acc = some (a, s) → ∃ b, b.length = n ∧ st = b ++ s ∧ a = b.reverse ++ acc
  | 0, st, acc, a, s, h => by cases h; exact ⟨[], rfl, rfl, rfl⟩
  | n + 1, [], acc, a, s, h => by cases h
  | n + 1, v :: st, acc, a, s, h => by
    obtain ⟨b, h1, h2, h3⟩ := tk_eq n st (v :: acc) a s h
    exact ⟨v :: b, by rw [List.length_cons, h1], by rw [h2]; rfl, by rw [h3, List.reverse_cons, List.append_assoc]; rfl⟩
theorem inv_p {st : List Value} {n : Nat} {k : List Value → List Value → Prop} (h : inv False st n k) : ∃ a s, st = a.reverse ++ s ∧ a.length = n ∧ catS s ≤ 8 ∧ k a s := by
  unfold inv at h; split at h
  · next q hq =>
    obtain ⟨a, s⟩ := q
    obtain ⟨h1, h2⟩ := cond_p h
    obtain ⟨b, e1, e2, e3⟩ := tk_eq n st [] a s hq
    rw [List.append_nil] at e3
    subst e3
    exact ⟨b.reverse, s, by rw [List.reverse_reverse]; exact e2, by rw [List.length_reverse, e1], Nat.le_of_ble_eq_true h1, h2⟩
  · exact h.elim
theorem rcv_p {h : jHp} {a : List Value} {c : Nat} {k : Prop} (hh : rcv False h a c k) : ∃ q t F, a = .ref q :: t ∧ gO h q c = some F ∧ k := by
  unfold rcv at hh; split at hh
  · obtain ⟨F, h1, h2⟩ := obd_p hh
    exact ⟨_, _, F, rfl, h1, h2⟩
  · exact hh.elim
theorem ref0_p {a : List Value} {k : Prop} (hh : ref0 False a k) : ∃ q t, a = .ref q :: t ∧ k := by
  unfold ref0 at hh; split at hh
  · exact ⟨_, _, rfl, hh⟩
  · exact hh.elim
theorem gO_p {h : jHp} {a c : Nat} {F : Nat → Value} (e : gO h a c = some F) : h.1 a = some (cO c F) := by
  unfold gO at e; split at e
  · next q hq =>
    obtain ⟨c', F'⟩ := q
    split at e
    · next h1 => cases e; cases h1; exact hq
    · cases e
  · cases e
theorem vI_p {v : Value} {x : Int32} (h : vI v = some x) : v = .int x := by unfold vI at h; split at h <;> cases h; rfl
theorem vJ_p {v : Value} {x : Int64} (h : vJ v = some x) : v = .long x := by unfold vJ at h; split at h <;> cases h; rfl
theorem vA_p {v : Value} {x : Nat} (h : vA v = some x) : v = .ref x := by unfold vA at h; split at h <;> cases h; rfl
theorem wI_p {h : jHp} {a : Nat} {q : Nat × (Nat → Int32)} (e : wI h a = some q) : h.1 a = some (cI q.1 q.2) := by
  unfold wI at e; split at e
  · next hq => cases e; exact hq
  · cases e
theorem gR_p {h : jHp} {a : Nat} {q : Nat × Nat × (Nat → Option Nat)} (e : gR h a = some q) : h.1 a = some (cR q.1 q.2.1 q.2.2) := by
  unfold gR at e; split at e
  · next hq => cases e; exact hq
  · cases e
theorem aI_p {h : jHp} {a : Nat} {q : Nat × (Nat → Int32)} (e : aI h a = some q) : h.1 a = some (cI q.1 q.2) ∨ h.1 a = some (cS q.1 q.2) := by
  unfold aI at e; split at e
  · next hq => cases e; exact Or.inl hq
  · next hq => cases e; exact Or.inr hq
  · cases e
