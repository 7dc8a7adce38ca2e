/-! From an instruction to a run: what the interpreter comes to, the machine comes to. -/
theorem b2_t {st : List Value} {k : Int32 → Int32 → List Value → Prop} (h : ∀ a b s, k a b s) : b2 True st k := by unfold b2; split <;> first | exact h _ _ _ | trivial
theorem b1_t {st : List Value} {k : Int32 → List Value → Prop} (h : ∀ a s, k a s) : b1 True st k := by unfold b1; split <;> first | exact h _ _ | trivial
theorem l2_t {st : List Value} {k : Int64 → Int64 → List Value → Prop} (h : ∀ a b s, k a b s) : l2 True st k := by unfold l2; split <;> first | exact h _ _ _ | trivial
theorem l1_t {st : List Value} {k : Int64 → List Value → Prop} (h : ∀ a s, k a s) : l1 True st k := by unfold l1; split <;> first | exact h _ _ | trivial
theorem a1_t {st : List Value} {k : Nat → List Value → Prop} (h : ∀ a s, k a s) : a1 True st k := by unfold a1; split <;> first | exact h _ _ | trivial
theorem ai_t {st : List Value} {k : Nat → Int32 → List Value → Prop} (h : ∀ a i s, k a i s) : ai True st k := by unfold ai; split <;> first | exact h _ _ _ | trivial
theorem aii_t {st : List Value} {k : Nat → Int32 → Int32 → List Value → Prop} (h : ∀ a i x s, k a i x s) : aii True st k := by unfold aii; split <;> first | exact h _ _ _ _ | trivial
theorem air_t {st : List Value} {k : Nat → Int32 → Nat → List Value → Prop} (h : ∀ a i x s, k a i x s) : air True st k := by unfold air; split <;> first | exact h _ _ _ _ | trivial
theorem a5_t {st : List Value} {k : Nat → Int32 → Nat → Int32 → Int32 → List Value → Prop} (h : ∀ a i b j n s, k a i b j n s) : a5 True st k := by unfold a5; split <;> first | exact h _ _ _ _ _ _ | trivial
theorem obd_t {α : Type} {o : Option α} {k : α → Prop} (h : ∀ x, o = some x → k x) : obd True o k := by unfold obd; split <;> first | exact h _ (by assumption) | exact h _ rfl | trivial
theorem nul_t {st : List Value} {k0 : List Value → Prop} {k1 : Nat → List Value → Prop} (h0 : ∀ s, k0 s) (h1 : ∀ a s, k1 a s) : nul True st k0 k1 := by unfold nul; split <;> first | exact h0 _ | exact h1 _ _ | trivial
theorem cond_t {b : Bool} {t f : Prop} (h1 : t) (h2 : f) : cond b t f := by cases b; exact h2; exact h1
theorem pfv_t {st : List Value} {z : Nat} {k : Nat → Value → List Value → Prop} (h : ∀ a v s, k a v s) : pfv True st z k := by
  unfold pfv; split <;> first | exact cond_t (h _ _ _) (cond_t (cond_t (h _ _ _) trivial) trivial) | exact cond_t (h _ _ _) trivial | trivial
theorem ldI_t {ls : jLs} {x : Nat} {k : Int32 → Prop} (h : ∀ v, k v) : ldI True ls x k := by unfold ldI; split <;> first | exact h _ | trivial
theorem ldL_t {ls : jLs} {x : Nat} {k : Int64 → Prop} (h : ∀ v, k v) : ldL True ls x k := by unfold ldL; split <;> first | exact h _ | trivial
theorem ldA_t {ls : jLs} {x : Nat} {k0 : Prop} {k : Nat → Prop} (h0 : k0) (h : ∀ v, k v) : ldA True ls x k0 k := by unfold ldA; split <;> first | exact h0 | exact h _ | trivial
theorem sto1_t {ls : jLs} {x : Nat} {v : Value} {k : jLs → Prop} (h : ∀ l, k l) : sto1 True ls x v k := cond_t (h _) trivial
theorem sto2_t {ls : jLs} {x : Nat} {v : Value} {k : jLs → Prop} (h : ∀ l, k l) : sto2 True ls x v k := cond_t (h _) trivial
theorem ret1_t {st : List Value} {k : Value → Prop} (h : ∀ v, k v) : ret1 True st k := by unfold ret1; split <;> first | exact h _ | trivial
theorem inv_t {st : List Value} {n : Nat} {k : List Value → List Value → Prop} (h : ∀ a s, k a s) : inv True st n k := by unfold inv; split <;> first | exact cond_t (h _ _) trivial | trivial
theorem rcv_t {hp : jHp} {a : List Value} {c : Nat} {k : Prop} (h : k) : rcv True hp a c k := by unfold rcv; split <;> first | exact obd_t fun _ _ => h | trivial
theorem ref0_t {a : List Value} {k : Prop} (h : k) : ref0 True a k := by unfold ref0; split <;> first | exact h | trivial
theorem ite_t {p : Prop} [Decidable p] {t f : Prop} (h1 : t) (h2 : f) : (if p then t else f) := by split; exact h1; exact h2
theorem ifc_t {c : ClassFile.Cond} {v : Int32} {t f : Prop} (h1 : t) (h2 : f) : ifc c v t f := by cases c <;> simp only [ifc] <;> first | exact ite_t h1 h2 | exact ite_t h2 h1
theorem icm_t {c : ClassFile.Cond} {a b : Int32} {t f : Prop} (h1 : t) (h2 : f) : icm c a b t f := by cases c <;> simp only [icm] <;> first | exact ite_t h1 h2 | exact ite_t h2 h1
theorem hnew_le (h : jHp) (c : jCl) (n : Nat) : jLe h (hnew h c n) := ⟨Nat.le_succ _, Nat.le_add_right _ _⟩
theorem hset_le (h : jHp) (a : Nat) (c : jCl) : jLe h (hset h a c) := ⟨Nat.le_refl _, Nat.le_refl _⟩
theorem pF_le {h h1 : jHp} {a c k : Nat} {v : Value} (e : pF h a c k v = some h1) : jLe h h1 := by
  obtain ⟨F, -, e2⟩ := Option.bind_eq_some_iff.mp e
  cases e2; exact hset_le _ _ _
theorem asI_le {h h1 : jHp} {a : Nat} {i x : Int32} (e : asI h a i x = some h1) : jLe h h1 := by
  obtain ⟨F, -, e2⟩ := Option.bind_eq_some_iff.mp e
  split at e2 <;> cases e2; exact hset_le _ _ _
theorem asR_le {h h1 : jHp} {a v : Nat} {i : Int32} (e : asR h a i v = some h1) : jLe h h1 := by
  obtain ⟨F, -, e2⟩ := Option.bind_eq_some_iff.mp e
  split at e2
  · cases e2
  · obtain ⟨G, -, e3⟩ := Option.bind_eq_some_iff.mp e2
    cases e3; exact hset_le _ _ _
theorem newI_le {h h1 : jHp} {n : Int32} (e : newI h n = some h1) : jLe h h1 := by
  unfold newI at e; split at e <;> cases e; exact hnew_le _ _ _
theorem newR_le {h h1 : jHp} {t : Nat} {n : Int32} (e : newR h t n = some h1) : jLe h h1 := by
  unfold newR at e; split at e <;> cases e; exact hnew_le _ _ _
theorem acpy_le {h h1 : jHp} {a b : Nat} {i j n : Int32} (e : acpy h a i b j n = some h1) : jLe h h1 := by
  obtain ⟨F, -, e2⟩ := Option.bind_eq_some_iff.mp e
  obtain ⟨G, -, e3⟩ := Option.bind_eq_some_iff.mp e2
  split at e3 <;> cases e3; exact hset_le _ _ _
set_option maxHeartbeats 4000000 in
theorem stp_mono (m p : Nat) (ls : jLs) (st : List Value) (h : jHp) : stp True (fun _ h1 => jLe h h1) (fun _ _ _ h1 => jLe h h1) (fun _ _ h1 k => h1 = h ∧ ∀ v h2, jLe h h2 → k v h2) m p ls st h := by
  unfold stp
  cases insAt m p with
  | none => trivial
  | some q =>
    obtain ⟨i, n, x, y, z, f⟩ := q
    cases i <;> dsimp only <;> repeat (first
      | trivial
      | exact jLe.rf
      | exact pF_le (by assumption)
      | exact asI_le (by assumption)
      | exact asR_le (by assumption)
      | exact newI_le (by assumption)
      | exact newR_le (by assumption)
      | exact acpy_le (by assumption)
      | exact hnew_le _ _ _
      | exact ⟨rfl, fun _ _ q => q⟩
      | apply ite_t | apply cond_t | apply obd_t | apply b2_t | apply b1_t | apply l2_t | apply l1_t | apply a1_t | apply ai_t | apply aii_t | apply air_t | apply a5_t | apply nul_t | apply pfv_t | apply ldI_t | apply ldL_t | apply ldA_t | apply sto1_t | apply sto2_t | apply ret1_t | apply inv_t | apply rcv_t | apply ref0_t | apply ifc_t | apply icm_t
      | intro _)
/-- a run of method m from p: n instructions at most, r calls open at most above this one -/
def run : Nat → Nat → Nat → Nat → jLs → List Value → jHp → jRs
  | 0, _, _, _, _, _, _ => none
  | n + 1, r, m, p, ls, st, h => stp none (fun v h => some (v, h)) (fun p ls st h => run n r m p ls st h)
      (fun m' a h k => cond (Nat.blt (rk m' a) r && Nat.ble (entS a).length (mL m')) (obd none (run n (rk m' a) m' 0 (ent (mL m') a) [] h) fun x => k x.1 x.2) none) m p ls st h
section JStep2
variable {p : Program} {l : Launch} {e : Env} {RM : Room} {s : State} {mm : MethodId} {args : Array Value} {below : List Frame} {meth : Method} {c : Code} {Q : State → Prop} {B : Nat} {D : va_G} {m r bc bs : Nat}
variable {H : Heap} {locs : List Loc} {cells slots : Nat} {LS : Array Slot} {rest : List Value} {pc : Nat} {h : jHp}
/-- the machine, at method m's frame at pc with a picture of the heap, comes to Q -/
def jW (p : Program) (l : Launch) (e : Env) (RM : Room) (s : State) (mm : MethodId) (args : Array Value) (below : List Frame) (meth : Method) (c : Code) (Q : State → Prop) (B : Nat) (D : va_G) (m bc bs : Nat) (pc : Nat) (ls : jLs) (st : List Value) (h : jHp) : Prop :=
  ∀ (LS : Array Slot) (H : Heap) (locs : List Loc), jLR LS (mL m) ls → jSim B D s H h → (∀ q ∈ locs, B ≤ q.base) → W p l e RM s mm args below meth c H locs (h.2.1 - bc) (h.2.2 - bs) Q (F0 mm pc LS st)
def jRt (p : Program) (l : Launch) (e : Env) (RM : Room) (s : State) (mm : MethodId) (args : Array Value) (below : List Frame) (meth : Method) (c : Code) (Q : State → Prop) (B : Nat) (D : va_G) (m bc bs : Nat) (v : Option Value) (h : jHp) : Prop :=
  ∀ (pc : Nat) (LS : Array Slot) (H : Heap) (locs : List Loc), jSim B D s H h → (∀ q ∈ locs, B ≤ q.base) → jRet m pc v → W p l e RM s mm args below meth c H locs (h.2.1 - bc) (h.2.2 - bs) Q (F0 mm pc LS v.toList)
theorem j_call {mc ms : Nat} {v : Option Value} {h1 : jHp} {g : JFrame} {Qa : State → Outcome → State → Prop} {free : Addr → Prop} (hr : va_Run p l e RM s mm args below meth c H locs cells slots mc ms g rest Qa free) (hQ : ∀ st o t, Qa st o t → o = .returned v ∧ jSim B D t t.heap h1) (hf : ∀ q, free q → B ≤ q) (hL : ∀ q ∈ locs, B ≤ q.base)
    (kk : ∀ (H1 : Heap) (locs1 : List Loc), jSim B D s H1 h1 → (∀ q ∈ locs1, B ≤ q.base) → W p l e RM s mm args below meth c H1 locs1 (cells + mc) (slots + ms) Q { g with pc := g.pc + 3, stack := v.toList ++ rest }) : W p l e RM s mm args below meth c H locs cells slots Q g := by
  intro T hT X
  obtain ⟨w, st₀, t, T', L, h0, X', hL', e1, e2, hq, st⟩ := hr T hT X
  obtain ⟨hv, hS⟩ := hQ _ _ _ hq
  cases hv
  have hal : s.vm.Alike t.vm := by rw [← e2]; exact X'.warmed.alike
  obtain ⟨t2, a1, b1⟩ := kk T'.heap (locs ++ L) (by rw [e1]; exact hS.moved hal.symm) (fun q hq => by
    rcases List.mem_append.mp hq with h | h
    · exact hL q h
    · exact hf _ (hL' q h)) T' rfl X'
  exact ⟨t2, st t2 a1, b1⟩
theorem j_blind {B : Nat} {D : va_G} {a : List Value} {h : jHp} : FrameBlind (jPc B D a h) := fun a' U g mk q => ⟨q.1, q.2.1.moved (u := U) (U := U.calling g mk a') (Vm.Alike.refl U.vm), va_K.moved (u := U) (U := U.calling g mk a') (Vm.Alike.refl U.vm) q.2.2.1, q.2.2.2.same (s := U) (U := U.calling g mk a') rfl⟩
theorem any_p {α : Type} {L : List α} {f : α → Bool} (h : L.any f = true) : ∃ q ∈ L, f q = true := by
  rw [List.any_eq_true] at h
  obtain ⟨q, h1, h2⟩ := h
  exact ⟨q, h1, h2⟩
theorem and_p {a b : Bool} (h : (a && b) = true) : a = true ∧ b = true := by rwa [Bool.and_eq_true] at h
theorem FL_of {o ix x y : Nat} (h : FLs.any (fun q => q.1 == o && q.2.1 == ix && q.2.2.1 == x && q.2.2.2.1 == y) = true) : wF o ix x y ∈ lw_tbl ∧ (fT x y).1 = cnT x ∧ y < fNT x ∧ x < 9 := by
  obtain ⟨⟨o', ix', x', y', i⟩, h1, h2⟩ := any_p h
  obtain ⟨h2, e4⟩ := and_p h2
  obtain ⟨h2, e3⟩ := and_p h2
  obtain ⟨e1, e2⟩ := and_p h2
  have e1 := eq_of_beq e1; have e2 := eq_of_beq e2; have e3 := eq_of_beq e3; have e4 := eq_of_beq e4
  dsimp only at e1 e2 e3 e4
  subst e1; subst e2; subst e3; subst e4
  have h3 := List.all_eq_true.mp okFL_all _ h1
  unfold okFL at h3
  obtain ⟨h3, g4⟩ := and_p h3
  obtain ⟨h3, g3⟩ := and_p h3
  obtain ⟨g1, g2⟩ := and_p h3
  exact ⟨okw_in g1, of_decide_eq_true g2, Nat.le_of_ble_eq_true g3, Nat.le_of_ble_eq_true g4⟩
theorem CL_of {o ix x : Nat} (h : CLs.any (fun q => q.1 == o && q.2.1 == ix && q.2.2.1 == x) = true) : (Jvm.Cond.classLink (cnT o) ix (cnT x)) ∈ lw_tbl ∧ x < 13 := by
  obtain ⟨⟨o', ix', x', i⟩, h1, h2⟩ := any_p h
  obtain ⟨h2, e3⟩ := and_p h2
  obtain ⟨e1, e2⟩ := and_p h2
  have e1 := eq_of_beq e1; have e2 := eq_of_beq e2; have e3 := eq_of_beq e3
  dsimp only at e1 e2 e3
  subst e1; subst e2; subst e3
  have h3 := List.all_eq_true.mp okCL_all _ h1
  unfold okCL at h3
  obtain ⟨g1, g2⟩ := and_p h3
  exact ⟨okw_in g1, Nat.le_of_ble_eq_true g2⟩
theorem KI_of {o ix x y : Nat} (h : KIs.any (fun q => q.1 == o && q.2.1 == ix && q.2.2.1 == x && q.2.2.2.1 == y) = true) : (Jvm.Cond.constant (cnT o) ix (kI x y)) ∈ lw_tbl := by
  obtain ⟨⟨o', ix', x', y', i⟩, h1, h2⟩ := any_p h
  obtain ⟨h2, e4⟩ := and_p h2
  obtain ⟨h2, e3⟩ := and_p h2
  obtain ⟨e1, e2⟩ := and_p h2
  have e1 := eq_of_beq e1; have e2 := eq_of_beq e2; have e3 := eq_of_beq e3; have e4 := eq_of_beq e4
  dsimp only at e1 e2 e3 e4
  subst e1; subst e2; subst e3; subst e4
  exact okw_in (List.all_eq_true.mp okKI_all _ h1)
theorem KL_of {o ix x y : Nat} (h : KLs.any (fun q => q.1 == o && q.2.1 == ix && q.2.2.1 == x && q.2.2.2.1 == y) = true) : (Jvm.Cond.constantLong (cnT o) ix (kL x y)) ∈ lw_tbl := by
  obtain ⟨⟨o', ix', x', y', i⟩, h1, h2⟩ := any_p h
  obtain ⟨h2, e4⟩ := and_p h2
  obtain ⟨h2, e3⟩ := and_p h2
  obtain ⟨e1, e2⟩ := and_p h2
  have e1 := eq_of_beq e1; have e2 := eq_of_beq e2; have e3 := eq_of_beq e3; have e4 := eq_of_beq e4
  dsimp only at e1 e2 e3 e4
  subst e1; subst e2; subst e3; subst e4
  exact okw_in (List.all_eq_true.mp okKL_all _ h1)
theorem ML_of {o ix x y z : Nat} (h : MLs.any (fun q => q.1 == o && q.2.1 == ix && q.2.2.1 == x && q.2.2.2.1 == y && q.2.2.2.2.1 == z) = true) :
    (z = 0 ∧ (Jvm.Cond.methodLink (cnT o) ix (mY x)) ∈ lw_tbl ∧ y = mP x + 1 ∧ mK x = 0 ∧ x < nM ∧ 0 < x) ∨ (z = 1 ∧ (Jvm.Cond.methodLink (cnT o) ix (mY x)) ∈ lw_tbl ∧ y = mP x ∧ mK x = 1 ∧ x < nM ∧ 0 < x) ∨
    (z = 2 ∧ (Jvm.Cond.methodLink (cnT o) ix (mY x)) ∈ lw_tbl ∧ y = mP x + 1 ∧ mK x = 2 ∧ x < nM ∧ 0 < x) ∨ (z = 3 ∧ (Jvm.Cond.methodLinkNest (cnT o) ix (mY x) "RideTie") ∈ lw_tbl ∧ y = mP x + 1 ∧ mK x = 2 ∧ x < nM ∧ 0 < x) ∨
    (z = 4 ∧ (Jvm.Cond.methodLink (cnT o) ix Lib.objectInit) ∈ lw_tbl ∧ y = 1) ∨ (z = 5 ∧ (Jvm.Cond.methodLink (cnT o) ix arraycopyName) ∈ lw_tbl) := by
  obtain ⟨⟨o', ix', x', y', z', i⟩, h1, h2⟩ := any_p h
  obtain ⟨h2, e5⟩ := and_p h2
  obtain ⟨h2, e4⟩ := and_p h2
  obtain ⟨h2, e3⟩ := and_p h2
  obtain ⟨e1, e2⟩ := and_p h2
  have e1 := eq_of_beq e1; have e2 := eq_of_beq e2; have e3 := eq_of_beq e3; have e4 := eq_of_beq e4; have e5 := eq_of_beq e5
  dsimp only at e1 e2 e3 e4 e5
  subst e1; subst e2; subst e3; subst e4; subst e5
  have h3 := List.all_eq_true.mp okML_all _ h1
  unfold okML at h3
  simp only [Bool.or_eq_true, Bool.and_eq_true] at h3
  rcases h3 with ((((⟨⟨⟨⟨⟨a1, a2⟩, a3⟩, a4⟩, a5⟩, a6⟩ | ⟨⟨⟨⟨⟨a1, a2⟩, a3⟩, a4⟩, a5⟩, a6⟩) | ⟨⟨⟨⟨⟨a1, a2⟩, a3⟩, a4⟩, a5⟩, a6⟩) | ⟨⟨⟨⟨⟨a1, a2⟩, a3⟩, a4⟩, a5⟩, a6⟩) | ⟨⟨a1, a2⟩, a3⟩) | ⟨a1, a2⟩
  · exact Or.inl ⟨Nat.eq_of_beq_eq_true a1, okw_in a2, Nat.eq_of_beq_eq_true a3, Nat.eq_of_beq_eq_true a4, Nat.le_of_ble_eq_true a5, Nat.le_of_ble_eq_true a6⟩
  · exact Or.inr (Or.inl ⟨Nat.eq_of_beq_eq_true a1, okw_in a2, Nat.eq_of_beq_eq_true a3, Nat.eq_of_beq_eq_true a4, Nat.le_of_ble_eq_true a5, Nat.le_of_ble_eq_true a6⟩)
  · exact Or.inr (Or.inr (Or.inl ⟨Nat.eq_of_beq_eq_true a1, okw_in a2, Nat.eq_of_beq_eq_true a3, Nat.eq_of_beq_eq_true a4, Nat.le_of_ble_eq_true a5, Nat.le_of_ble_eq_true a6⟩))
  · exact Or.inr (Or.inr (Or.inr (Or.inl ⟨Nat.eq_of_beq_eq_true a1, okw_in a2, Nat.eq_of_beq_eq_true a3, Nat.eq_of_beq_eq_true a4, Nat.le_of_ble_eq_true a5, Nat.le_of_ble_eq_true a6⟩)))
  · exact Or.inr (Or.inr (Or.inr (Or.inr (Or.inl ⟨Nat.eq_of_beq_eq_true a1, okw_in a2, Nat.eq_of_beq_eq_true a3⟩))))
  · exact Or.inr (Or.inr (Or.inr (Or.inr (Or.inr ⟨Nat.eq_of_beq_eq_true a1, okw_in a2⟩))))
/-- what a method's tables hold -/
theorem okM_p {x : Nat} (h0 : 0 < x) (h1 : x < nM) : (Jvm.Cond.code (mY x) (mB x) (mL x) (mR x)) ∈ lw_tbl ∧ plainFor (mY x) = true ∧ (mY x).cls = cnT (mO x) ∧ (mY x).cls ≠ "java/lang/invoke/MethodHandle" ∧ (mY x).cls ≠ "java/lang/invoke/VarHandle" ∧
    (parseMethodDescriptor (mY x).desc).map (fun d => d.parameters.length) = some (mP x) ∧ mL x ≤ 19 ∧ mO x < 12 ∧
    ((mK x = 0 → (Jvm.Cond.instanceMethod (mY x)) ∈ lw_tbl ∧ (Jvm.Cond.selects (cnT (mO x)) (mY x) (mY x)) ∈ lw_tbl) ∧ (mK x = 1 → (Jvm.Cond.static (mY x)) ∈ lw_tbl) ∧ (mK x = 2 → (Jvm.Cond.instanceMethod (mY x)) ∈ lw_tbl ∧ (mY x).name = "<init>" ∧ mR x = none)) := by
  have h := okM_all x h0 h1
  unfold okM at h
  obtain ⟨h, k9⟩ := and_p h
  obtain ⟨h, k8⟩ := and_p h
  obtain ⟨h, k7⟩ := and_p h
  obtain ⟨h, k6⟩ := and_p h
  obtain ⟨h, k5⟩ := and_p h
  obtain ⟨h, k4⟩ := and_p h
  obtain ⟨h, k3⟩ := and_p h
  obtain ⟨k1, k2⟩ := and_p h
  refine ⟨okw_in k1, k2, of_decide_eq_true k3, of_decide_eq_true k4, of_decide_eq_true k5, of_decide_eq_true k6, Nat.le_of_ble_eq_true k7, Nat.le_of_ble_eq_true k8, fun e => ?_, fun e => ?_, fun e => ?_⟩
  · rw [e] at k9
    have k9 : (okw (plI.getD x 0) (.instanceMethod (mY x)) && okw (plS.getD x 0) (.selects (cnT (mO x)) (mY x) (mY x))) = true := k9
    obtain ⟨a, b⟩ := and_p k9
    exact ⟨okw_in a, okw_in b⟩
  · rw [e] at k9
    have k9 : okw (plT.getD x 0) (.static (mY x)) = true := k9
    exact okw_in k9
  · rw [e] at k9
    have k9 : (okw (plI.getD x 0) (.instanceMethod (mY x)) && decide ((mY x).name = "<init>") && decide (mR x = none)) = true := k9
    obtain ⟨h, b⟩ := and_p k9
    obtain ⟨a, d⟩ := and_p h
    exact ⟨okw_in a, of_decide_eq_true d, of_decide_eq_true b⟩
theorem good_cons {w : Jvm.Cond} {T ws : List Jvm.Cond} (h : w ∈ T ∧ ((w.onTables && w.keeps) = true ∨ ∃ ty, w = .arrayClass ty)) (k : GoodIn T ws) : GoodIn T (w :: ws) := fun q hq => (List.mem_cons.mp hq).elim (fun e => e ▸ h) (k q)
theorem good_jWs {x : Nat} (h0 : 0 < x) (h1 : x < nM) : GoodIn jT (jWs x) := good_cons ⟨in_jT (okM_p h0 h1).1 rfl, Or.inl rfl⟩ fun w hw => ⟨hw, jT_good hw⟩
end JStep2
