/-! The interpreter's runs are the machine's. -/
theorem jLe.tr {a b c : jHp} (h : jLe a b) (k : jLe b c) : jLe a c := ⟨Nat.le_trans h.1 k.1, Nat.le_trans h.2 k.2⟩
theorem jMet_of {l : Launch} {B : Nat} {D : va_G} {x : Nat} {a : List Value} {h h1 : jHp} {v : Option Value} (h0 : 0 < x) (h1' : x < nM) (hent : (entS a).length ≤ mL x)
    (body : ∀ {p : Program} {e : Env} {RM : Room} {s : State} {mm : MethodId} {args : Array Value} {below : List Frame} {meth : Method} {c : Code} {Q : State → Prop}, jCtx p RM s mm args meth c D x (rk x a) → h1.2.1 - h.2.1 ≤ RM.cells → h1.2.2 - h.2.2 ≤ RM.slots →
      jRt p l e RM s mm args below meth c Q B D x h.2.1 h.2.2 v h1 → jW p l e RM s mm args below meth c Q B D x h.2.1 h.2.2 0 (ent (mL x) a) [] h) :
    Met l (mY x) (jWs x) (jRm (rk x a) (h1.2.1 - h.2.1) (h1.2.2 - h.2.2)) (jPc B D a h) (jQc B D v h1) (h1.2.1 - h.2.1) (h1.2.2 - h.2.2) (fun q => B ≤ q) := by
  obtain ⟨k1, k2, k3, k4, k5, k6, k7, k8, k9, k10, k11⟩ := okM_p h0 h1'
  refine va_MetF (cc := mB x) (maxL := mL x) (ret := mR x) k2 rfl ?_
  intro p e s m args below meth c s₁ Bd hml hv
  obtain ⟨rfl, hS, hK, hbad⟩ := hv
  have hts := atoms_spec (ws := jWs x) Bd.pre
  have hown : s.vm.findClass (cnT (mO x)) = some m.cls := by rw [← k3]; exact findClass_of_methodNamed Bd.named
  have hin : mK x = 2 → meth.name = "<init>" := fun q => by rw [(name_of_methodNamed Bd.named Bd.method).1]; exact (k11 q).2.1
  have hC : jCtx p (headSpec (jWs x) (jRm (rk x a) (h1.2.1 - h.2.1) (h1.2.2 - h.2.2))).room s m a.toArray meth c D x (rk x a) :=
    ⟨Bd.exec, Bd.bytes, hml, hown, fun w hw => hts w (List.mem_cons_of_mem _ hw), hK, hbad, hin, Nat.le_refl _, Nat.le_refl _, h1'⟩
  rw [lg_entry_eq]
  have hw := body (p := p) (e := e) (below := below) (Q := MQ below (jQc B D v h1) a.toArray s (h1.2.1 - h.2.1) (h1.2.2 - h.2.2) (fun q => B ≤ q)) hC (Nat.le_refl _) (Nat.le_refl _) ?_ _ s.heap [] (jLR_ent hent) hS (fun q hq => by cases hq)
  · rw [Nat.sub_self, Nat.sub_self] at hw
    exact hw
  intro pc LS H locs S1 hl hr
  have hq : ∀ t : State, t.heap = H → s.WarmedH t.vm → jQc B D v h1 a.toArray s (.returned v) t := fun t ht hW => ⟨rfl, by rw [ht]; exact S1.moved hW.alike⟩
  have hx := Bd.exec
  have hb := Bd.bytes
  have hret := Bd.returns
  have hlocks := Bd.notSynchronized
  unfold jRet at hr
  split at hr
  · obtain ⟨hd, h | ⟨h, hbl⟩⟩ := hr
    · exact W.zret hx hb (by rw [hret, h]) rfl hq hl hd
    · refine W.zret hx hb (by rw [hret, h]) ?_ hq hl hd
      unfold bl at hbl
      rw [Bool.or_eq_true, beq_iff_eq, beq_iff_eq] at hbl
      rcases hbl with rfl | rfl <;> decide
  · obtain ⟨hd, h⟩ := hr
    exact W.lret hx hb (by rw [hret, h]) hq hl hd
  · obtain ⟨hd, h⟩ := hr
    cases hmr : mR x with
    | none => rw [hmr] at h; cases h
    | some ty =>
      rw [hmr] at h hret
      cases ty <;> first | (cases h; done) | exact W.aret hx hb hret (Or.inl ⟨_, rfl⟩) (Or.inr ⟨_, rfl⟩) hq hl hd | exact W.aret hx hb hret (Or.inr ⟨_, rfl⟩) (Or.inr ⟨_, rfl⟩) hq hl hd
  · obtain ⟨hd, h⟩ := hr
    cases hmr : mR x with
    | none => rw [hmr] at h; cases h
    | some ty =>
      rw [hmr] at h hret
      cases ty <;> first | (cases h; done) | exact W.aret hx hb hret (Or.inl ⟨_, rfl⟩) (Or.inl rfl) hq hl hd | exact W.aret hx hb hret (Or.inr ⟨_, rfl⟩) (Or.inl rfl) hq hl hd
  · obtain ⟨hd, h⟩ := hr
    exact W.vret hx hb (by rw [hret, h]) hq hl hd
  · exact hr.elim
theorem obd_n {α β : Type} {o : Option α} {k : α → Option β} {y : β} (h : obd none o k = some y) : ∃ x, o = some x ∧ k x = some y := by
  unfold obd at h; split at h
  · exact ⟨_, rfl, h⟩
  · cases h
theorem cond_n {β : Type} {b : Bool} {t : Option β} {y : β} (h : cond b t none = some y) : b = true ∧ t = some y := by
  cases b
  · cases h
  · exact ⟨rfl, h⟩
theorem snd (l : Launch) (B : Nat) (D : va_G) : ∀ (n r m pc : Nat) (ls : jLs) (st : List Value) (h : jHp) (v : Option Value) (h' : jHp), run n r m pc ls st h = some (v, h') → jLe h h' ∧
    ∀ {p : Program} {e : Env} {RM : Room} {s : State} {mm : MethodId} {args : Array Value} {below : List Frame} {meth : Method} {c : Code} {Q : State → Prop} {bc bs : Nat}, jCtx p RM s mm args meth c D m r → bc ≤ h.2.1 → bs ≤ h.2.2 → h'.2.1 - bc ≤ RM.cells → h'.2.2 - bs ≤ RM.slots →
      jRt p l e RM s mm args below meth c Q B D m bc bs v h' → jW p l e RM s mm args below meth c Q B D m bc bs pc ls st h := by
  intro n
  induction n with
  | zero => intro r m pc ls st h v h' hr; cases hr
  | succ n ih =>
    intro r m pc ls st h v h' hr
    unfold run at hr
    rw [stp_hnd] at hr
    have hm := stp_mono m pc ls st h
    rw [stp_hnd] at hm
    cases hd : dec m pc ls st h with
    | none => rw [hd] at hr; cases hr
    | some d =>
      rw [hd] at hr hm
      rcases d with q | q | q
      · obtain ⟨v0, h0⟩ := q
        have hr : some (v0, h0) = some (v, h') := hr
        cases hr
        refine ⟨hm, fun C0 hc hs k1 k2 kr => step C0 hc hs ?_⟩
        rw [stp_hnd, hd]
        exact kr
      · obtain ⟨pc1, ls1, st1, h1⟩ := q
        have hr : run n r m pc1 ls1 st1 h1 = some (v, h') := hr
        have hm : jLe h h1 := hm
        obtain ⟨e1, e2⟩ := ih _ _ _ _ _ _ _ _ hr
        refine ⟨hm.tr e1, fun C0 hc hs k1 k2 kr => step C0 hc hs ?_⟩
        rw [stp_hnd, hd]
        have g1 := hm.1; have g2 := hm.2; have g3 := e1.1; have g4 := e1.2
        exact ⟨⟨Nat.le_trans (Nat.sub_le_sub_right e1.1 _) k1, Nat.le_trans (Nat.sub_le_sub_right e1.2 _) k2⟩, e2 C0 (Nat.le_trans hc g1) (Nat.le_trans hs g2) k1 k2 kr⟩
      · obtain ⟨x, a, h0, pc1, ls1, st1⟩ := q
        have hm : h0 = h ∧ _ := hm
        obtain ⟨rfl, -⟩ := hm
        obtain ⟨hcd, hr⟩ := cond_n hr
        obtain ⟨hrk, hen⟩ := and_p hcd
        obtain ⟨⟨v1, h1⟩, hr1, hr2⟩ := obd_n hr
        have hr2 : run n r m pc1 ls1 (v1.toList ++ st1) h1 = some (v, h') := hr2
        obtain ⟨e1, e2⟩ := ih _ _ _ _ _ _ _ _ hr1
        obtain ⟨e3, e4⟩ := ih _ _ _ _ _ _ _ _ hr2
        refine ⟨e1.tr e3, fun C0 hc hs k1 k2 kr => step C0 hc hs ?_⟩
        rw [stp_hnd, hd]
        have g1 := e1.1; have g2 := e1.2; have g3 := e3.1; have g4 := e3.2
        exact ⟨v1, h1, ⟨Nat.le_of_ble_eq_true hrk, e1, fun hx0 hx1 => jMet_of hx0 hx1 (Nat.le_of_ble_eq_true hen) fun ctx c1 c2 kr' => e2 ctx (Nat.le_refl _) (Nat.le_refl _) c1 c2 kr'⟩, ⟨Nat.le_trans (Nat.sub_le_sub_right e3.1 _) k1, Nat.le_trans (Nat.sub_le_sub_right e3.2 _) k2⟩, ⟨Nat.le_trans (Nat.sub_le_sub_right e3.1 _) k1, Nat.le_trans (Nat.sub_le_sub_right e3.2 _) k2⟩, e4 C0 (Nat.le_trans hc g1) (Nat.le_trans hs g2) k1 k2 kr⟩
/-! The limit of the runs: an equation an instruction. -/
theorem run_succ : ∀ (n r m p : Nat) (ls : jLs) (st : List Value) (h : jHp) (x : Option Value × jHp), run n r m p ls st h = some x → run (n + 1) r m p ls st h = some x := by
  intro n
  induction n with
  | zero => intro r m p ls st h x hr; cases hr
  | succ n ih =>
    intro r m p ls st h x hr
    unfold run at hr ⊢
    rw [stp_hnd] at hr ⊢
    cases hd : dec m p ls st h with
    | none => rw [hd] at hr; cases hr
    | some d =>
      rw [hd] at hr
      rcases d with q | q | q
      · exact hr
      · exact ih _ _ _ _ _ _ _ hr
      · obtain ⟨hcd, hr⟩ := cond_n hr
        obtain ⟨y, hr1, hr2⟩ := obd_n hr
        show cond _ _ _ = _
        rw [hcd, cond_true, ih _ _ _ _ _ _ _ hr1]
        exact ih _ _ _ _ _ _ _ hr2
theorem run_le {n k r m p : Nat} {ls : jLs} {st : List Value} {h : jHp} {x : Option Value × jHp} (hk : n ≤ k) (hr : run n r m p ls st h = some x) : run k r m p ls st h = some x := by
  induction hk with
  | refl => exact hr
  | step _ ih => exact run_succ _ _ _ _ _ _ _ _ ih
noncomputable def R (r m p : Nat) (ls : jLs) (st : List Value) (h : jHp) : jRs := @dite _ (∃ (x : Option Value × jHp) (n : Nat), run n r m p ls st h = some x) (Classical.propDecidable _) (fun q => some (Classical.choose q)) (fun _ => none)
theorem R_iff {r m p : Nat} {ls : jLs} {st : List Value} {h : jHp} {x : Option Value × jHp} : R r m p ls st h = some x ↔ ∃ n, run n r m p ls st h = some x := by
  unfold R
  by_cases q : ∃ (x : Option Value × jHp) (n : Nat), run n r m p ls st h = some x
  · rw [dif_pos q]
    obtain ⟨n, hn⟩ := Classical.choose_spec q
    constructor
    · intro e
      cases e
      exact ⟨n, hn⟩
    · rintro ⟨k, hk⟩
      have e1 := run_le (Nat.le_max_left n k) hn
      have e2 := run_le (Nat.le_max_right n k) hk
      rw [e1] at e2
      exact e2
  · rw [dif_neg q]
    constructor
    · intro e; cases e
    · rintro ⟨k, hk⟩; exact absurd ⟨x, k, hk⟩ q
/-- a call of method m: what it answers, and the heap behind it -/
noncomputable def mc (m : Nat) (a : List Value) (h : jHp) : jRs := R (rk m a) m 0 (ent (mL m) a) [] h
noncomputable def cal (r m : Nat) (a : List Value) (h : jHp) (k : Option Value → jHp → jRs) : jRs := cond (Nat.blt (rk m a) r && Nat.ble (entS a).length (mL m)) (obd none (mc m a h) fun x => k x.1 x.2) none
theorem opt_ext {α : Type} {a b : Option α} (h : ∀ x, a = some x ↔ b = some x) : a = b := by
  cases a with
  | none =>
    cases b with
    | none => rfl
    | some y => exact ((h y).mpr rfl).symm ▸ rfl
  | some y => exact ((h y).mp rfl).symm
theorem R_eq (r m p : Nat) (ls : jLs) (st : List Value) (h : jHp) : R r m p ls st h = stp none (fun v h => some (v, h)) (R r m) (cal r) m p ls st h := by
  rw [stp_hnd]
  apply opt_ext
  intro x
  rw [R_iff]
  cases hd : dec m p ls st h with
  | none =>
    constructor
    · rintro ⟨n, hn⟩
      cases n with
      | zero => cases hn
      | succ n => unfold run at hn; rw [stp_hnd, hd] at hn; cases hn
    · intro e; cases e
  | some d =>
    rcases d with q | q | q
    · constructor
      · rintro ⟨n, hn⟩
        cases n with
        | zero => cases hn
        | succ n => unfold run at hn; rw [stp_hnd, hd] at hn; exact hn
      · intro e
        exact ⟨1, by unfold run; rw [stp_hnd, hd]; exact e⟩
    · constructor
      · rintro ⟨n, hn⟩
        cases n with
        | zero => cases hn
        | succ n => unfold run at hn; rw [stp_hnd, hd] at hn; exact R_iff.mpr ⟨n, hn⟩
      · intro e
        obtain ⟨n, hn⟩ := R_iff.mp e
        exact ⟨n + 1, by unfold run; rw [stp_hnd, hd]; exact hn⟩
    · constructor
      · rintro ⟨n, hn⟩
        cases n with
        | zero => cases hn
        | succ n =>
          unfold run at hn; rw [stp_hnd, hd] at hn
          obtain ⟨hcd, hr⟩ := cond_n hn
          obtain ⟨y, hr1, hr2⟩ := obd_n hr
          show cond _ _ _ = _
          rw [hcd, cond_true, show mc q.1 q.2.1 q.2.2.1 = some y from R_iff.mpr ⟨n, hr1⟩]
          exact R_iff.mpr ⟨n, hr2⟩
      · intro e
        obtain ⟨hcd, hr⟩ := cond_n e
        obtain ⟨y, hr1, hr2⟩ := obd_n hr
        obtain ⟨n, hn⟩ := R_iff.mp hr1
        obtain ⟨k, hk⟩ := R_iff.mp hr2
        refine ⟨max n k + 1, ?_⟩
        unfold run
        rw [stp_hnd, hd]
        show cond _ _ _ = _
        rw [hcd, cond_true, run_le (Nat.le_max_left n k) hn]
        exact run_le (Nat.le_max_right n k) hk
def memN (S : List Nat) (p : Nat) : Bool := S.any (Nat.beq p)
/-- up to n instructions on, but not past a place of S -/
noncomputable def sx (S : List Nat) : Nat → Nat → Nat → Nat → jLs → List Value → jHp → jRs
  | 0, r, m, p, ls, st, h => R r m p ls st h
  | n + 1, r, m, p, ls, st, h => cond (memN S p) (R r m p ls st h) (stp none (fun v h => some (v, h)) (sx S n r m) (cal r) m p ls st h)
theorem sx_eq (S : List Nat) : ∀ n r m, sx S n r m = R r m := by
  intro n r m
  induction n with
  | zero => rfl
  | succ n ih =>
    funext p ls st h
    show cond (memN S p) (R r m p ls st h) (stp none (fun v h => some (v, h)) (sx S n r m) (cal r) m p ls st h) = _
    rw [ih, ← R_eq]
    cases memN S p <;> rfl
theorem R_sx (S : List Nat) (n r m p : Nat) (ls : jLs) (st : List Value) (h : jHp) : R r m p ls st h = stp none (fun v h => some (v, h)) (sx S n r m) (cal r) m p ls st h := by
  rw [sx_eq]; exact R_eq r m p ls st h
