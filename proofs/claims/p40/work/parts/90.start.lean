/-! THE CLAIM OUT OF ONE WALK OF THE LAW'S BODY. Your part is whole_start (and what it stands on); all else here is the same for every law, but numbers. -/
def R_law : String := "RideTieLaw"
def lw_P (b : Addr) (xs : List Int32) (args : Array Value) (s : State) : Prop := args = #[.ref b] ∧ s.IntsAt b xs ∧ xs.length ≤ 260 ∧ (Jvm.Cond.and given_1 narrow_1).before args s = true
def lw_Q (_ : Array Value) (s : State) (o : Outcome) (t : State) : Prop := o = .returned (some (.int 1)) ∧ Framed s o t [] 600000 7302250
def lw_Z (below : List Frame) (a : Array Value) (s : State) : State → Prop := fun t => ∃ o, t.status = .running ∧ Ended t below o ∧ lw_Q a s o t
/-- the law's own end, with 1 on the stack, nothing written that was there before, its room as the claim has it -/
theorem lw_ret {p : Program} {l : Launch} {e : Env} {s : State} {m : MethodId} {below : List Frame} {meth : Method} {c : Code} {b : Nat} (hx : p.tables.exec = Jvm.exec) (hb : c.code = code) (hr : meth.sig.returnType = ret) (hlocks : meth.locks = false) {pc : Nat} {H : Heap} {ls : Array Slot} (hdg : decode code pc = .ok (.ireturn, 1)) : W p l e room_1 s m #[Value.ref b] below meth c H [] 600000 7302250 (lw_Z below #[Value.ref b] s) (F0 m pc ls [.int 1]) := by
  intro T hT X
  obtain ⟨fs, hret, hrun, hended, hW, hframe⟩ := X.leave (v := some (.int 1)) (hlocks := hlocks) (fun h => by rw [hr] at h; cases h)
  have hmeth' : T.vm.method? m = some meth := X.method'
  refine ⟨T.setFrames fs, ?_, .returned (some (.int 1)), hrun, hended, rfl, ⟨_, rfl⟩, hW, hframe⟩
  jvm_step X.here [X.here.top, hx, hb, hdg, hmeth', hr, ret, narrow_b1]
  (try refine ⟨rfl, ?_⟩); (try refine ⟨rfl, ?_⟩)
  first | (intro acts; rw [hret _ acts rfl rfl rfl]) | rw [hret _ _ rfl rfl rfl]
  exact Steps.refl _
/-- what holds at the law's entry: the machine, the code, the tables' words (any of lw_tbl by 'hts w (by decide +kernel)'), the script of L ints xs at the cell b, what the Statement gives of the start (any of its parts by flat_of_before) -/
def lw_At (p : Program) (s : State) (m : MethodId) (meth : Method) (c : Code) (b L : Nat) (xs : Nat → Int32) : Prop :=
  p.tables.exec = Jvm.exec ∧ c.code = code ∧ meth.sig.returnType = ret ∧ c.maxLocals = 42 ∧ s.vm.findClass R_law = some m.cls ∧ (∀ w ∈ lw_tbl, w.before #[Value.ref b] s = true) ∧ va_X b L xs s s.heap ∧ b < s.heap.size ∧ meth.locks = false ∧ (Jvm.Cond.and given_1 narrow_1).before #[Value.ref b] s = true
theorem law_known {s : State} {b : Nat} (hts : ∀ w ∈ lw_tbl, w.before #[Value.ref b] s = true) : ∃ D : va_G, va_K D clsT [] s := by
  have h1 : ∀ c, ∃ q : ClassId × (Nat → Nat), c < 9 → u_Kn s (cnT c) (fT c) (fNT c) q.1 q.2 := by
    intro c
    by_cases h9 : c < 9
    · obtain ⟨cC, iS, h⟩ := u_known (C := cnT c) (T := fT c) (N := fNT c) (n := fNT c) hts (fun w hw => (List.mem_filter.mp (ws_jT h9 w hw)).1) (hts _ (okw_in (okN_all c h9)))
      exact ⟨(cC, iS), fun _ => h⟩
    · exact ⟨(0, fun _ => 0), fun h => absurd h h9⟩
  refine ⟨(fun c => (Classical.choose (h1 c)).1, fun c => (Classical.choose (h1 c)).2), fun c q hq => ?_, fun k q h => by simp at h⟩
  have h9 : c < 9 := by
    have := (List.getElem?_eq_some_iff.mp hq).1
    exact this
  rw [clsAt c h9] at hq
  cases hq
  exact Classical.choose_spec (h1 c) h9
/-- the heap that the law finds -/
def h00 (b L k : Nat) (xs : Nat → Int32) : jHp := (fun a => if a = b then some (cS L xs) else none, k, 0)
theorem whole_start {p : Program} {e : Env} {s : State} {m : MethodId} {below : List Frame} {meth : Method} {c : Code} (l : Launch) (hflags : l.flags = flags0) {b L : Nat} {xs : Nat → Int32} (hL : L ≤ 260) (C0 : lw_At p s m meth c b L xs) : W p l e room_1 s m #[Value.ref b] below meth c s.heap [] 0 0 (lw_Z below #[Value.ref b] s) (entryFrame m ([Value.ref b] : List Value).toArray 42) := by
  obtain ⟨hx, hb, hr, hml, hown, hts, hX, hbl, hlocks, hgv⟩ := id C0
  obtain ⟨D, hK⟩ := law_known hts
  have w0 : wf (h00 b L s.heap.size xs) := fun a ha => by
    have ha : s.heap.size ≤ a := ha
    show (if a = b then _ else none) = none
    rw [if_neg (by omega)]
  have s0 : Sa (h00 b L s.heap.size xs) b L xs := ⟨if_pos rfl, fun a c F hc => by
    have hc : (if a = b then some (cS L xs) else none) = some (cO c F) := hc
    by_cases ea : a = b
    · rw [if_pos ea] at hc
      exact absurd (Option.some.inj hc) (fun z => by unfold cS cO at z; cases z)
    · rw [if_neg ea] at hc; cases hc⟩
  obtain ⟨h', e1, b1, b2⟩ := law_run w0 s0 hL
  obtain ⟨n, hn⟩ := R_iff.mp e1
  obtain ⟨-, hw⟩ := snd l s.heap.size D n _ _ _ _ _ _ _ _ hn
  have hbad : jBad s := ⟨fun c _ hm => va_AO.of (hts _ hm), fun o ix x hm => va_Nw.of rfl (hts _ hm)⟩
  have hC : jCtx p room_1 s m #[Value.ref b] meth c D 0 26 := ⟨hx, hb, hml, hown, fun w hw => hts w (List.mem_filter.mp hw).1, hK, hbad, (fun q => absurd q (by decide)), Nat.le_of_ble_eq_true rfl, Nat.le_of_ble_eq_true rfl, Nat.le_of_ble_eq_true rfl⟩
  have hS : jSim s.heap.size D s s.heap (h00 b L s.heap.size xs) := ⟨rfl, Nat.le_refl _, fun a c hc => by
    have hc : (if a = b then some (cS L xs) else none) = some c := hc
    by_cases ea : a = b
    · rw [if_pos ea] at hc
      cases hc
      rw [ea]
      exact hX
    · rw [if_neg ea] at hc; cases hc⟩
  have hz1 : h'.2.1 ≤ s.heap.size + 20000 := b1
  have hz2 : h'.2.2 ≤ 0 + 400000 := b2
  have k1 : h'.2.1 - s.heap.size ≤ room_1.cells := Nat.le_trans (show h'.2.1 - s.heap.size ≤ 20000 by omega) (Nat.le_of_ble_eq_true rfl)
  have k2 : h'.2.2 - 0 ≤ room_1.slots := Nat.le_trans (show h'.2.2 - 0 ≤ 400000 by omega) (Nat.le_of_ble_eq_true rfl)
  have hj := hw (p := p) (e := e) (below := below) (Q := lw_Z below #[Value.ref b] s) (bc := s.heap.size) (bs := 0) hC (Nat.le_refl _) (Nat.le_refl _) k1 k2 (by
    intro pc LS H locs S1 hl hret
    refine va_forget hl ?_
    refine W.widen (k := 600000) (n := 7302250) (by omega) (by omega) ?_
    exact lw_ret hx hb hr hlocks hret.1)
  rw [lg_entry_eq]
  have hg := hj _ s.heap [] (jLR_ent (a := [.ref b]) (n := 42) (show 1 ≤ 42 by omega)) hS (fun q hq => by cases hq)
  rw [show (h00 b L s.heap.size xs).2.1 - s.heap.size = 0 from Nat.sub_self _, show (h00 b L s.heap.size xs).2.2 - 0 = 0 from rfl] at hg
  exact hg
