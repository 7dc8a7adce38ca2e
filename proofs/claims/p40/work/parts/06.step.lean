/-! One instruction of the machine is one of the interpreter. -/
theorem clsAt : ∀ c, c < 9 → clsT[c]? = some (cnT c, fT c, fNT c) := by
  intro c hc
  match c, hc with
  | 0, _ => rfl
  | 1, _ => rfl
  | 2, _ => rfl
  | 3, _ => rfl
  | 4, _ => rfl
  | 5, _ => rfl
  | 6, _ => rfl
  | 7, _ => rfl
  | 8, _ => rfl
theorem ws_jT {c : Nat} (hc : c < 9) : ∀ w ∈ u_ws (cnT c) (fT c) (fNT c), w ∈ jT := by
  intro w hw
  obtain ⟨k, hk, rfl⟩ := List.mem_map.mp hw
  have h1 := List.all_eq_true.mp (okWs c hc) k hk
  refine in_jT (of_decide_eq_true h1) ?_
  unfold u_lay
  split <;> rfl
theorem jT_in {w : Jvm.Cond} (h : w ∈ jT) : w ∈ lw_tbl := (List.mem_filter.mp h).1
theorem jT_good {w : Jvm.Cond} (h : w ∈ jT) : (w.onTables && w.keeps) = true ∨ ∃ ty, w = .arrayClass ty := good_of_word (List.mem_filter.mp h).2
theorem cpy_nat : Jvm.Cond.native arraycopyName ∈ lw_tbl := okw_in (i := 512) (by decide +kernel)
theorem cpy_sta : Jvm.Cond.static arraycopyName ∈ lw_tbl := okw_in (i := 511) (by decide +kernel)
theorem cpy_ini : Jvm.Cond.initialized "java/lang/System" ∈ lw_tbl := okw_in (i := 39) (by decide +kernel)
def jBad (U : State) : Prop := (∀ c, c < 13 → (Jvm.Cond.arrayOver (.object (cnT c))) ∈ lw_tbl → va_AO (cnT c) U) ∧ ∀ (o ix x : Nat), (Jvm.Cond.methodLinkNest (cnT o) ix (mY x) "RideTie") ∈ lw_tbl → va_Nw (.methodLinkNest (cnT o) ix (mY x) "RideTie") U
theorem jBad.warm {s U : State} (hW : s.WarmedH U.vm) (h : jBad s) : jBad U := ⟨fun c hc hm => (h.1 c hc hm).moved hW.alike, fun o ix x hm => (h.2 o ix x hm).warmM hW⟩
theorem jBad.same {s U : State} (e : s.vm = U.vm) (h : jBad s) : jBad U := ⟨fun c hc hm => (h.1 c hc hm).moved (by rw [e]; exact Vm.Alike.refl _), fun o ix x hm => (h.2 o ix x hm).same rfl e⟩
def jCtx (p : Program) (RM : Room) (s : State) (mm : MethodId) (args : Array Value) (meth : Method) (c : Code) (D : va_G) (m r : Nat) : Prop :=
  p.tables.exec = Jvm.exec ∧ c.code = mB m ∧ c.maxLocals = mL m ∧ s.vm.findClass (cnT (mO m)) = some mm.cls ∧ (∀ w ∈ jT, w.before args s = true) ∧ va_K D clsT [] s ∧ jBad s ∧ (mK m = 2 → meth.name = "<init>") ∧ r + 1 ≤ RM.frames ∧ 40 * (r + 1) ≤ RM.locals ∧ m < nM
def jPc (B : Nat) (D : va_G) (a : List Value) (h : jHp) : Array Value → State → Prop := fun v U => v = a.toArray ∧ jSim B D U U.heap h ∧ va_K D clsT [] U ∧ jBad U
def jQc (B : Nat) (D : va_G) (v : Option Value) (h1 : jHp) : Array Value → State → Outcome → State → Prop := fun _ _ o t => o = .returned v ∧ jSim B D t t.heap h1
def jRm (r mc ms : Nat) : Room := { frames := r + 1, cells := mc, slots := ms, locals := 40 * (r + 1) }
def jWs (m : Nat) : List Jvm.Cond := .code (mY m) (mB m) (mL m) (mR m) :: jT
def jLe (h h1 : jHp) : Prop := h.2.1 ≤ h1.2.1 ∧ h.2.2 ≤ h1.2.2
theorem jLe.rf {h : jHp} : jLe h h := ⟨Nat.le_refl _, Nat.le_refl _⟩
def jCall (l : Launch) (B : Nat) (D : va_G) (r m : Nat) (a : List Value) (h : jHp) (v : Option Value) (h1 : jHp) : Prop :=
  rk m a < r ∧ jLe h h1 ∧ (0 < m → m < nM → Met l (mY m) (jWs m) (jRm (rk m a) (h1.2.1 - h.2.1) (h1.2.2 - h.2.2)) (jPc B D a h) (jQc B D v h1) (h1.2.1 - h.2.1) (h1.2.2 - h.2.2) (fun q => B ≤ q))
def jRet (m p : Nat) (v : Option Value) : Prop := match v with
  | some (.int x) => decode (mB m) p = .ok (.ireturn, 1) ∧ (mR m = some .int ∨ (mR m = some .boolean ∧ bl x = true))
  | some (.long _) => decode (mB m) p = .ok (.lreturn, 1) ∧ mR m = some .long
  | some (.ref _) => decode (mB m) p = .ok (.areturn, 1) ∧ isO (mR m) = true
  | some .null => decode (mB m) p = .ok (.areturn, 1) ∧ isO (mR m) = true
  | none => decode (mB m) p = .ok (.return_, 1) ∧ mR m = none
  | _ => False
theorem cat_le (s : List Value) (h : s.length ≤ 4) : (s.map fun v => v.category).sum ≤ 8 := by
  have key : ∀ s : List Value, (s.map fun v => v.category).sum ≤ 2 * s.length := by
    intro s
    induction s with
    | nil => exact Nat.le_refl _
    | cons v s ih =>
      have hv : v.category ≤ 2 := by rcases lv_cat v with q | q <;> omega
      simp only [List.map_cons, List.sum_cons, List.length_cons]
      omega
  have := key s
  omega
section JStep
variable {p : Program} {l : Launch} {e : Env} {RM : Room} {s : State} {mm : MethodId} {args : Array Value} {below : List Frame} {meth : Method} {c : Code} {Q : State → Prop} {B : Nat} {D : va_G} {m r bc bs : Nat}
variable {H : Heap} {locs : List Loc} {cells slots : Nat} {LS : Array Slot} {rest : List Value} {pc : Nat} {h : jHp}
theorem j_get {o ix ci k a : Nat} {F : Nat → Value} {cc : ByteArray} (hx : p.tables.exec = Jvm.exec) (hb : c.code = cc) (hown : s.vm.findClass (cnT o) = some mm.cls) (hts : ∀ w ∈ jT, w.before args s = true) (hK : va_K D clsT [] s)
    (S : jSim B D s H h) (hc : h.1 a = some (cO ci F)) (hk : k < fNT ci) (hl : wF o ix ci k ∈ lw_tbl) (he : (fT ci k).1 = cnT ci) (hdg : decode cc pc = .ok (.getfield ix, 3))
    (kk : W p l e RM s mm args below meth c H locs cells slots Q (F0 mm (pc + 3) LS (F k :: rest))) : W p l e RM s mm args below meth c H locs cells slots Q (F0 mm pc LS (.ref a :: rest)) := by
  obtain ⟨-, h9, cell, q1, q2, q3, q4⟩ := S.2.2 a _ hc
  have hcl := clsAt ci h9
  obtain ⟨hS, hfc, kC, hkC, hkind⟩ := hK.1 ci _ hcl
  obtain ⟨cf, kf, fi, f, hi, hsl⟩ := hS k hk
  have hlink := hts _ (in_jT hl rfl)
  refine W.getf hx hb hown hlink (by rw [← he]; exact hi) (u_facts hfc hkC (u_lays hts (ws_jT h9) hk) hi).1 q1 (by rw [q3]; exact fun h => by cases h) (v := F k) ?_ rfl rfl hdg kk
  rw [hsl, q4 k hk]
theorem j_apart {ci : Nat} (h9 : ci < 9) (hts : ∀ w ∈ jT, w.before args s = true) (hK : va_K D clsT [] s) : ∀ x y, x < fNT ci → y < fNT ci → x ≠ y → (D.2 ci) x ≠ (D.2 ci) y :=
  va_apart (own := "") (ci := ci) hts (ws_jT h9) (tyT ci) (okTy ci h9) (okNm ci h9) hK (clsAt ci h9)
theorem j_fit {ci k : Nat} {v : Value} {z : Nat} (hz : zT ci k = z) (hv : (z = 0 ∧ ∃ x, v = .int x) ∨ (z = 3 ∧ ∃ x, v = .int x ∧ bl x = true) ∨ (z = 1 ∧ ∃ x, v = .long x) ∨ (z = 2 ∧ ∃ x, v = .ref x)) : narrow (tyT ci k) v = v ∧ fits (tyT ci k) v = true := by
  unfold zT at hz
  rcases hv with ⟨rfl, x, rfl⟩ | ⟨rfl, x, rfl, hb⟩ | ⟨rfl, x, rfl⟩ | ⟨rfl, x, rfl⟩ <;> (split at hz <;> first | (next e => rw [e]; exact ⟨rfl, rfl⟩) | (exact absurd hz (by decide)) | skip)
  next e =>
    rw [e]
    unfold bl at hb
    rw [Bool.or_eq_true, beq_iff_eq, beq_iff_eq] at hb
    rcases hb with rfl | rfl <;> exact ⟨by decide, by decide⟩
theorem j_put {o ix ci k a z : Nat} {F : Nat → Value} {v : Value} {cc : ByteArray} (hx : p.tables.exec = Jvm.exec) (hb : c.code = cc) (hown : s.vm.findClass (cnT o) = some mm.cls) (hts : ∀ w ∈ jT, w.before args s = true) (hK : va_K D clsT [] s)
    (S : jSim B D s H h) (hL : ∀ q ∈ locs, B ≤ q.base) (hc : h.1 a = some (cO ci F)) (hk : k < fNT ci) (hl : wF o ix ci k ∈ lw_tbl) (he : (fT ci k).1 = cnT ci) (hz : zT ci k = z)
    (hv : (z = 0 ∧ ∃ x, v = .int x) ∨ (z = 3 ∧ ∃ x, v = .int x ∧ bl x = true) ∨ (z = 1 ∧ ∃ x, v = .long x) ∨ (z = 2 ∧ ∃ x, v = .ref x)) (hfin : (fT ci k).2.2.2 = true → meth.name = "<init>" ∧ (fT ci k).1 = cnT o) (hdg : decode cc pc = .ok (.putfield ix, 3))
    (kk : ∀ (H1 : Heap) (locs1 : List Loc), jSim B D s H1 (hset h a (cO ci (updV F k v))) → (∀ q ∈ locs1, B ≤ q.base) → W p l e RM s mm args below meth c H1 locs1 cells slots Q (F0 mm (pc + 3) LS rest)) : W p l e RM s mm args below meth c H locs cells slots Q (F0 mm pc LS (v :: .ref a :: rest)) := by
  obtain ⟨hBa, h9, cell, q1, q2, q3, q4⟩ := S.2.2 a _ hc
  have hcl := clsAt ci h9
  have hap := j_apart h9 hts hK
  obtain ⟨hS, hfc, kC, hkC, hkind⟩ := hK.1 ci _ hcl
  obtain ⟨cf, kf, fi, f, hi, hsl⟩ := hS k hk
  have hlink := hts _ (in_jT hl rfl)
  obtain ⟨hn, hfit⟩ := j_fit hz hv
  have hd := okTy ci h9 k hk
  have hlay := hts _ (ws_jT h9 _ (u_in_lay hk))
  have hst := (u_facts hfc hkC (u_lays hts (ws_jT h9) hk) hi).1
  have hend : ∀ H1 : Heap, H1[a]? = some (cell.setSlot f.slot v) → H1.size = H.size → (∀ q, q ≠ a → H1[q]? = H[q]?) → jSim B D s H1 (hset h a (cO ci (updV F k v))) := by
    intro H1 e1 e2 e3
    rw [hsl] at e1
    exact S.set e2 e3 ⟨hBa, h9, _, e1, q2, q3, t_set q4 hap hk v⟩
  have hlocs : ∀ q ∈ locs ++ [⟨a, f.slot⟩], B ≤ q.base := by
    intro q hq
    rcases List.mem_append.mp hq with h1 | h1
    · exact hL q h1
    · rw [List.mem_singleton.mp h1]; exact hBa
  cases hff : (fT ci k).2.2.2 with
  | false =>
    unfold u_lay at hlay
    rw [if_neg (by rw [hff]; decide)] at hlay
    have h6 := u_store hfc hkC hkind hlay hi hd hn hfit
    exact W.putK hx hb (f := f) ⟨hown, hlink, ⟨_, _, _, by rw [← he]; exact hi⟩, hst⟩ (by rw [q2]; exact h6) q1 q3 (by rw [hsl]; exact k2_hasslot (q4 k hk)) rfl rfl hdg fun H' e1 e2 e3 => kk H' _ (hend H' e1 e2 e3) hlocs
  | true =>
    obtain ⟨hin2, hdecl⟩ := hfin hff
    unfold u_lay at hlay
    rw [if_pos hff] at hlay
    have hcf : mm.cls = cf := by
      obtain ⟨_, _, c', _, _, _, -, -, hf', -, -, -, hown2, -⟩ := Cond.laysFinal_spec hlay
      have e1 : c' = cf := by have := hi.symm.trans hf'; simp at this; exact this.1.symm
      rw [hdecl] at hown2
      rw [← e1]; exact Option.some.inj (hown.symm.trans hown2)
    have h6 := u_fits hfc hkC hkind (Or.inr hlay) hi hd hn hfit
    exact W.putFinK hx hb hown hlink (by rw [← he]; exact hi) hst hcf hin2 (by rw [q2]; exact h6) q1 q3 (by rw [hsl]; exact k2_hasslot (q4 k hk)) rfl rfl hdg fun H' e1 e2 e3 => kk H' _ (hend H' e1 e2 e3) hlocs
theorem j_iald {a : Nat} {i x : Int32} {cc : ByteArray} (hx : p.tables.exec = Jvm.exec) (hb : c.code = cc) (S : jSim B D s H h) (ha : alI h a i = some x) (hdg : decode cc pc = .ok (.iaload, 1))
    (kk : W p l e RM s mm args below meth c H locs cells slots Q (F0 mm (pc + 1) LS (.int x :: rest))) : W p l e RM s mm args below meth c H locs cells slots Q (F0 mm pc LS (.int i :: .ref a :: rest)) := by
  obtain ⟨q, h1, h2⟩ := Option.bind_eq_some_iff.mp ha
  by_cases hin : i < 0 ∨ q.1 ≤ i.toNatClampNeg
  · rw [if_pos hin] at h2; cases h2
  rw [if_neg hin] at h2
  cases h2
  have hlt : i.toNatClampNeg < q.1 := Nat.not_le.mp fun z => hin (Or.inr z)
  rcases aI_p h1 with h3 | h3
  · obtain ⟨-, cA, g1, g2⟩ := S.2.2 a _ h3
    exact W.iald (v := .int (q.2 i.toNatClampNeg)) hx hb g2 (g1 q.1 (fun j => .int (q.2 j))) (fun z => by cases z) (by show ¬ (i < 0 ∨ (arrV _ _ _).slots.size ≤ _); rw [arrV_size]; exact hin) (by show (arrV _ _ _).slots[_]? = _; rw [arrV_read _ _ hlt]) rfl rfl hdg kk
  · obtain ⟨cell, g1, g2, g3, g4, g5⟩ := S.2.2 a _ h3
    exact W.iald (v := .int (q.2 i.toNatClampNeg)) hx hb g1 g2 g3 (by rw [g4]; exact hin) (g5 _ hlt) rfl rfl hdg kk
theorem j_iast {a : Nat} {i x : Int32} {h1 : jHp} {cc : ByteArray} (hx : p.tables.exec = Jvm.exec) (hb : c.code = cc) (S : jSim B D s H h) (hL : ∀ q ∈ locs, B ≤ q.base) (ha : asI h a i x = some h1) (hdg : decode cc pc = .ok (.iastore, 1))
    (kk : ∀ (H1 : Heap) (locs1 : List Loc), jSim B D s H1 h1 → (∀ q ∈ locs1, B ≤ q.base) → W p l e RM s mm args below meth c H1 locs1 cells slots Q (F0 mm (pc + 1) LS rest)) : W p l e RM s mm args below meth c H locs cells slots Q (F0 mm pc LS (.int x :: .int i :: .ref a :: rest)) := by
  obtain ⟨q, e1, e2⟩ := Option.bind_eq_some_iff.mp ha
  by_cases hin : i < 0 ∨ q.1 ≤ i.toNatClampNeg
  · rw [if_pos hin] at e2; cases e2
  rw [if_neg hin] at e2
  cases e2
  obtain ⟨hBa, cA, g1, g2⟩ := S.2.2 a _ (wI_p e1)
  refine W.iast hx hb g2 (g1 q.1 (fun j => .int (q.2 j))) (fun z => by cases z) (by show ¬ (i < 0 ∨ (arrV _ _ _).slots.size ≤ _); rw [arrV_size]; exact hin) rfl rfl hdg fun H1 e z oq => ?_
  refine kk H1 _ (S.set z oq ⟨hBa, cA, g1, ?_⟩) fun q hq => ?_
  · show H1[a]? = some (vp_cell _ _)
    rw [e]
    rw [vp_cell_i, vp_cell_i, arrV_store]
    congr 2
    funext j
    by_cases hj : j = i.toNatClampNeg
    · subst hj
      simp [updV, upd]
    · simp [updV, upd, hj]
  · rcases List.mem_append.mp hq with h1 | h1
    · exact hL q h1
    · rw [List.mem_singleton.mp h1]; exact hBa
theorem j_aald {a v : Nat} {i : Int32} {cc : ByteArray} (hx : p.tables.exec = Jvm.exec) (hb : c.code = cc) (S : jSim B D s H h) (ha : alR h a i = some v) (hdg : decode cc pc = .ok (.aaload, 1))
    (kk : W p l e RM s mm args below meth c H locs cells slots Q (F0 mm (pc + 1) LS (.ref v :: rest))) : W p l e RM s mm args below meth c H locs cells slots Q (F0 mm pc LS (.int i :: .ref a :: rest)) := by
  obtain ⟨q, h1, h2⟩ := Option.bind_eq_some_iff.mp ha
  by_cases hin : i < 0 ∨ q.2.1 ≤ i.toNatClampNeg
  · rw [if_pos hin] at h2; cases h2
  rw [if_neg hin] at h2
  have hlt : i.toNatClampNeg < q.2.1 := Nat.not_le.mp fun z => hin (Or.inr z)
  obtain ⟨-, -, cA, g1, -, g2⟩ := S.2.2 a _ (gR_p h1)
  refine W.aald (v := va_rf (q.2.2 i.toNatClampNeg)) (ty := .object (cnT q.1)) hx hb g2 (g1 q.2.1 (fun j => va_rf (q.2.2 j))) rfl (fun z => by cases z) (by show ¬ (i < 0 ∨ (arrV _ _ _).slots.size ≤ _); rw [arrV_size]; exact hin) (by show (arrV _ _ _).slots[_]? = _; rw [arrV_read _ _ hlt]) rfl rfl hdg ?_
  rw [h2]
  exact kk
theorem j_aast {a v : Nat} {i : Int32} {h1 : jHp} {cc : ByteArray} (hx : p.tables.exec = Jvm.exec) (hb : c.code = cc) (hK : va_K D clsT [] s) (S : jSim B D s H h) (hL : ∀ q ∈ locs, B ≤ q.base) (ha : asR h a i v = some h1) (hdg : decode cc pc = .ok (.aastore, 1))
    (kk : ∀ (H1 : Heap) (locs1 : List Loc), jSim B D s H1 h1 → (∀ q ∈ locs1, B ≤ q.base) → W p l e RM s mm args below meth c H1 locs1 cells slots Q (F0 mm (pc + 1) LS rest)) : W p l e RM s mm args below meth c H locs cells slots Q (F0 mm pc LS (.ref v :: .int i :: .ref a :: rest)) := by
  obtain ⟨q, e1, e2⟩ := Option.bind_eq_some_iff.mp ha
  by_cases hin : i < 0 ∨ q.2.1 ≤ i.toNatClampNeg
  · rw [if_pos hin] at e2; cases e2
  rw [if_neg hin] at e2
  obtain ⟨F, e3, e4⟩ := Option.bind_eq_some_iff.mp e2
  cases e4
  have hlt : i.toNatClampNeg < q.2.1 := Nat.not_le.mp fun z => hin (Or.inr z)
  have h0 : ¬ i < 0 := fun z => hin (Or.inl z)
  obtain ⟨hBa, h13, cA, g1, g3, g2⟩ := S.2.2 a _ (gR_p e1)
  obtain ⟨-, h9, cellV, k1, k2, k3, -⟩ := S.2.2 v _ (gO_p e3)
  have hcls := (hK.1 q.1 _ (clsAt q.1 h9)).2
  obtain ⟨kA, comp, y1, y2, y3, y4⟩ := g3
  have hcomp : comp = D.1 q.1 := Option.some.inj (y3.symm.trans hcls.1)
  subst hcomp
  obtain ⟨kC, hkC, -⟩ := hcls.2
  refine W.aast hx hb g2 (fun q h => by cases h) (fun h => by cases h) y1 y2 rfl hkC ⟨h0, by show _ < (arrV _ _ _).slots.size; rw [arrV_size]; exact hlt⟩ k1 (fun q h => by rw [k3] at h; cases h) (by rw [k2]; exact hkC) (by rw [k2]; exact va_assign hcls) rfl rfl hdg fun H1 e z oq => ?_
  refine kk H1 _ (S.set z oq ⟨hBa, h13, cA, g1, ⟨kA, _, y1, y2, y3, y4⟩, ?_⟩) fun q hq => ?_
  · show H1[a]? = some (vp_cell _ _)
    rw [e]
    rw [vp_cell_q, vp_cell_q, arrV_store]
    congr 2
    funext j
    by_cases hj : j = i.toNatClampNeg
    · subst hj
      simp [updV, va_up, va_rf]
    · simp [updV, va_up, hj]
  · rcases List.mem_append.mp hq with h1 | h1
    · exact hL q h1
    · rw [List.mem_singleton.mp h1]; exact hBa
theorem j_alen {a : Nat} {x : Int32} {cc : ByteArray} (hx : p.tables.exec = Jvm.exec) (hb : c.code = cc) (S : jSim B D s H h) (ha : alen h a = some x) (hdg : decode cc pc = .ok (.arraylength, 1))
    (kk : W p l e RM s mm args below meth c H locs cells slots Q (F0 mm (pc + 1) LS (.int x :: rest))) : W p l e RM s mm args below meth c H locs cells slots Q (F0 mm pc LS (.ref a :: rest)) := by
  unfold alen at ha
  split at ha
  · next q hq =>
    cases ha
    obtain ⟨-, cA, g1, g2⟩ := S.2.2 a _ hq
    exact W.alen (n := nI q.1) hx hb g2 (g1 q.1 (fun j => .int (q.2 j))) (by rw [vp_cell_i, arrV_size] <;> rfl) rfl rfl hdg kk
  · next q hq =>
    cases ha
    obtain ⟨-, -, cA, g1, -, g2⟩ := S.2.2 a _ hq
    exact W.alen (n := nI q.2.1) hx hb g2 (g1 q.2.1 (fun j => va_rf (q.2.2 j))) (by rw [vp_cell_q, arrV_size] <;> rfl) rfl rfl hdg kk
  · next q hq =>
    cases ha
    obtain ⟨cell, g1, g2, g3, g4, g5⟩ := S.2.2 a _ hq
    exact W.alen (n := nI q.1) hx hb g1 g2 (by rw [g4] <;> rfl) rfl rfl hdg kk
  · cases ha
theorem j_newa {v : Int32} {h1 : jHp} {cc : ByteArray} (hx : p.tables.exec = Jvm.exec) (hb : c.code = cc) (hts : ∀ w ∈ jT, w.before args s = true) (S : jSim B D s H h) (ha : newI h v = some h1) (hdg : decode cc pc = .ok (.newarray .int, 2)) (hc : cells + 1 ≤ RM.cells) (hs : slots + v.toNatClampNeg ≤ RM.slots)
    (kk : ∀ H1 : Heap, jSim B D s H1 h1 → W p l e RM s mm args below meth c H1 locs (cells + 1) (slots + v.toNatClampNeg) Q (F0 mm (pc + 2) LS (.ref h.2.1 :: rest))) : W p l e RM s mm args below meth c H locs cells slots Q (F0 mm pc LS (.int v :: rest)) := by
  unfold newI at ha
  by_cases hin : v < 0 ∨ 100000 < v.toNatClampNeg
  · rw [if_pos hin] at ha; cases ha
  rw [if_neg hin] at ha
  cases ha
  have hle : v.toNatClampNeg ≤ 100000 := Nat.not_lt.mp fun z => hin (Or.inr z)
  refine va_newaK (atype := .int) hx hb (hts _ (in_jT (okw_in (i := 124) (by decide +kernel)) rfl)) rfl hdg rfl (fun z => hin (Or.inl z)) rfl ?_ hc hs S.1 fun H1 cA e1 z1 o1 hAr hNm => ?_
  · show _ * 4 ≤ _; omega
  rw [← S.1] at e1 z1 o1
  exact kk H1 (S.new z1 o1 ⟨by rw [S.1]; exact S.2.1, cA, hAr, e1⟩)
theorem j_anew {v : Int32} {h1 : jHp} {t o ix : Nat} {cc : ByteArray} (hx : p.tables.exec = Jvm.exec) (hb : c.code = cc) (hown : s.vm.findClass (cnT o) = some mm.cls) (hts : ∀ w ∈ jT, w.before args s = true) (hbad : jBad s) (S : jSim B D s H h) (ha : newR h t v = some h1) (ht : t < 13) (hcl : (Jvm.Cond.classLink (cnT o) ix (cnT t)) ∈ lw_tbl) (hao : (Jvm.Cond.arrayOver (.object (cnT t))) ∈ lw_tbl) (hdg : decode cc pc = .ok (.anewarray ix, 3)) (hc : cells + 1 ≤ RM.cells) (hs : slots + v.toNatClampNeg ≤ RM.slots)
    (kk : ∀ H1 : Heap, jSim B D s H1 h1 → W p l e RM s mm args below meth c H1 locs (cells + 1) (slots + v.toNatClampNeg) Q (F0 mm (pc + 3) LS (.ref h.2.1 :: rest))) : W p l e RM s mm args below meth c H locs cells slots Q (F0 mm pc LS (.int v :: rest)) := by
  unfold newR at ha
  by_cases hin : v < 0 ∨ 100000 < v.toNatClampNeg
  · rw [if_pos hin] at ha; cases ha
  rw [if_neg hin] at ha
  cases ha
  have hle : v.toNatClampNeg ≤ 100000 := Nat.not_lt.mp fun z => hin (Or.inr z)
  refine W.anew hx hb hown (hts _ (in_jT hcl rfl)) (hbad.1 t ht hao).use rfl hdg rfl (fun z => hin (Or.inl z)) (by omega) hc hs fun cA kA comp h1 h2 h3 h4 => ?_
  rw [S.1]
  refine kk _ (S.new (by simp) (fun q hq => by rw [Array.getElem?_push, if_neg (Nat.ne_of_lt hq)]) ⟨by rw [S.1]; exact S.2.1, ht, cA, fun n z => ⟨fun k h => (by cases h), kA, h2, comp, h3⟩, ⟨kA, comp, h2, h3, h4, h1⟩, ?_⟩)
  show _ = some (vp_cell _ _)
  rw [vp_cell_q]
  show _ = some (arrV cA v.toNatClampNeg fun _ => Value.null)
  rw [← arrV_new]
  simp
theorem j_new {t o ix : Nat} {cc : ByteArray} (hx : p.tables.exec = Jvm.exec) (hb : c.code = cc) (hown : s.vm.findClass (cnT o) = some mm.cls) (hts : ∀ w ∈ jT, w.before args s = true) (hK : va_K D clsT [] s) (S : jSim B D s H h) (ht : t < 9) (hcl : (Jvm.Cond.classLink (cnT o) ix (cnT t)) ∈ lw_tbl) (hdg : decode cc pc = .ok (.new ix, 3)) (hc : cells + 1 ≤ RM.cells) (hs : slots + fNT t ≤ RM.slots)
    (kk : ∀ H1 : Heap, jSim B D s H1 (newO h t) → W p l e RM s mm args below meth c H1 locs (cells + 1) (slots + fNT t) Q (F0 mm (pc + 3) LS (.ref h.2.1 :: rest))) : W p l e RM s mm args below meth c H locs cells slots Q (F0 mm pc LS rest) := by
  have hKn := hK.1 t _ (clsAt t ht)
  refine W.newcK hx hb hown (hts _ (in_jT hcl rfl)) (hts _ (in_jT (okw_in (okN_all t ht)) rfl)) (hts _ (in_jT (okw_in (okG_all t (by omega))) rfl)) rfl hdg hc hs hKn.2.1 S.1 fun H1 kC hkC e1 z1 o1 => ?_
  rw [← S.1] at e1 z1 o1
  exact kk H1 (S.new z1 o1 ⟨by rw [S.1]; exact S.2.1, ht, (u_born (tyT t) hts (ws_jT ht) hKn hkC e1 (okTy t ht)).to (fun k hk => okDf t ht k hk)⟩)
theorem j_copy {a b : Nat} {i j n : Int32} {h1 : jHp} {o ix : Nat} {cc : ByteArray} (hx : p.tables.exec = Jvm.exec) (hb : c.code = cc) (hml : c.maxLocals = LS.size) (hown : s.vm.findClass (cnT o) = some mm.cls) (hts : ∀ w ∈ jT, w.before args s = true) (hK : va_K D clsT [] s) (S : jSim B D s H h) (hL : ∀ q ∈ locs, B ≤ q.base) (ha : acpy h a i b j n = some h1)
    (hl : (Jvm.Cond.methodLink (cnT o) ix arraycopyName) ∈ lw_tbl) (hdg : decode cc pc = .ok (.invokestatic ix, 3)) (hrest : rest.length ≤ 4) (hfr : 1 ≤ RM.frames) (hlo : 40 ≤ RM.locals)
    (kk : ∀ (H1 : Heap) (locs1 : List Loc), jSim B D s H1 h1 → (∀ q ∈ locs1, B ≤ q.base) → W p l e RM s mm args below meth c H1 locs1 cells slots Q (F0 mm (pc + 3) LS rest)) : W p l e RM s mm args below meth c H locs cells slots Q (F0 mm pc LS (.int n :: .int j :: .ref b :: .int i :: .ref a :: rest)) := by
  obtain ⟨qa, e1, e2⟩ := Option.bind_eq_some_iff.mp ha
  obtain ⟨qb, e3, e4⟩ := Option.bind_eq_some_iff.mp e2
  by_cases hin : i < 0 ∨ j < 0 ∨ n < 0 ∨ qa.1 < i.toNatClampNeg + n.toNatClampNeg ∨ qb.1 < j.toNatClampNeg + n.toNatClampNeg
  · rw [if_pos hin] at e4; cases e4
  rw [if_neg hin] at e4
  cases e4
  rw [not_or, not_or, not_or, not_or] at hin
  obtain ⟨i1, i2, i3, i4, i5⟩ := hin
  obtain ⟨-, c0, g1, g2⟩ := S.2.2 a _ (wI_p e1)
  obtain ⟨hBb, c1, k1, k2⟩ := S.2.2 b _ (wI_p e3)
  have nn : ∀ z : Int32, ¬ z < 0 → z.toInt = (z.toNatClampNeg : Int) := by
    intro z hz
    have hz0 : (0 : Int) ≤ z.toInt := by
      have := Int32.not_lt.mp hz
      simpa using Int32.le_iff_toInt_le.mp this
    show z.toInt = ((z.toInt.toNat : Nat) : Int)
    omega
  obtain ⟨-, y0, hy0, cm0, hyy0⟩ := g1 qa.1 (fun j => .int (qa.2 j))
  obtain ⟨-, y1, hy1, cm1, hyy1⟩ := k1 qb.1 (fun j => .int (qb.2 j))
  have hsum := cat_le rest hrest
  have hnat : nativeFrameWords "java/lang/System" "arraycopy" 5 ≤ 20 := by decide +kernel
  intro T hT X
  have hfit : ∀ k, k < n.toNatClampNeg → (vp_cell c0 (qa.1, .inl qa.2)).slots.getD (i.toNatClampNeg + k) .null = .int (qa.2 (i.toNatClampNeg + k)) := by
    intro k hk
    show (arrV c0 qa.1 (fun j => .int (qa.2 j))).slots.getD _ _ = _
    rw [Array.getD_eq_getD_getElem?, arrV_read _ _ (by omega)]
    rfl
  obtain ⟨vm', X', step⟩ := X.arraycopy hx hown (hts _ (in_jT hl rfl)) (hts _ (in_jT cpy_nat rfl)) (hts _ (in_jT cpy_sta rfl)) (hts _ (in_jT cpy_ini rfl)) (src := a) (dst := b) (cs := vp_cell c0 (qa.1, .inl qa.2)) (cd := vp_cell c1 (qb.1, .inl qb.2)) (srcPos := i) (destPos := j) (n := n) (by rw [hT]; exact g2) (by rw [hT]; exact k2)
    (fun _ h => by cases h) (fun _ h => by cases h) (fun h => by cases h) (fun h => by cases h) hy0 hy1 hyy0 hyy1 (by simp [refKind]) i1 i2 i3
    (by rw [nn i i1, nn n i3]; show ¬ _ > ((arrV c0 qa.1 (fun j => .int (qa.2 j))).slots.size : Int); rw [arrV_size]; omega)
    (by rw [nn j i2, nn n i3]; show ¬ _ > ((arrV c1 qb.1 (fun j => .int (qb.2 j))).slots.size : Int); rw [arrV_size]; omega)
    (fun vm₁ _ k hk => ⟨by rw [hfit k hk]; rfl, by rw [hfit k hk]; exact trivial⟩)
    (g := F0 mm pc LS (.int n :: .int j :: .ref b :: .int i :: .ref a :: rest)) rfl (by rw [hml]) (rest := rest) rfl (by rw [hb]; exact hdg) hfr (by show 2 * 0 + _ + _ ≤ _; omega)
  have e1 : copied (vp_cell c0 (qa.1, .inl qa.2)) (vp_cell c1 (qb.1, .inl qb.2)) i j n = vp_cell c1 (qb.1, .inl (va_cpy qa.2 qb.2 i.toNatClampNeg j.toNatClampNeg n.toNatClampNeg)) := va_copied (fun z => .int z) c0 c1 qa.2 qb.2 (by omega)
  rw [e1] at X' step
  have hlt : b < H.size := (Array.getElem?_eq_some_iff.mp k2).1
  have hheap : ((T.setVm vm').setCell b (vp_cell c1 (qb.1, .inl (va_cpy qa.2 qb.2 i.toNatClampNeg j.toNatClampNeg n.toNatClampNeg)))).heap = H.setIfInBounds b (vp_cell c1 (qb.1, .inl (va_cpy qa.2 qb.2 i.toNatClampNeg j.toNatClampNeg n.toNatClampNeg))) := by rw [← hT]; rfl
  have oq : ∀ q : Nat, q ≠ b → (H.setIfInBounds b (vp_cell c1 (qb.1, .inl (va_cpy qa.2 qb.2 i.toNatClampNeg j.toNatClampNeg n.toNatClampNeg))))[q]? = H[q]? := fun q hq => by simp [Array.getElem?_setIfInBounds, Ne.symm hq]
  obtain ⟨t, a1, b1⟩ := kk _ _ (S.set (by simp) oq ⟨hBb, c1, k1, by simp [Array.getElem?_setIfInBounds, hlt]⟩) (fun q hq => by
      rcases List.mem_append.mp hq with h | h
      · exact hL q h
      · obtain ⟨z, -, hz⟩ := List.mem_map.mp h
        rw [← hz]
        exact hBb) _ hheap X'
  exact ⟨t, step t a1, b1⟩
end JStep
