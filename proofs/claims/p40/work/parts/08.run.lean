section JStep3
variable {p : Program} {l : Launch} {e : Env} {RM : Room} {s : State} {mm : MethodId} {args : Array Value} {below : List Frame} {meth : Method} {c : Code} {Q : State → Prop} {B : Nat} {D : va_G} {m r bc bs : Nat}
/-- what it is to go on at a picture -/
def jK (p : Program) (l : Launch) (e : Env) (RM : Room) (s : State) (mm : MethodId) (args : Array Value) (below : List Frame) (meth : Method) (c : Code) (Q : State → Prop) (B : Nat) (D : va_G) (m bc bs : Nat) (pc : Nat) (ls : jLs) (st : List Value) (h : jHp) : Prop :=
  (h.2.1 - bc ≤ RM.cells ∧ h.2.2 - bs ≤ RM.slots) ∧ jW p l e RM s mm args below meth c Q B D m bc bs pc ls st h
def jC (l : Launch) (B : Nat) (D : va_G) (RM : Room) (r bc bs : Nat) (m : Nat) (a : List Value) (h : jHp) (k : Option Value → jHp → Prop) : Prop :=
  ∃ (v : Option Value) (h1 : jHp), jCall l B D r m a h v h1 ∧ (h1.2.1 - bc ≤ RM.cells ∧ h1.2.2 - bs ≤ RM.slots) ∧ k v h1
set_option maxHeartbeats 8000000 in
set_option maxRecDepth 20000 in
theorem step {pc : Nat} {ls0 : jLs} {st : List Value} {h : jHp} (C0 : jCtx p RM s mm args meth c D m r) (hc : bc ≤ h.2.1) (hs : bs ≤ h.2.2)
    (hq : stp False (jRt p l e RM s mm args below meth c Q B D m bc bs) (jK p l e RM s mm args below meth c Q B D m bc bs) (jC l B D RM r bc bs) m pc ls0 st h) : jW p l e RM s mm args below meth c Q B D m bc bs pc ls0 st h := by
  obtain ⟨hx, hb, hml, hown, hts, hK, hbad, hin, hfr, hlo, hm⟩ := C0
  unfold stp at hq
  cases hi : insAt m pc with
  | none => rw [hi] at hq; exact hq.elim
  | some q =>
  have hch := chk_at hm hi
  rw [hi] at hq
  obtain ⟨i, n, x, y, z, f⟩ := q
  unfold chk at hch
  obtain ⟨hd0, hch⟩ := and_p hch
  have hd : decode (mB m) pc = .ok (i, n) := of_decide_eq_true hd0
  clear hd0
  intro LS H locs hL0 S hl
  have hL : jLR LS (mL m) (fg f ls0) := jLR_fg hL0 f
  dsimp only at hq
  generalize fg f ls0 = ls at hq hL
  have hsz : LS.size = mL m := hL.2.1
  have n1 : ∀ k, Nat.beq n k = true → n = k := fun k q => Nat.eq_of_beq_eq_true q
  cases i with
  | iconst v =>
    obtain ⟨h1, h2⟩ := and_p hch; obtain rfl := n1 _ h2
    exact lv_iconst hx hb hd (eq_of_beq h1) (hq.2 LS H locs hL S hl)
  | bipush v =>
    obtain ⟨h1, h2⟩ := and_p hch; obtain rfl := n1 _ h2
    exact lv_bipush hx hb hd (eq_of_beq h1) (hq.2 LS H locs hL S hl)
  | sipush v =>
    obtain ⟨h1, h2⟩ := and_p hch; obtain rfl := n1 _ h2
    exact lv_sipush hx hb hd (eq_of_beq h1) (hq.2 LS H locs hL S hl)
  | ldc ix =>
    obtain ⟨h1, h2⟩ := and_p hch; obtain rfl := n1 _ h2
    exact lv_ldc hx hb hown (hts _ (in_jT (KI_of h1) rfl)) hd (hq.2 LS H locs hL S hl)
  | ldc_w ix =>
    obtain ⟨h1, h2⟩ := and_p hch; obtain rfl := n1 _ h2
    exact lv_ldcw hx hb hown (hts _ (in_jT (KI_of h1) rfl)) hd (hq.2 LS H locs hL S hl)
  | ldc2_w ix =>
    obtain ⟨h1, h2⟩ := and_p hch; obtain rfl := n1 _ h2
    exact lv_ldc2 hx hb hown (hts _ (in_jT (KL_of h1) rfl)) hd (hq.2 LS H locs hL S hl)
  | lconst v =>
    obtain ⟨h1, h2⟩ := and_p hch; obtain rfl := n1 _ h2
    exact lv_lconst hx hb hd (v := lN x) (by rw [Nat.eq_of_beq_eq_true h1]; rfl) (hq.2 LS H locs hL S hl)
  | aconst_null =>
    obtain rfl := n1 _ hch
    exact lv_null hx hb hd (hq.2 LS H locs hL S hl)
  | iload i =>
    obtain ⟨h1, h2⟩ := and_p hch; obtain rfl := n1 _ h2; obtain rfl := Nat.eq_of_beq_eq_true h1
    obtain ⟨v, hv, hq⟩ := ldI_p hq
    exact lv_iload hx hb hd (hL.at hv) (hq.2 LS H locs hL S hl)
  | iload_n i =>
    obtain ⟨h1, h2⟩ := and_p hch; obtain rfl := n1 _ h2
    obtain ⟨v, hv, hq⟩ := ldI_p hq
    exact lv_iload_n hx hb hd (Nat.eq_of_beq_eq_true h1) (hL.at hv) (hq.2 LS H locs hL S hl)
  | lload i =>
    obtain ⟨h1, h2⟩ := and_p hch; obtain rfl := n1 _ h2; obtain rfl := Nat.eq_of_beq_eq_true h1
    obtain ⟨v, hv, hq⟩ := ldL_p hq
    exact lv_lload hx hb hd (hL.at hv) (hq.2 LS H locs hL S hl)
  | lload_n i =>
    obtain ⟨h1, h2⟩ := and_p hch; obtain rfl := n1 _ h2
    obtain ⟨v, hv, hq⟩ := ldL_p hq
    exact lv_lload_n hx hb hd (Nat.eq_of_beq_eq_true h1) (hL.at hv) (hq.2 LS H locs hL S hl)
  | aload i =>
    obtain ⟨h1, h2⟩ := and_p hch; obtain rfl := n1 _ h2; obtain rfl := Nat.eq_of_beq_eq_true h1
    rcases ldA_p hq with ⟨hv, hq⟩ | ⟨v, hv, hq⟩
    · exact lv_aloadN hx hb hd (hL.at hv) (hq.2 LS H locs hL S hl)
    · exact lv_aload hx hb hd (hL.at hv) (hq.2 LS H locs hL S hl)
  | aload_n i =>
    obtain ⟨h1, h2⟩ := and_p hch; obtain rfl := n1 _ h2
    rcases ldA_p hq with ⟨hv, hq⟩ | ⟨v, hv, hq⟩
    · exact lv_aload_nN hx hb hd (Nat.eq_of_beq_eq_true h1) (hL.at hv) (hq.2 LS H locs hL S hl)
    · exact lv_aload_n hx hb hd (Nat.eq_of_beq_eq_true h1) (hL.at hv) (hq.2 LS H locs hL S hl)
  | istore i =>
    obtain ⟨h1, h2⟩ := and_p hch; obtain rfl := n1 _ h2; obtain rfl := Nat.eq_of_beq_eq_true h1
    obtain ⟨v, t, rfl, hq1⟩ := b1_p hq
    obtain ⟨hi, hq1⟩ := sto1_p hq1
    exact lv_istore hx hb hd hL.2 (by rw [← hL.1]; exact hi) rfl fun LS' h' => hq1.2 LS' H locs (hL.sto1 h') S hl
  | istore_n i =>
    obtain ⟨h1, h2⟩ := and_p hch; obtain rfl := n1 _ h2
    obtain ⟨v, t, rfl, hq1⟩ := b1_p hq
    obtain ⟨hi, hq1⟩ := sto1_p hq1
    exact lv_istore_n hx hb hd (Nat.eq_of_beq_eq_true h1) hL.2 (by rw [← hL.1]; exact hi) rfl fun LS' h' => hq1.2 LS' H locs (hL.sto1 h') S hl
  | lstore i =>
    obtain ⟨h1, h2⟩ := and_p hch; obtain rfl := n1 _ h2; obtain rfl := Nat.eq_of_beq_eq_true h1
    obtain ⟨v, t, rfl, hq1⟩ := l1_p hq
    obtain ⟨hi, hq1⟩ := sto2_p hq1
    exact lv_lstore hx hb hd hL.2 (by rw [← hL.1]; exact hi) rfl fun LS' h' => hq1.2 LS' H locs (hL.sto2 h') S hl
  | lstore_n i =>
    obtain ⟨h1, h2⟩ := and_p hch; obtain rfl := n1 _ h2
    obtain ⟨v, t, rfl, hq1⟩ := l1_p hq
    obtain ⟨hi, hq1⟩ := sto2_p hq1
    exact lv_lstore_n hx hb hd (Nat.eq_of_beq_eq_true h1) hL.2 (by rw [← hL.1]; exact hi) rfl fun LS' h' => hq1.2 LS' H locs (hL.sto2 h') S hl
  | astore i =>
    obtain ⟨h1, h2⟩ := and_p hch; obtain rfl := n1 _ h2; obtain rfl := Nat.eq_of_beq_eq_true h1
    rcases nul_p hq with ⟨t, rfl, hqn⟩ | ⟨v, t, rfl, hqn⟩
    · obtain ⟨hi, hqn⟩ := sto1_p hqn
      exact lv_astoreN hx hb hd hL.2 (by rw [← hL.1]; exact hi) rfl fun LS' h' => hqn.2 LS' H locs (hL.sto1 h') S hl
    · obtain ⟨hi, hqn⟩ := sto1_p hqn
      exact lv_astore hx hb hd hL.2 (by rw [← hL.1]; exact hi) rfl fun LS' h' => hqn.2 LS' H locs (hL.sto1 h') S hl
  | astore_n i =>
    obtain ⟨h1, h2⟩ := and_p hch; obtain rfl := n1 _ h2
    rcases nul_p hq with ⟨t, rfl, hqn⟩ | ⟨v, t, rfl, hqn⟩
    · obtain ⟨hi, hqn⟩ := sto1_p hqn
      exact lv_astore_nN hx hb hd (Nat.eq_of_beq_eq_true h1) hL.2 (by rw [← hL.1]; exact hi) rfl fun LS' h' => hqn.2 LS' H locs (hL.sto1 h') S hl
    · obtain ⟨hi, hqn⟩ := sto1_p hqn
      exact lv_astore_n hx hb hd (Nat.eq_of_beq_eq_true h1) hL.2 (by rw [← hL.1]; exact hi) rfl fun LS' h' => hqn.2 LS' H locs (hL.sto1 h') S hl
  | iinc i v =>
    obtain ⟨h0, h2⟩ := and_p hch; obtain rfl := n1 _ h2; obtain ⟨h1, h3⟩ := and_p h0; obtain rfl := Nat.eq_of_beq_eq_true h1
    obtain ⟨w, hv, hq⟩ := ldI_p hq
    obtain ⟨hi, hq⟩ := sto1_p hq
    obtain ⟨k, hk⟩ := List.getElem?_of_mem (mem_lvl.mpr hv)
    exact lv_iinc hx hb hd hL.2 hk (by rw [eq_of_beq h3]) (by rw [← hL.1]; exact hi) rfl fun LS' h' => hq.2 LS' H locs (hL.sto1 h') S hl
  | iadd => obtain rfl := n1 _ hch; obtain ⟨a, b, t, rfl, hq1⟩ := b2_p hq; exact lv_iadd hx hb hd (hq1.2 LS H locs hL S hl)
  | isub => obtain rfl := n1 _ hch; obtain ⟨a, b, t, rfl, hq1⟩ := b2_p hq; exact lv_isub hx hb hd (hq1.2 LS H locs hL S hl)
  | imul => obtain rfl := n1 _ hch; obtain ⟨a, b, t, rfl, hq1⟩ := b2_p hq; exact lv_imul hx hb hd (hq1.2 LS H locs hL S hl)
  | idiv =>
    obtain rfl := n1 _ hch; obtain ⟨a, b, t, rfl, hq1⟩ := b2_p hq
    by_cases hz : b = 0
    · rw [if_pos hz] at hq1; exact hq1.elim
    · rw [if_neg hz] at hq1; exact lv_idiv hx hb hd hz (hq1.2 LS H locs hL S hl)
  | irem =>
    obtain rfl := n1 _ hch; obtain ⟨a, b, t, rfl, hq1⟩ := b2_p hq
    by_cases hz : b = 0
    · rw [if_pos hz] at hq1; exact hq1.elim
    · rw [if_neg hz] at hq1; exact lv_irem hx hb hd hz (hq1.2 LS H locs hL S hl)
  | iand => obtain rfl := n1 _ hch; obtain ⟨a, b, t, rfl, hq1⟩ := b2_p hq; exact lv_iand hx hb hd (hq1.2 LS H locs hL S hl)
  | ior => obtain rfl := n1 _ hch; obtain ⟨a, b, t, rfl, hq1⟩ := b2_p hq; exact lv_ior hx hb hd (hq1.2 LS H locs hL S hl)
  | ishl => obtain rfl := n1 _ hch; obtain ⟨a, b, t, rfl, hq1⟩ := b2_p hq; exact lv_ishl hx hb hd (hq1.2 LS H locs hL S hl)
  | ishr => obtain rfl := n1 _ hch; obtain ⟨a, b, t, rfl, hq1⟩ := b2_p hq; exact lv_ishr hx hb hd (hq1.2 LS H locs hL S hl)
  | iushr => obtain rfl := n1 _ hch; obtain ⟨a, b, t, rfl, hq1⟩ := b2_p hq; exact lv_iushr hx hb hd rfl (hq1.2 LS H locs hL S hl)
  | ladd => obtain rfl := n1 _ hch; obtain ⟨a, b, t, rfl, hq1⟩ := l2_p hq; exact lv_ladd hx hb hd (hq1.2 LS H locs hL S hl)
  | lsub => obtain rfl := n1 _ hch; obtain ⟨a, b, t, rfl, hq1⟩ := l2_p hq; exact lv_lsub hx hb hd (hq1.2 LS H locs hL S hl)
  | lmul => obtain rfl := n1 _ hch; obtain ⟨a, b, t, rfl, hq1⟩ := l2_p hq; exact lv_lmul hx hb hd (hq1.2 LS H locs hL S hl)
  | ldiv =>
    obtain rfl := n1 _ hch; obtain ⟨a, b, t, rfl, hq1⟩ := l2_p hq
    by_cases hz : b = 0
    · rw [if_pos hz] at hq1; exact hq1.elim
    · rw [if_neg hz] at hq1; exact lv_ldiv hx hb hd hz (hq1.2 LS H locs hL S hl)
  | lrem =>
    obtain rfl := n1 _ hch; obtain ⟨a, b, t, rfl, hq1⟩ := l2_p hq
    by_cases hz : b = 0
    · rw [if_pos hz] at hq1; exact hq1.elim
    · rw [if_neg hz] at hq1; exact lv_lrem hx hb hd hz (hq1.2 LS H locs hL S hl)
  | lneg => obtain rfl := n1 _ hch; obtain ⟨a, t, rfl, hq1⟩ := l1_p hq; exact lv_lneg hx hb hd (hq1.2 LS H locs hL S hl)
  | lcmp => obtain rfl := n1 _ hch; obtain ⟨a, b, t, rfl, hq1⟩ := l2_p hq; exact W.lcmp hx hb hd (hq1.2 LS H locs hL S hl)
  | i2l => obtain rfl := n1 _ hch; obtain ⟨a, t, rfl, hq1⟩ := b1_p hq; exact lv_i2l hx hb hd rfl (hq1.2 LS H locs hL S hl)
  | l2i => obtain rfl := n1 _ hch; obtain ⟨a, t, rfl, hq1⟩ := l1_p hq; exact lv_l2i hx hb hd rfl (hq1.2 LS H locs hL S hl)
  | i2b => obtain rfl := n1 _ hch; obtain ⟨a, t, rfl, hq1⟩ := b1_p hq; exact lv_i2b hx hb hd rfl (hq1.2 LS H locs hL S hl)
  | i2s => obtain rfl := n1 _ hch; obtain ⟨a, t, rfl, hq1⟩ := b1_p hq; exact lv_i2s hx hb hd rfl (hq1.2 LS H locs hL S hl)
  | dup => obtain rfl := n1 _ hch; obtain ⟨a, t, rfl, hq1⟩ := a1_p hq; exact lv_dup hx hb hd rfl (hq1.2 LS H locs hL S hl)
  | dup2 => obtain rfl := n1 _ hch; obtain ⟨a, i, t, rfl, hq1⟩ := ai_p hq; exact lv_dup2_11 hx hb hd rfl rfl (hq1.2 LS H locs hL S hl)
  | pop => obtain rfl := n1 _ hch; obtain ⟨a, t, rfl, hq1⟩ := b1_p hq; exact lv_pop hx hb hd rfl (hq1.2 LS H locs hL S hl)
  | ifCond cd o =>
    obtain ⟨h1, h2⟩ := and_p hch; obtain rfl := n1 _ h2
    have ht : (pc : Int) + o = (x : Int) := of_decide_eq_true h1
    obtain ⟨a, t, rfl, hq1⟩ := b1_p hq
    cases cd <;> simp only [ifc] at hq1
    · exact lv_if_eq hx hb hd ht (fun q => by rw [if_pos q] at hq1; exact hq1.2 LS H locs hL S hl) (fun q => by rw [if_neg q] at hq1; exact hq1.2 LS H locs hL S hl)
    · exact lv_if_ne hx hb hd ht (fun q => by rw [if_neg q] at hq1; exact hq1.2 LS H locs hL S hl) (fun q => by rw [if_pos q] at hq1; exact hq1.2 LS H locs hL S hl)
    · exact lv_if_lt hx hb hd ht (fun q => by rw [if_pos q] at hq1; exact hq1.2 LS H locs hL S hl) (fun q => by rw [if_neg q] at hq1; exact hq1.2 LS H locs hL S hl)
    · exact lv_if_ge hx hb hd ht (fun q => by rw [if_neg (k2_nlt q)] at hq1; exact hq1.2 LS H locs hL S hl) (fun q => by rw [if_pos (k2_lt q)] at hq1; exact hq1.2 LS H locs hL S hl)
    · exact lv_if_gt hx hb hd ht (fun q => by rw [if_pos q] at hq1; exact hq1.2 LS H locs hL S hl) (fun q => by rw [if_neg q] at hq1; exact hq1.2 LS H locs hL S hl)
    · exact lv_if_le hx hb hd ht (fun q => by rw [if_neg (k2_nlt q)] at hq1; exact hq1.2 LS H locs hL S hl) (fun q => by rw [if_pos (k2_lt q)] at hq1; exact hq1.2 LS H locs hL S hl)
  | if_icmp cd o =>
    obtain ⟨h1, h2⟩ := and_p hch; obtain rfl := n1 _ h2
    have ht : (pc : Int) + o = (x : Int) := of_decide_eq_true h1
    obtain ⟨a, b, t, rfl, hq1⟩ := b2_p hq
    cases cd <;> simp only [icm] at hq1
    · exact lv_icmp_eq hx hb hd ht (fun q => by rw [if_pos q] at hq1; exact hq1.2 LS H locs hL S hl) (fun q => by rw [if_neg q] at hq1; exact hq1.2 LS H locs hL S hl)
    · exact lv_icmp_ne hx hb hd ht (fun q => by rw [if_neg q] at hq1; exact hq1.2 LS H locs hL S hl) (fun q => by rw [if_pos q] at hq1; exact hq1.2 LS H locs hL S hl)
    · exact lv_icmp_lt hx hb hd ht (fun q => by rw [if_pos q] at hq1; exact hq1.2 LS H locs hL S hl) (fun q => by rw [if_neg q] at hq1; exact hq1.2 LS H locs hL S hl)
    · exact lv_icmp_ge hx hb hd ht (fun q => by rw [if_neg (k2_nlt q)] at hq1; exact hq1.2 LS H locs hL S hl) (fun q => by rw [if_pos (k2_lt q)] at hq1; exact hq1.2 LS H locs hL S hl)
    · exact lv_icmp_gt hx hb hd ht (fun q => by rw [if_pos q] at hq1; exact hq1.2 LS H locs hL S hl) (fun q => by rw [if_neg q] at hq1; exact hq1.2 LS H locs hL S hl)
    · exact lv_icmp_le hx hb hd ht (fun q => by rw [if_neg (k2_nlt q)] at hq1; exact hq1.2 LS H locs hL S hl) (fun q => by rw [if_pos (k2_lt q)] at hq1; exact hq1.2 LS H locs hL S hl)
  | goto o =>
    obtain ⟨h1, h2⟩ := and_p hch; obtain rfl := n1 _ h2
    exact lv_goto hx hb hd (of_decide_eq_true h1) (hq.2 LS H locs hL S hl)
  | ifnull o =>
    obtain ⟨h1, h2⟩ := and_p hch; obtain rfl := n1 _ h2
    rcases nul_p hq with ⟨t, rfl, hqn⟩ | ⟨v, t, rfl, hqn⟩
    · exact lv_ifnullN hx hb hd (of_decide_eq_true h1) (hqn.2 LS H locs hL S hl)
    · exact lv_ifnull hx hb hd (hqn.2 LS H locs hL S hl)
  | ifnonnull o =>
    obtain ⟨h1, h2⟩ := and_p hch; obtain rfl := n1 _ h2
    rcases nul_p hq with ⟨t, rfl, hqn⟩ | ⟨v, t, rfl, hqn⟩
    · exact lv_ifnonnullN hx hb hd (hqn.2 LS H locs hL S hl)
    · exact lv_ifnonnull hx hb hd (of_decide_eq_true h1) (hqn.2 LS H locs hL S hl)
  | tableswitch d lo hh offs =>
    obtain ⟨h0, h3⟩ := and_p hch; obtain ⟨h1, h2⟩ := and_p h0
    have h1 : 0 ≤ (pc : Int) + d := of_decide_eq_true h1
    have h3 : (offs.size : Int) = hh - lo + 1 := of_decide_eq_true h3
    obtain ⟨a, t, rfl, hq1⟩ := b1_p hq
    unfold swT at hq1
    by_cases ho : a.toInt < lo ∨ hh < a.toInt
    · rw [if_pos ho] at hq1
      exact lv_tableOut hx hb hd ho (by omega) (hq1.2 LS H locs hL S hl)
    · rw [if_neg ho] at hq1
      rw [not_or] at ho
      have hlt : (a.toInt - lo).toNat < offs.size := by omega
      have hg : offs[(a.toInt - lo).toNat]? = some (offs.getD (a.toInt - lo).toNat 0) := by
        rw [Array.getD_eq_getD_getElem?, Array.getElem?_eq_getElem hlt]; rfl
      have hp : 0 ≤ (pc : Int) + offs.getD (a.toInt - lo).toNat 0 := by
        rw [Array.all_eq_true'] at h2
        have := h2 (offs.getD (a.toInt - lo).toNat 0) (Array.mem_of_getElem? hg)
        exact of_decide_eq_true this
      exact lv_tableIn hx hb hd ho.1 ho.2 hg (by omega) (hq1.2 LS H locs hL S hl)
  | lookupswitch d ps =>
    obtain ⟨h0, h3⟩ := and_p hch; obtain ⟨h1, h2⟩ := and_p h0
    have h1 : 0 ≤ (pc : Int) + d := of_decide_eq_true h1
    obtain ⟨a, t, rfl, hq1⟩ := b1_p hq
    unfold swL at hq1
    have key : ∀ (L : List (Int × Int)), L.all (fun o => decide (0 ≤ (pc : Int) + o.2)) = true → 0 ≤ (pc : Int) + Op.lookupswitch.offset L d a.toInt := by
      intro L
      induction L with
      | nil => intro _; exact h1
      | cons q L ih =>
        intro hq1
        simp only [List.all_cons, Bool.and_eq_true, decide_eq_true_eq] at hq1
        unfold Op.lookupswitch.offset
        first
          | (split; exact hq1.1; exact ih (by simpa using hq1.2))
          | (split <;> first | exact hq1.1 | exact ih (by simpa using hq1.2))
    have hk := key _ h2
    exact lv_lookup hx hb hd h3 rfl (tgt := ((pc : Int) + Op.lookupswitch.offset ps.toList d a.toInt).toNat) (by omega) (hq1.2 LS H locs hL S hl)
  | getfield ix =>
    obtain ⟨h1, h2⟩ := and_p hch; obtain rfl := n1 _ h2
    obtain ⟨w1, w2, w3, w4⟩ := FL_of h1
    obtain ⟨a, t, rfl, hq1⟩ := a1_p hq
    have key : ∃ F : Nat → Value, h.1 a = some (cO x F) ∧ jK p l e RM s mm args below meth c Q B D m bc bs (pc + 3) ls (F y :: t) h := by
      cases hz : Nat.beq z 2 with
      | true =>
        rw [hz] at hq1
        obtain ⟨v, hv, hq1⟩ := obd_p hq1
        obtain ⟨F, e1, e2⟩ := Option.bind_eq_some_iff.mp hv
        exact ⟨F, gO_p e1, by rw [vA_p e2]; exact hq1⟩
      | false =>
        rw [hz] at hq1
        cases hz1 : Nat.beq z 1 with
        | true =>
          rw [hz1] at hq1
          obtain ⟨v, hv, hq1⟩ := obd_p hq1
          obtain ⟨F, e1, e2⟩ := Option.bind_eq_some_iff.mp hv
          exact ⟨F, gO_p e1, by rw [vJ_p e2]; exact hq1⟩
        | false =>
          rw [hz1] at hq1
          obtain ⟨v, hv, hq1⟩ := obd_p hq1
          obtain ⟨F, e1, e2⟩ := Option.bind_eq_some_iff.mp hv
          exact ⟨F, gO_p e1, by rw [vI_p e2]; exact hq1⟩
    obtain ⟨F, e1, hq1⟩ := key
    exact j_get hx hb hown hts hK S e1 w3 w1 w2 hd (hq1.2 LS H locs hL S hl)
  | putfield ix =>
    obtain ⟨h0, h5⟩ := and_p hch; obtain ⟨h0, h4⟩ := and_p h0; obtain ⟨h1, h2⟩ := and_p h0; obtain rfl := n1 _ h2
    obtain ⟨w1, w2, w3, w4⟩ := FL_of h1
    obtain ⟨a, v, t, rfl, hq1, hv⟩ := pfv_p hq
    obtain ⟨h1, hp, hq1⟩ := obd_p hq1
    obtain ⟨F, e1, e2⟩ := Option.bind_eq_some_iff.mp hp
    cases e2
    refine j_put hx hb hown hts hK S hl (gO_p e1) w3 w1 w2 (Nat.eq_of_beq_eq_true h4) hv (fun hf => ?_) hd fun H1 locs1 S1 hl1 => hq1.2 LS H1 locs1 hL S1 hl1
    rw [hf] at h5
    obtain ⟨g1, g2⟩ := and_p (show (Nat.beq (mK m) 2 && (fT x y).1 == cnT (mO m)) = true from h5)
    exact ⟨hin (Nat.eq_of_beq_eq_true g1), eq_of_beq g2⟩
  | iaload =>
    obtain rfl := n1 _ hch; obtain ⟨a, i, t, rfl, hq1⟩ := ai_p hq; obtain ⟨v, hv, hq1⟩ := obd_p hq1
    exact j_iald hx hb S hv hd (hq1.2 LS H locs hL S hl)
  | iastore =>
    obtain rfl := n1 _ hch; obtain ⟨a, i, v, t, rfl, hq1⟩ := aii_p hq; obtain ⟨h1, hv, hq1⟩ := obd_p hq1
    have hle := asI_le hv
    have e2 : h1.2 = h.2 := by
      obtain ⟨F, -, e2⟩ := Option.bind_eq_some_iff.mp hv
      split at e2 <;> cases e2; rfl
    refine j_iast hx hb S hl hv hd fun H1 locs1 S1 hl1 => ?_
    have := hq1.2 LS H1 locs1 hL S1 hl1
    rwa [e2] at this
  | aaload =>
    obtain rfl := n1 _ hch; obtain ⟨a, i, t, rfl, hq1⟩ := ai_p hq; obtain ⟨v, hv, hq1⟩ := obd_p hq1
    exact j_aald hx hb S hv hd (hq1.2 LS H locs hL S hl)
  | aastore =>
    obtain rfl := n1 _ hch; obtain ⟨a, i, v, t, rfl, hq1⟩ := air_p hq; obtain ⟨h1, hv, hq1⟩ := obd_p hq1
    have e2 : h1.2 = h.2 := by
      obtain ⟨F, -, e2⟩ := Option.bind_eq_some_iff.mp hv
      split at e2
      · cases e2
      · obtain ⟨G, -, e3⟩ := Option.bind_eq_some_iff.mp e2
        cases e3; rfl
    refine j_aast hx hb hK S hl hv hd fun H1 locs1 S1 hl1 => ?_
    have := hq1.2 LS H1 locs1 hL S1 hl1
    rwa [e2] at this
  | arraylength =>
    obtain rfl := n1 _ hch; obtain ⟨a, t, rfl, hq1⟩ := a1_p hq; obtain ⟨v, hv, hq1⟩ := obd_p hq1
    exact j_alen hx hb S hv hd (hq1.2 LS H locs hL S hl)
  | newarray ty =>
    obtain ⟨h1, h2⟩ := and_p hch; obtain rfl := n1 _ h2
    have hty : ty = .int := by cases ty <;> first | rfl | exact absurd h1 (by decide)
    subst hty
    obtain ⟨v, t, rfl, hq1⟩ := b1_p hq; obtain ⟨h1, hv, hq1⟩ := obd_p hq1
    have e2 : h1.2.1 = h.2.1 + 1 ∧ h1.2.2 = h.2.2 + v.toNatClampNeg := by
      unfold newI at hv; split at hv <;> cases hv; exact ⟨rfl, rfl⟩
    have hbd := hq1.1
    refine j_newa hx hb hts S hv hd (by omega) (by omega) fun H1 S1 => ?_
    have := hq1.2 LS H1 locs hL S1 hl
    rwa [show h1.2.1 - bc = h.2.1 - bc + 1 by omega, show h1.2.2 - bs = h.2.2 - bs + v.toNatClampNeg by omega] at this
  | anewarray ix =>
    obtain ⟨h0, h3⟩ := and_p hch; obtain ⟨h1, h2⟩ := and_p h0; obtain rfl := n1 _ h2
    obtain ⟨w1, w2⟩ := CL_of h1
    have w3 : (Jvm.Cond.arrayOver (.object (cnT x))) ∈ lw_tbl := List.mem_of_getElem? (of_decide_eq_true h3)
    obtain ⟨v, t, rfl, hq1⟩ := b1_p hq; obtain ⟨h1, hv, hq1⟩ := obd_p hq1
    have e2 : h1.2.1 = h.2.1 + 1 ∧ h1.2.2 = h.2.2 + v.toNatClampNeg := by
      unfold newR at hv; split at hv <;> cases hv; exact ⟨rfl, rfl⟩
    have hbd := hq1.1
    refine j_anew hx hb hown hts hbad S hv w2 w1 w3 hd (by omega) (by omega) fun H1 S1 => ?_
    have := hq1.2 LS H1 locs hL S1 hl
    rwa [show h1.2.1 - bc = h.2.1 - bc + 1 by omega, show h1.2.2 - bs = h.2.2 - bs + v.toNatClampNeg by omega] at this
  | new ix =>
    obtain ⟨h0, h3⟩ := and_p hch; obtain ⟨h1, h2⟩ := and_p h0; obtain rfl := n1 _ h2
    obtain ⟨w1, _⟩ := CL_of h1
    have w2 : x < 9 := Nat.le_of_ble_eq_true h3
    have e2 : (newO h x).2.1 = h.2.1 + 1 ∧ (newO h x).2.2 = h.2.2 + fNT x := ⟨rfl, rfl⟩
    have hq1 := hq.1
    refine j_new hx hb hown hts hK S w2 w1 hd (by omega) (by omega) fun H1 S1 => ?_
    have := hq.2 LS H1 locs hL S1 hl
    rwa [show (newO h x).2.1 - bc = h.2.1 - bc + 1 by omega, show (newO h x).2.2 - bs = h.2.2 - bs + fNT x by omega] at this
  | ireturn =>
    obtain ⟨h1, h2⟩ := and_p hch; obtain rfl := n1 _ h1
    obtain ⟨v, rfl, hq1⟩ := ret1_p hq; obtain ⟨w, hv, hq1⟩ := obd_p hq1
    obtain rfl := vI_p hv
    have h2 : mR m = cond (Nat.beq z 1) (some .boolean) (some .int) := of_decide_eq_true h2
    cases hz : Nat.beq z 1 with
    | true =>
      rw [hz] at hq1 h2
      obtain ⟨g1, hq1⟩ := cond_p hq1
      exact hq1 pc LS H locs S hl ⟨hd, Or.inr ⟨h2, g1⟩⟩
    | false =>
      rw [hz] at hq1 h2
      exact hq1 pc LS H locs S hl ⟨hd, Or.inl h2⟩
  | lreturn =>
    obtain ⟨h1, h2⟩ := and_p hch; obtain rfl := n1 _ h1
    obtain ⟨v, rfl, hq1⟩ := ret1_p hq; obtain ⟨w, hv, hq1⟩ := obd_p hq1
    obtain rfl := vJ_p hv
    exact hq1 pc LS H locs S hl ⟨hd, of_decide_eq_true h2⟩
  | areturn =>
    obtain ⟨h1, h2⟩ := and_p hch; obtain rfl := n1 _ h1
    rcases nul_p hq with ⟨t, rfl, hqn⟩ | ⟨v, t, rfl, hqn⟩
    · obtain ⟨g1, hqn⟩ := cond_p hqn
      obtain rfl := List.isEmpty_iff.mp g1
      exact hqn pc LS H locs S hl ⟨hd, h2⟩
    · obtain ⟨g1, hqn⟩ := cond_p hqn
      obtain rfl := List.isEmpty_iff.mp g1
      exact hqn pc LS H locs S hl ⟨hd, h2⟩
  | return_ =>
    obtain ⟨h1, h2⟩ := and_p hch; obtain rfl := n1 _ h1
    obtain ⟨g1, hq⟩ := cond_p hq
    obtain rfl := List.isEmpty_iff.mp g1
    exact hq pc LS H locs S hl ⟨hd, of_decide_eq_true h2⟩
  | invokevirtual ix =>
    obtain ⟨h0, h3⟩ := and_p hch; obtain ⟨h1, h2⟩ := and_p h0; obtain rfl := n1 _ h2; obtain rfl := Nat.eq_of_beq_eq_true h3
    obtain ⟨a, t, rfl, ha, ht, hq1⟩ := inv_p hq
    obtain ⟨b, As, F, rfl, hF, hq2⟩ := rcv_p hq1
    obtain ⟨v, h1', ⟨hrk, hle, hM⟩, hbd, hq2⟩ := hq2
    rcases ML_of h1 with ⟨-, w1, w2, w3, w4, w5⟩ | ⟨z0, -⟩ | ⟨z0, -⟩ | ⟨z0, -⟩ | ⟨z0, -⟩ | ⟨z0, -⟩ <;> first | (exact absurd z0 (by decide)) | skip
    obtain ⟨k1, k2, k3, k4, k5, k6, k7, k8, k9, -, -⟩ := okM_p w5 w4
    obtain ⟨k9, k10⟩ := k9 w3
    obtain ⟨hq1, hq2⟩ := hq2
    obtain ⟨-, -, cell, g1, g2, g3, -⟩ := S.2.2 b _ (gO_p hF)
    have hO : mO x < 9 := (S.2.2 b _ (gO_p hF)).2.1
    refine j_call (va_runV (Ts := jT) (As := As) (rest := t) (C := cnT (mO x)) (own := cnT (mO m)) ⟨hx, hb, hml, hown, hts⟩ (hM w5 w4) (cwV (mP x) hts ?_ rfl rfl rfl ⟨k3, k4, k5, k6⟩ ?_) ⟨j_blind, ⟨cell, g1, by rw [g3]; rfl, by rw [g2]; exact (hK.1 _ _ (clsAt _ hO)).2.1⟩, fun U hU hW => ⟨rfl, by rw [hU]; exact S.moved hW.alike, va_K.moved hW.alike hK, hbad.warm hW⟩⟩ rfl ?_ hsz ?_ ?_ hd ?_) (fun _ _ _ q => q) (fun _ q => q) hl fun H1 locs1 S1 hl1 => ?_
    · exact good_cons ⟨in_jT w1 rfl, Or.inl rfl⟩ (good_cons ⟨in_jT k9 rfl, Or.inl rfl⟩ (good_cons ⟨in_jT k10 rfl, Or.inl rfl⟩ (good_cons ⟨in_jT (okw_in (okG_all _ (by omega))) rfl, Or.inl rfl⟩ (good_jWs w5 w4))))
    · show rk x _ + 1 + 1 ≤ RM.frames ∧ 8 + (mL x + 11) + 40 * (rk x _ + 1) ≤ RM.locals
      omega
    · rw [List.length_cons] at ha; omega
    · show (Value.ref b :: As).reverse ++ t = _
      rw [List.reverse_cons, List.append_assoc]; rfl
    · exact lv_room ht
    · have := hle.1; have := hle.2; constructor <;> omega
    · have := hq2 LS H1 locs1 hL S1 hl1
      have e1 := hle.1; have e2 := hle.2
      rwa [show h1'.2.1 - bc = h.2.1 - bc + (h1'.2.1 - h.2.1) by omega, show h1'.2.2 - bs = h.2.2 - bs + (h1'.2.2 - h.2.2) by omega] at this
  | invokestatic ix =>
    obtain ⟨h0, h3⟩ := and_p hch; obtain ⟨h1, h2⟩ := and_p h0; obtain rfl := n1 _ h2
    dsimp only at hq
    cases hz5 : Nat.beq z 5 with
    | true =>
      rw [hz5] at hq
      obtain rfl := Nat.eq_of_beq_eq_true hz5
      obtain ⟨a, i, b, j, k, t, rfl, hq1⟩ := a5_p hq
      obtain ⟨ht, hq1⟩ := cond_p hq1
      obtain ⟨h1', hv, hq1⟩ := obd_p hq1
      rcases ML_of h1 with ⟨z0, -⟩ | ⟨z0, -⟩ | ⟨z0, -⟩ | ⟨z0, -⟩ | ⟨z0, -⟩ | ⟨-, w1⟩ <;> first | (exact absurd z0 (by decide)) | skip
      have e2 : h1'.2 = h.2 := by
        obtain ⟨F, -, e2⟩ := Option.bind_eq_some_iff.mp hv
        obtain ⟨G, -, e3⟩ := Option.bind_eq_some_iff.mp e2
        split at e3 <;> cases e3; rfl
      refine j_copy hx hb (by rw [hml, hsz]) hown hts hK S hl hv w1 hd (Nat.le_of_ble_eq_true ht) (by omega) (by omega) fun H1 locs1 S1 hl1 => ?_
      have := hq1.2 LS H1 locs1 hL S1 hl1
      rwa [e2] at this
    | false =>
    rw [hz5] at hq h3
    rw [cond_false] at hq
    have h3 : z = 1 := Nat.eq_of_beq_eq_true (by simpa using h3)
    subst h3
    obtain ⟨a, t, rfl, ha, ht, hq2⟩ := inv_p hq
    obtain ⟨v, h1', ⟨hrk, hle, hM⟩, hbd, hq2⟩ := hq2
    rcases ML_of h1 with ⟨z0, -⟩ | ⟨-, w1, w2, w3, w4, w5⟩ | ⟨z0, -⟩ | ⟨z0, -⟩ | ⟨z0, -⟩ | ⟨z0, -⟩ <;> first | (exact absurd z0 (by decide)) | skip
    obtain ⟨k1, k2, k3, k4, k5, k6, k7, k8, -, k9, -⟩ := okM_p w5 w4
    have k9 := k9 w3
    obtain ⟨hq1, hq2⟩ := hq2
    have hini : (Jvm.Cond.initialized (mY x).cls) ∈ lw_tbl := by rw [k3]; exact okw_in (okG_all _ k8)
    refine j_call (va_runS (Ts := jT) (As := a) (rest := t) (own := cnT (mO m)) ⟨hx, hb, hml, hown, hts⟩ (hM w5 w4) (va_cwS (mP x) hts ?_ rfl rfl rfl ⟨k4, k5, k6⟩ ?_) ⟨j_blind, fun U hU hW => ⟨rfl, by rw [hU]; exact S.moved hW.alike, va_K.moved hW.alike hK, hbad.warm hW⟩⟩ rfl ?_ hsz rfl ?_ hd ?_) (fun _ _ _ q => q) (fun _ q => q) hl fun H1 locs1 S1 hl1 => ?_
    · exact good_cons ⟨in_jT w1 rfl, Or.inl rfl⟩ (good_cons ⟨in_jT k9 rfl, Or.inl rfl⟩ (good_cons ⟨in_jT hini rfl, Or.inl rfl⟩ (good_jWs w5 w4)))
    · show rk x _ + 1 + 1 ≤ RM.frames ∧ 8 + (mL x + 11) + 40 * (rk x _ + 1) ≤ RM.locals
      omega
    · omega
    · exact lv_room ht
    · have := hle.1; have := hle.2; constructor <;> omega
    · have := hq2 LS H1 locs1 hL S1 hl1
      have e1 := hle.1; have e2 := hle.2
      rwa [show h1'.2.1 - bc = h.2.1 - bc + (h1'.2.1 - h.2.1) by omega, show h1'.2.2 - bs = h.2.2 - bs + (h1'.2.2 - h.2.2) by omega] at this
  | invokespecial ix =>
    obtain ⟨h0, h3⟩ := and_p hch; obtain ⟨h1, h2⟩ := and_p h0; obtain rfl := n1 _ h2
    obtain ⟨a, t, rfl, ha, ht, hq1⟩ := inv_p hq
    cases hz4 : Nat.beq z 4 with
    | true =>
      rw [hz4] at hq1
      obtain rfl := Nat.eq_of_beq_eq_true hz4
      obtain ⟨b, As, rfl, hq2⟩ := ref0_p hq1
      rcases ML_of h1 with ⟨z0, -⟩ | ⟨z0, -⟩ | ⟨z0, -⟩ | ⟨z0, -⟩ | ⟨-, w1, w2⟩ | ⟨z0, -⟩ <;> first | (exact absurd z0 (by decide)) | skip
      have hA : As = [] := List.length_eq_zero_iff.mp (by rw [List.length_cons] at ha; omega)
      subst hA
      have hsum : (t.map fun v => v.category).sum ≤ 8 := ht
      exact W.objInit hx hb hown (hts _ (in_jT w1 rfl)) (hts _ (in_jT (okw_in (i := 46) (by decide +kernel)) rfl)) (hts _ (in_jT (okw_in (i := 47) (by decide +kernel)) rfl)) rfl (by rw [hml]; exact hsz) rfl hd (by omega) (by show 2 * 0 + (t.map fun v => v.category).sum + 12 ≤ _; omega) (hq2.2 LS H locs hL S hl)
    | false =>
    rw [hz4] at hq1
    obtain ⟨b, As, rfl, hq3⟩ := ref0_p hq1
    obtain ⟨v, h1', ⟨hrk, hle, hM⟩, hbd, hq3⟩ := hq3
    obtain ⟨hq1, hq3⟩ := hq3
    have hpre : PreS s H (jPc B D (.ref b :: As) h) (.ref b :: As) := ⟨j_blind, fun U hU hW => ⟨rfl, by rw [hU]; exact S.moved hW.alike, va_K.moved hW.alike hK, hbad.warm hW⟩⟩
    have hend : ∀ (H1 : Heap) (locs1 : List Loc), jSim B D s H1 h1' → (∀ q ∈ locs1, B ≤ q.base) → W p l e RM s mm args below meth c H1 locs1 (h.2.1 - bc + (h1'.2.1 - h.2.1)) (h.2.2 - bs + (h1'.2.2 - h.2.2)) Q (F0 mm (pc + 3) LS (v.toList ++ t)) := by
      intro H1 locs1 S1 hl1
      have := hq3 LS H1 locs1 hL S1 hl1
      have e1 := hle.1; have e2 := hle.2
      rwa [show h1'.2.1 - bc = h.2.1 - bc + (h1'.2.1 - h.2.1) by omega, show h1'.2.2 - bs = h.2.2 - bs + (h1'.2.2 - h.2.2) by omega] at this
    have hst : (Value.ref b :: As).reverse ++ t = As.reverse ++ Value.ref b :: t := by rw [List.reverse_cons, List.append_assoc]; rfl
    rw [List.length_cons] at ha
    have hcs : h.2.1 - bc + (h1'.2.1 - h.2.1) ≤ RM.cells ∧ h.2.2 - bs + (h1'.2.2 - h.2.2) ≤ RM.slots := by have := hle.1; have := hle.2; constructor <;> omega
    rcases ML_of h1 with ⟨z0, -⟩ | ⟨z0, -⟩ | ⟨-, w1, w2, w3, w4, w5⟩ | ⟨-, w1, w2, w3, w4, w5⟩ | ⟨z0, -⟩ | ⟨z0, -⟩ <;> first | (subst z0; simp at h3; done) | (subst z0; cases hz4; done) | skip
    · obtain ⟨k1, k2, k3, k4, k5, k6, k7, k8, -, -, k9⟩ := okM_p w5 w4
      obtain ⟨k9, k10, k11⟩ := k9 w3
      have hini : (Jvm.Cond.initialized (mY x).cls) ∈ lw_tbl := by rw [k3]; exact okw_in (okG_all _ k8)
      refine j_call (va_runI (Ts := jT) (As := As) (rest := t) (own := cnT (mO m)) (bytes := mB x) (maxL := mL x) (n := mP x) ⟨hx, hb, hml, hown, hts⟩ (hM w5 w4) (cwI (mP x) hts (good_jWs w5 w4) (by unfold jWs; rw [k11]) rfl rfl (hts _ (in_jT hini rfl)) (hts _ (in_jT w1 rfl)) (hts _ (in_jT k9 rfl)) k10 ⟨k4, k5, k6⟩ ?_) hpre rfl (by omega) hsz hst (lv_room ht) hd hcs) (fun _ _ _ q => q) (fun _ q => q) hl hend
      show rk x _ + 1 + 1 ≤ RM.frames ∧ 8 + (mL x + 11) + 40 * (rk x _ + 1) ≤ RM.locals
      omega
    · obtain ⟨k1, k2, k3, k4, k5, k6, k7, k8, -, -, k9⟩ := okM_p w5 w4
      obtain ⟨k9, k10, k11⟩ := k9 w3
      have hini : (Jvm.Cond.initialized (mY x).cls) ∈ lw_tbl := by rw [k3]; exact okw_in (okG_all _ k8)
      refine j_call (va_runIN (Ts := jT) (As := As) (rest := t) (own := cnT (mO m)) (host := "RideTie") (bytes := mB x) (maxL := mL x) (n := mP x) ⟨hx, hb, hml, hown, hts⟩ (hM w5 w4) ⟨va_cnB (mP x) hts (good_jWs w5 w4) (by unfold jWs; rw [k11]) rfl rfl (hbad.2 _ _ _ w1) (hts _ (in_jT hini rfl)) ⟨k4, k5, k6⟩ ?_, k10, hts _ (in_jT k9 rfl)⟩ hpre rfl (by omega) hsz hst (lv_room ht) hd hcs) (fun _ _ _ q => q) (fun _ q => q) hl hend
      show rk x _ + 1 + 1 ≤ RM.frames ∧ 8 + (mL x + 11) + 40 * (rk x _ + 1) ≤ RM.locals
      omega
  | _ => exact hq.elim
end JStep3
