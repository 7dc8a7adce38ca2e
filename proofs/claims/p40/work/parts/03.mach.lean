/-! A small interpreter of this claim's bytecode: what the machine does, over plain pictures of the heap. Part 04 ties it to the machine. -/
abbrev jLs : Type := List (Option Value)
/-- a cell: an object (class, fields); an int array; an array of references to objects of a class; the law's script -/
abbrev jCl : Type := (Nat × (Nat → Value)) ⊕ ((Nat × (Nat → Int32)) ⊕ ((Nat × Nat × (Nat → Option Nat)) ⊕ (Nat × (Nat → Int32))))
abbrev jHp : Type := (Nat → Option jCl) × Nat × Nat
abbrev jRs : Type := Option (Option Value × jHp)
def cO (c : Nat) (F : Nat → Value) : jCl := .inl (c, F)
def cI (n : Nat) (f : Nat → Int32) : jCl := .inr (.inl (n, f))
def cR (t n : Nat) (g : Nat → Option Nat) : jCl := .inr (.inr (.inl (t, n, g)))
def cS (n : Nat) (f : Nat → Int32) : jCl := .inr (.inr (.inr (n, f)))
def hset (h : jHp) (a : Nat) (c : jCl) : jHp := (fun q => if q = a then some c else h.1 q, h.2.1, h.2.2)
def hnew (h : jHp) (c : jCl) (n : Nat) : jHp := (fun q => if q = h.2.1 then some c else h.1 q, h.2.1 + 1, h.2.2 + n)
def vI (v : Value) : Option Int32 := match v with | .int x => some x | _ => none
def vJ (v : Value) : Option Int64 := match v with | .long x => some x | _ => none
def vA (v : Value) : Option Nat := match v with | .ref x => some x | _ => none
def gO (h : jHp) (a c : Nat) : Option (Nat → Value) := match h.1 a with | some (.inl q) => if q.1 = c then some q.2 else none | _ => none
def gI (h : jHp) (a c k : Nat) : Option Int32 := (gO h a c).bind fun F => vI (F k)
def gJ (h : jHp) (a c k : Nat) : Option Int64 := (gO h a c).bind fun F => vJ (F k)
def gA (h : jHp) (a c k : Nat) : Option Nat := (gO h a c).bind fun F => vA (F k)
def pF (h : jHp) (a c k : Nat) (v : Value) : Option jHp := (gO h a c).bind fun F => some (hset h a (cO c (updV F k v)))
def aI (h : jHp) (a : Nat) : Option (Nat × (Nat → Int32)) := match h.1 a with | some (.inr (.inl q)) => some q | some (.inr (.inr (.inr q))) => some q | _ => none
def wI (h : jHp) (a : Nat) : Option (Nat × (Nat → Int32)) := match h.1 a with | some (.inr (.inl q)) => some q | _ => none
def gR (h : jHp) (a : Nat) : Option (Nat × Nat × (Nat → Option Nat)) := match h.1 a with | some (.inr (.inr (.inl q))) => some q | _ => none
def alI (h : jHp) (a : Nat) (i : Int32) : Option Int32 := (aI h a).bind fun q => if i < 0 ∨ q.1 ≤ i.toNatClampNeg then none else some (q.2 i.toNatClampNeg)
def asI (h : jHp) (a : Nat) (i x : Int32) : Option jHp := (wI h a).bind fun q => if i < 0 ∨ q.1 ≤ i.toNatClampNeg then none else some (hset h a (cI q.1 (upd q.2 i.toNatClampNeg x)))
def alR (h : jHp) (a : Nat) (i : Int32) : Option Nat := (gR h a).bind fun q => if i < 0 ∨ q.2.1 ≤ i.toNatClampNeg then none else q.2.2 i.toNatClampNeg
def asR (h : jHp) (a : Nat) (i : Int32) (v : Nat) : Option jHp := (gR h a).bind fun q => if i < 0 ∨ q.2.1 ≤ i.toNatClampNeg then none else (gO h v q.1).bind fun _ => some (hset h a (cR q.1 q.2.1 (va_up q.2.2 i.toNatClampNeg (some v))))
def alen (h : jHp) (a : Nat) : Option Int32 := match h.1 a with | some (.inr (.inl q)) => some (nI q.1) | some (.inr (.inr (.inl q))) => some (nI q.2.1) | some (.inr (.inr (.inr q))) => some (nI q.1) | _ => none
def newI (h : jHp) (n : Int32) : Option jHp := if n < 0 ∨ 100000 < n.toNatClampNeg then none else some (hnew h (cI n.toNatClampNeg (fun _ => 0)) n.toNatClampNeg)
def newR (h : jHp) (t : Nat) (n : Int32) : Option jHp := if n < 0 ∨ 100000 < n.toNatClampNeg then none else some (hnew h (cR t n.toNatClampNeg (fun _ => none)) n.toNatClampNeg)
def dflt (c k : Nat) : Value := cond (Nat.beq (fTyT c k) 0) (.int 0) (cond (Nat.beq (fTyT c k) 1) (.long 0) .null)
def newO (h : jHp) (c : Nat) : jHp := hnew h (cO c (dflt c)) (fNT c)
def acpy (h : jHp) (a : Nat) (i : Int32) (b : Nat) (j n : Int32) : Option jHp := (wI h a).bind fun p => (wI h b).bind fun q =>
  if i < 0 ∨ j < 0 ∨ n < 0 ∨ p.1 < i.toNatClampNeg + n.toNatClampNeg ∨ q.1 < j.toNatClampNeg + n.toNatClampNeg then none else some (hset h b (cI q.1 (va_cpy p.2 q.2 i.toNatClampNeg j.toNatClampNeg n.toNatClampNeg)))
def kI (x y : Nat) : Int32 := cond (Nat.beq y 0) (nI x) (-nI x)
def kL (x y : Nat) : Int64 := cond (Nat.beq y 0) (lN x) (-lN x)
def bl (v : Int32) : Bool := v == nI 0 || v == nI 1
def fg : List Nat → jLs → jLs
  | [], l => l
  | k :: ks, l => fg ks (l.set k none)
/-- a local's store: a long that it cuts is gone -/
def cut (l : jLs) (x : Nat) : jLs := match l[x - 1]? with | some (some v) => if v.category = 2 then l.set (x - 1) none else l | _ => l
def catS (s : List Value) : Nat := (s.map fun v => v.category).sum
def tk : Nat → List Value → List Value → Option (List Value × List Value)
  | 0, st, acc => some (acc, st)
  | _ + 1, [], _ => none
  | n + 1, v :: st, acc => tk n st (v :: acc)
section Combine
variable {ρ : Type} {α : Type}
def obd (X : ρ) (o : Option α) (k : α → ρ) : ρ := match o with | some x => k x | none => X
def b2 (X : ρ) (st : List Value) (k : Int32 → Int32 → List Value → ρ) : ρ := match st with | .int b :: .int a :: s => k a b s | _ => X
def b1 (X : ρ) (st : List Value) (k : Int32 → List Value → ρ) : ρ := match st with | .int a :: s => k a s | _ => X
def l2 (X : ρ) (st : List Value) (k : Int64 → Int64 → List Value → ρ) : ρ := match st with | .long b :: .long a :: s => k a b s | _ => X
def l1 (X : ρ) (st : List Value) (k : Int64 → List Value → ρ) : ρ := match st with | .long a :: s => k a s | _ => X
def a1 (X : ρ) (st : List Value) (k : Nat → List Value → ρ) : ρ := match st with | .ref a :: s => k a s | _ => X
def ai (X : ρ) (st : List Value) (k : Nat → Int32 → List Value → ρ) : ρ := match st with | .int i :: .ref a :: s => k a i s | _ => X
def aii (X : ρ) (st : List Value) (k : Nat → Int32 → Int32 → List Value → ρ) : ρ := match st with | .int x :: .int i :: .ref a :: s => k a i x s | _ => X
def air (X : ρ) (st : List Value) (k : Nat → Int32 → Nat → List Value → ρ) : ρ := match st with | .ref x :: .int i :: .ref a :: s => k a i x s | _ => X
def a5 (X : ρ) (st : List Value) (k : Nat → Int32 → Nat → Int32 → Int32 → List Value → ρ) : ρ := match st with | .int n :: .int j :: .ref b :: .int i :: .ref a :: s => k a i b j n s | _ => X
/-- the top is null, or a reference -/
def nul (X : ρ) (st : List Value) (k0 : List Value → ρ) (k1 : Nat → List Value → ρ) : ρ := match st with | .null :: s => k0 s | .ref a :: s => k1 a s | _ => X
def pfv (X : ρ) (st : List Value) (z : Nat) (k : Nat → Value → List Value → ρ) : ρ := match st with
  | .int v :: .ref a :: s => cond (Nat.beq z 0) (k a (.int v) s) (cond (Nat.beq z 3) (cond (bl v) (k a (.int v) s) X) X)
  | .long v :: .ref a :: s => cond (Nat.beq z 1) (k a (.long v) s) X
  | .ref v :: .ref a :: s => cond (Nat.beq z 2) (k a (.ref v) s) X
  | _ => X
def ldI (X : ρ) (ls : jLs) (x : Nat) (k : Int32 → ρ) : ρ := match ls[x]? with | some (some (.int v)) => k v | _ => X
def ldL (X : ρ) (ls : jLs) (x : Nat) (k : Int64 → ρ) : ρ := match ls[x]? with | some (some (.long v)) => k v | _ => X
def ldA (X : ρ) (ls : jLs) (x : Nat) (k0 : ρ) (k1 : Nat → ρ) : ρ := match ls[x]? with | some (some .null) => k0 | some (some (.ref v)) => k1 v | _ => X
def sto1 (X : ρ) (ls : jLs) (x : Nat) (v : Value) (k : jLs → ρ) : ρ := cond (Nat.blt x ls.length) (k ((cut ls x).set x (some v))) X
def sto2 (X : ρ) (ls : jLs) (x : Nat) (v : Value) (k : jLs → ρ) : ρ := cond (Nat.blt (x + 1) ls.length) (k (((cut ls x).set x (some v)).set (x + 1) none)) X
def ret1 (X : ρ) (st : List Value) (k : Value → ρ) : ρ := match st with | [v] => k v | _ => X
def inv (X : ρ) (st : List Value) (n : Nat) (k : List Value → List Value → ρ) : ρ := match tk n st [] with | some q => cond (Nat.ble (catS q.2) 8) (k q.1 q.2) X | none => X
def rcv (X : ρ) (h : jHp) (a : List Value) (c : Nat) (k : ρ) : ρ := match a with | .ref q :: _ => obd X (gO h q c) fun _ => k | _ => X
def ref0 (X : ρ) (a : List Value) (k : ρ) : ρ := match a with | .ref _ :: _ => k | _ => X
def ifc (c : ClassFile.Cond) (v : Int32) (t f : ρ) : ρ := match c with
  | .eq => if v = 0 then t else f
  | .ne => if v = 0 then f else t
  | .lt => if v < 0 then t else f
  | .ge => if v < 0 then f else t
  | .gt => if 0 < v then t else f
  | .le => if 0 < v then f else t
def icm (c : ClassFile.Cond) (a b : Int32) (t f : ρ) : ρ := match c with
  | .eq => if a = b then t else f
  | .ne => if a = b then f else t
  | .lt => if a < b then t else f
  | .ge => if a < b then f else t
  | .gt => if b < a then t else f
  | .le => if b < a then f else t
def swT (p : Nat) (d lo hi : Int) (offs : Array Int) (v : Int32) : Nat := ((p : Int) + (if v.toInt < lo ∨ hi < v.toInt then d else offs.getD (v.toInt - lo).toNat 0)).toNat
def swL (p : Nat) (d : Int) (ps : Array (Int × Int)) (v : Int32) : Nat := ((p : Int) + Op.lookupswitch.offset ps.toList d v.toInt).toNat
/-- one instruction: X it goes wrong, Rt it returns, K it goes on, C it calls -/
def stp (X : ρ) (Rt : Option Value → jHp → ρ) (K : Nat → jLs → List Value → jHp → ρ) (C : Nat → List Value → jHp → (Option Value → jHp → ρ) → ρ) (m p : Nat) (ls0 : jLs) (st : List Value) (h : jHp) : ρ :=
  match insAt m p with
  | none => X
  | some (i, n, x, y, z, f) =>
    let ls := fg f ls0
    match i with
    | .iconst _ => K (p + n) ls (.int (kI x y) :: st) h
    | .bipush _ => K (p + n) ls (.int (kI x y) :: st) h
    | .sipush _ => K (p + n) ls (.int (kI x y) :: st) h
    | .ldc _ => K (p + n) ls (.int (kI x y) :: st) h
    | .ldc_w _ => K (p + n) ls (.int (kI x y) :: st) h
    | .lconst _ => K (p + n) ls (.long (lN x) :: st) h
    | .ldc2_w _ => K (p + n) ls (.long (kL x y) :: st) h
    | .aconst_null => K (p + n) ls (.null :: st) h
    | .iload _ => ldI X ls x fun v => K (p + n) ls (.int v :: st) h
    | .iload_n _ => ldI X ls x fun v => K (p + n) ls (.int v :: st) h
    | .lload _ => ldL X ls x fun v => K (p + n) ls (.long v :: st) h
    | .lload_n _ => ldL X ls x fun v => K (p + n) ls (.long v :: st) h
    | .aload _ => ldA X ls x (K (p + n) ls (.null :: st) h) fun v => K (p + n) ls (.ref v :: st) h
    | .aload_n _ => ldA X ls x (K (p + n) ls (.null :: st) h) fun v => K (p + n) ls (.ref v :: st) h
    | .istore _ => b1 X st fun v s => sto1 X ls x (.int v) fun ls => K (p + n) ls s h
    | .istore_n _ => b1 X st fun v s => sto1 X ls x (.int v) fun ls => K (p + n) ls s h
    | .lstore _ => l1 X st fun v s => sto2 X ls x (.long v) fun ls => K (p + n) ls s h
    | .lstore_n _ => l1 X st fun v s => sto2 X ls x (.long v) fun ls => K (p + n) ls s h
    | .astore _ => nul X st (fun s => sto1 X ls x .null fun ls => K (p + n) ls s h) fun v s => sto1 X ls x (.ref v) fun ls => K (p + n) ls s h
    | .astore_n _ => nul X st (fun s => sto1 X ls x .null fun ls => K (p + n) ls s h) fun v s => sto1 X ls x (.ref v) fun ls => K (p + n) ls s h
    | .iinc _ _ => ldI X ls x fun v => sto1 X ls x (.int (v + kI y z)) fun ls => K (p + n) ls st h
    | .iadd => b2 X st fun a b s => K (p + n) ls (.int (a + b) :: s) h
    | .isub => b2 X st fun a b s => K (p + n) ls (.int (a - b) :: s) h
    | .imul => b2 X st fun a b s => K (p + n) ls (.int (a * b) :: s) h
    | .idiv => b2 X st fun a b s => if b = 0 then X else K (p + n) ls (.int (a / b) :: s) h
    | .irem => b2 X st fun a b s => if b = 0 then X else K (p + n) ls (.int (a - a / b * b) :: s) h
    | .iand => b2 X st fun a b s => K (p + n) ls (.int (a &&& b) :: s) h
    | .ior => b2 X st fun a b s => K (p + n) ls (.int (a ||| b) :: s) h
    | .ishl => b2 X st fun a b s => K (p + n) ls (.int (a <<< (b &&& 31)) :: s) h
    | .ishr => b2 X st fun a b s => K (p + n) ls (.int (a >>> (b &&& 31)) :: s) h
    | .iushr => b2 X st fun a b s => K (p + n) ls (.int (a.toUInt32 >>> (b.toUInt32 &&& Int32.toUInt32 31)).toInt32 :: s) h
    | .ladd => l2 X st fun a b s => K (p + n) ls (.long (a + b) :: s) h
    | .lsub => l2 X st fun a b s => K (p + n) ls (.long (a - b) :: s) h
    | .lmul => l2 X st fun a b s => K (p + n) ls (.long (a * b) :: s) h
    | .ldiv => l2 X st fun a b s => if b = 0 then X else K (p + n) ls (.long (a / b) :: s) h
    | .lrem => l2 X st fun a b s => if b = 0 then X else K (p + n) ls (.long (a - a / b * b) :: s) h
    | .lneg => l1 X st fun a s => K (p + n) ls (.long (-a) :: s) h
    | .lcmp => l2 X st fun a b s => K (p + n) ls (.int (lg_cmp a b) :: s) h
    | .i2l => b1 X st fun a s => K (p + n) ls (.long a.toInt64 :: s) h
    | .l2i => l1 X st fun a s => K (p + n) ls (.int a.toInt32 :: s) h
    | .i2b => b1 X st fun a s => K (p + n) ls (.int a.toInt8.toInt32 :: s) h
    | .i2s => b1 X st fun a s => K (p + n) ls (.int a.toInt16.toInt32 :: s) h
    | .dup => a1 X st fun a s => K (p + n) ls (.ref a :: .ref a :: s) h
    | .dup2 => ai X st fun a i s => K (p + n) ls (.int i :: .ref a :: .int i :: .ref a :: s) h
    | .pop => b1 X st fun _ s => K (p + n) ls s h
    | .ifCond c _ => b1 X st fun v s => ifc c v (K x ls s h) (K (p + n) ls s h)
    | .if_icmp c _ => b2 X st fun a b s => icm c a b (K x ls s h) (K (p + n) ls s h)
    | .goto _ => K x ls st h
    | .ifnull _ => nul X st (fun s => K x ls s h) fun _ s => K (p + n) ls s h
    | .ifnonnull _ => nul X st (fun s => K (p + n) ls s h) fun _ s => K x ls s h
    | .tableswitch d lo hi offs => b1 X st fun v s => K (swT p d lo hi offs v) ls s h
    | .lookupswitch d ps => b1 X st fun v s => K (swL p d ps v) ls s h
    | .getfield _ => a1 X st fun a s => cond (Nat.beq z 2) (obd X (gA h a x y) fun v => K (p + n) ls (.ref v :: s) h) (cond (Nat.beq z 1) (obd X (gJ h a x y) fun v => K (p + n) ls (.long v :: s) h) (obd X (gI h a x y) fun v => K (p + n) ls (.int v :: s) h))
    | .putfield _ => pfv X st z fun a v s => obd X (pF h a x y v) fun h => K (p + n) ls s h
    | .iaload => ai X st fun a i s => obd X (alI h a i) fun v => K (p + n) ls (.int v :: s) h
    | .iastore => aii X st fun a i v s => obd X (asI h a i v) fun h => K (p + n) ls s h
    | .aaload => ai X st fun a i s => obd X (alR h a i) fun v => K (p + n) ls (.ref v :: s) h
    | .aastore => air X st fun a i v s => obd X (asR h a i v) fun h => K (p + n) ls s h
    | .arraylength => a1 X st fun a s => obd X (alen h a) fun v => K (p + n) ls (.int v :: s) h
    | .newarray _ => b1 X st fun v s => obd X (newI h v) fun h1 => K (p + n) ls (.ref h.2.1 :: s) h1
    | .anewarray _ => b1 X st fun v s => obd X (newR h x v) fun h1 => K (p + n) ls (.ref h.2.1 :: s) h1
    | .new _ => K (p + n) ls (.ref h.2.1 :: st) (newO h x)
    | .ireturn => ret1 X st fun v => obd X (vI v) fun w => cond (Nat.beq z 1) (cond (bl w) (Rt (some (.int w)) h) X) (Rt (some (.int w)) h)
    | .lreturn => ret1 X st fun v => obd X (vJ v) fun w => Rt (some (.long w)) h
    | .areturn => nul X st (fun s => cond s.isEmpty (Rt (some .null) h) X) fun a s => cond s.isEmpty (Rt (some (.ref a)) h) X
    | .return_ => cond st.isEmpty (Rt none h) X
    | .invokevirtual _ => inv X st y fun a s => rcv X h a (mO x) (C x a h fun v h => K (p + n) ls (v.toList ++ s) h)
    | .invokespecial _ => inv X st y fun a s => cond (Nat.beq z 4) (ref0 X a (K (p + n) ls s h)) (ref0 X a (C x a h fun v h => K (p + n) ls (v.toList ++ s) h))
    | .invokestatic _ => cond (Nat.beq z 5) (a5 X st fun a i b j k s => cond (Nat.ble s.length 4) (obd X (acpy h a i b j k) fun h => K (p + n) ls s h) X) (inv X st y fun a s => C x a h fun v h => K (p + n) ls (v.toList ++ s) h)
    | _ => X
end Combine
/-- what one instruction comes to -/
abbrev jDec : Type := Option ((Option Value × jHp) ⊕ ((Nat × jLs × List Value × jHp) ⊕ (Nat × List Value × jHp × Nat × jLs × List Value)))
def dC (m : Nat) (a : List Value) (h : jHp) (k : Option Value → jHp → jDec) : jDec := match k none h with
  | some (.inr (.inl q)) => some (.inr (.inr (m, a, h, q.1, q.2.1, q.2.2.1)))
  | _ => none
def dec (m p : Nat) (ls : jLs) (st : List Value) (h : jHp) : jDec := stp none (fun v h => some (.inl (v, h))) (fun p ls st h => some (.inr (.inl (p, ls, st, h)))) dC m p ls st h
def hnd {ρ : Type} (X : ρ) (Rt : Option Value → jHp → ρ) (K : Nat → jLs → List Value → jHp → ρ) (C : Nat → List Value → jHp → (Option Value → jHp → ρ) → ρ) (d : jDec) : ρ := match d with
  | none => X
  | some (.inl q) => Rt q.1 q.2
  | some (.inr (.inl q)) => K q.1 q.2.1 q.2.2.1 q.2.2.2
  | some (.inr (.inr q)) => C q.1 q.2.1 q.2.2.1 fun v h => K q.2.2.2.1 q.2.2.2.2.1 (v.toList ++ q.2.2.2.2.2) h
section Nat1
variable {ρ σ α : Type} (φ : ρ → σ) (X : ρ)
theorem n_obd (o : Option α) (k : α → ρ) : φ (obd X o k) = obd (φ X) o fun x => φ (k x) := by unfold obd; split <;> rfl
theorem n_b2 (st : List Value) (k : Int32 → Int32 → List Value → ρ) : φ (b2 X st k) = b2 (φ X) st fun a b s => φ (k a b s) := by unfold b2; split <;> rfl
theorem n_b1 (st : List Value) (k : Int32 → List Value → ρ) : φ (b1 X st k) = b1 (φ X) st fun a s => φ (k a s) := by unfold b1; split <;> rfl
theorem n_l2 (st : List Value) (k : Int64 → Int64 → List Value → ρ) : φ (l2 X st k) = l2 (φ X) st fun a b s => φ (k a b s) := by unfold l2; split <;> rfl
theorem n_l1 (st : List Value) (k : Int64 → List Value → ρ) : φ (l1 X st k) = l1 (φ X) st fun a s => φ (k a s) := by unfold l1; split <;> rfl
theorem n_a1 (st : List Value) (k : Nat → List Value → ρ) : φ (a1 X st k) = a1 (φ X) st fun a s => φ (k a s) := by unfold a1; split <;> rfl
theorem n_ai (st : List Value) (k : Nat → Int32 → List Value → ρ) : φ (ai X st k) = ai (φ X) st fun a i s => φ (k a i s) := by unfold ai; split <;> rfl
theorem n_aii (st : List Value) (k : Nat → Int32 → Int32 → List Value → ρ) : φ (aii X st k) = aii (φ X) st fun a i x s => φ (k a i x s) := by unfold aii; split <;> rfl
theorem n_air (st : List Value) (k : Nat → Int32 → Nat → List Value → ρ) : φ (air X st k) = air (φ X) st fun a i x s => φ (k a i x s) := by unfold air; split <;> rfl
theorem n_a5 (st : List Value) (k : Nat → Int32 → Nat → Int32 → Int32 → List Value → ρ) : φ (a5 X st k) = a5 (φ X) st fun a i b j n s => φ (k a i b j n s) := by unfold a5; split <;> rfl
theorem n_nul (st : List Value) (k0 : List Value → ρ) (k1 : Nat → List Value → ρ) : φ (nul X st k0 k1) = nul (φ X) st (fun s => φ (k0 s)) fun a s => φ (k1 a s) := by unfold nul; split <;> rfl
theorem n_cond (b : Bool) (t f : ρ) : φ (cond b t f) = cond b (φ t) (φ f) := by cases b <;> rfl
theorem n_ite (p : Prop) [Decidable p] (t f : ρ) : φ (if p then t else f) = if p then φ t else φ f := by split <;> rfl
theorem n_pfv (st : List Value) (z : Nat) (k : Nat → Value → List Value → ρ) : φ (pfv X st z k) = pfv (φ X) st z fun a v s => φ (k a v s) := by unfold pfv; split <;> simp only [n_cond φ]
theorem n_ldI (ls : jLs) (x : Nat) (k : Int32 → ρ) : φ (ldI X ls x k) = ldI (φ X) ls x fun v => φ (k v) := by unfold ldI; split <;> rfl
theorem n_ldL (ls : jLs) (x : Nat) (k : Int64 → ρ) : φ (ldL X ls x k) = ldL (φ X) ls x fun v => φ (k v) := by unfold ldL; split <;> rfl
theorem n_ldA (ls : jLs) (x : Nat) (k0 : ρ) (k : Nat → ρ) : φ (ldA X ls x k0 k) = ldA (φ X) ls x (φ k0) fun v => φ (k v) := by unfold ldA; split <;> rfl
theorem n_sto1 (ls : jLs) (x : Nat) (v : Value) (k : jLs → ρ) : φ (sto1 X ls x v k) = sto1 (φ X) ls x v fun l => φ (k l) := n_cond φ _ _ _
theorem n_sto2 (ls : jLs) (x : Nat) (v : Value) (k : jLs → ρ) : φ (sto2 X ls x v k) = sto2 (φ X) ls x v fun l => φ (k l) := n_cond φ _ _ _
theorem n_ret1 (st : List Value) (k : Value → ρ) : φ (ret1 X st k) = ret1 (φ X) st fun v => φ (k v) := by unfold ret1; split <;> rfl
theorem n_inv (st : List Value) (n : Nat) (k : List Value → List Value → ρ) : φ (inv X st n k) = inv (φ X) st n fun a s => φ (k a s) := by unfold inv; split <;> simp only [n_cond φ]
theorem n_rcv (h : jHp) (a : List Value) (c : Nat) (k : ρ) : φ (rcv X h a c k) = rcv (φ X) h a c (φ k) := by unfold rcv; split <;> simp only [n_obd φ]
theorem n_ref0 (a : List Value) (k : ρ) : φ (ref0 X a k) = ref0 (φ X) a (φ k) := by unfold ref0; split <;> rfl
theorem n_ifc (c : ClassFile.Cond) (v : Int32) (t f : ρ) : φ (ifc c v t f) = ifc c v (φ t) (φ f) := by cases c <;> simp only [ifc] <;> exact n_ite φ _ _ _
theorem n_icm (c : ClassFile.Cond) (a b : Int32) (t f : ρ) : φ (icm c a b t f) = icm c a b (φ t) (φ f) := by cases c <;> simp only [icm] <;> exact n_ite φ _ _ _
end Nat1
set_option maxHeartbeats 4000000 in
theorem stp_hnd {ρ : Type} (X : ρ) (Rt : Option Value → jHp → ρ) (K : Nat → jLs → List Value → jHp → ρ) (C : Nat → List Value → jHp → (Option Value → jHp → ρ) → ρ) (m p : Nat) (ls : jLs) (st : List Value) (h : jHp) :
    stp X Rt K C m p ls st h = hnd X Rt K C (dec m p ls st h) := by
  unfold dec stp
  cases insAt m p with
  | none => rfl
  | some q =>
    obtain ⟨i, n, x, y, z, f⟩ := q
    have e := hnd X Rt K C
    cases i <;> dsimp only <;> first
      | rfl
      | (simp only [n_obd (hnd X Rt K C), n_b2 (hnd X Rt K C), n_b1 (hnd X Rt K C), n_l2 (hnd X Rt K C), n_l1 (hnd X Rt K C), n_a1 (hnd X Rt K C), n_ai (hnd X Rt K C), n_aii (hnd X Rt K C), n_air (hnd X Rt K C), n_a5 (hnd X Rt K C), n_nul (hnd X Rt K C), n_cond (hnd X Rt K C), n_ite (hnd X Rt K C), n_pfv (hnd X Rt K C), n_ldI (hnd X Rt K C), n_ldL (hnd X Rt K C), n_ldA (hnd X Rt K C), n_sto1 (hnd X Rt K C), n_sto2 (hnd X Rt K C), n_ret1 (hnd X Rt K C), n_inv (hnd X Rt K C), n_rcv (hnd X Rt K C), n_ref0 (hnd X Rt K C), n_ifc (hnd X Rt K C), n_icm (hnd X Rt K C)]; rfl)
