/-! The tables of part 02 are the claim's: checked by the kernel. -/
def fT (c k : Nat) : String × String × String × Bool := match clsT[c]? with | some q => q.2.1 k | none => ("", "", "", false)
def tyT (c k : Nat) : FieldType := match c with
  | 0 => tyX0 k | 1 => tyX1 k | 2 => tyX0 k | 3 => tyX3 k | 4 => tyX4 k | 5 => tyX5 k | 6 => tyX6 k | 7 => tyX7 k | _ => tyX0 k
def zT (c k : Nat) : Nat := match tyT c k with | .int => 0 | .boolean => 3 | .long => 1 | .object _ => 2 | .array _ => 2 | _ => 9
def wF (o ix c k : Nat) : Jvm.Cond := .fieldLink (cnT o) ix (cnT c) (fT c k).2.1 (fT c k).2.2.1
def isO (r : Option FieldType) : Bool := match r with | some (.object _) => true | some (.array _) => true | _ => false
def chk (m p : Nat) (e : jE) : Bool := decide (decode (mB m) p = .ok (e.1, e.2.1)) && match e with
  | (i, n, x, y, z, _) => match i with
    | .iconst v => Int32.ofInt v == kI x y && Nat.beq n 1
    | .bipush v => (Int8.ofInt v).toInt32 == kI x y && Nat.beq n 2
    | .sipush v => (Int16.ofInt v).toInt32 == kI x y && Nat.beq n 3
    | .ldc ix => KIs.any (fun q => q.1 == mO m && q.2.1 == ix && q.2.2.1 == x && q.2.2.2.1 == y) && Nat.beq n 2
    | .ldc_w ix => KIs.any (fun q => q.1 == mO m && q.2.1 == ix && q.2.2.1 == x && q.2.2.2.1 == y) && Nat.beq n 3
    | .ldc2_w ix => KLs.any (fun q => q.1 == mO m && q.2.1 == ix && q.2.2.1 == x && q.2.2.2.1 == y) && Nat.beq n 3
    | .lconst v => Nat.beq v.val x && Nat.beq n 1
    | .aconst_null => Nat.beq n 1
    | .iload i => Nat.beq i x && Nat.beq n 2
    | .lload i => Nat.beq i x && Nat.beq n 2
    | .aload i => Nat.beq i x && Nat.beq n 2
    | .istore i => Nat.beq i x && Nat.beq n 2
    | .lstore i => Nat.beq i x && Nat.beq n 2
    | .astore i => Nat.beq i x && Nat.beq n 2
    | .iload_n i => Nat.beq i.val x && Nat.beq n 1
    | .lload_n i => Nat.beq i.val x && Nat.beq n 1
    | .aload_n i => Nat.beq i.val x && Nat.beq n 1
    | .istore_n i => Nat.beq i.val x && Nat.beq n 1
    | .lstore_n i => Nat.beq i.val x && Nat.beq n 1
    | .astore_n i => Nat.beq i.val x && Nat.beq n 1
    | .iinc i v => Nat.beq i x && Int32.ofInt v == kI y z && Nat.beq n 3
    | .ifCond _ o => decide ((p : Int) + o = (x : Int)) && Nat.beq n 3
    | .if_icmp _ o => decide ((p : Int) + o = (x : Int)) && Nat.beq n 3
    | .goto o => decide ((p : Int) + o = (x : Int)) && Nat.beq n 3
    | .ifnull o => decide ((p : Int) + o = (x : Int)) && Nat.beq n 3
    | .ifnonnull o => decide ((p : Int) + o = (x : Int)) && Nat.beq n 3
    | .tableswitch d lo hi offs => decide (0 ≤ (p : Int) + d) && offs.all (fun o => decide (0 ≤ (p : Int) + o)) && decide ((offs.size : Int) = hi - lo + 1)
    | .lookupswitch d ps => decide (0 ≤ (p : Int) + d) && ps.toList.all (fun o => decide (0 ≤ (p : Int) + o.2)) && (ps.toList.zip (ps.toList.drop 1)).all (fun (a, next) => a.1 < next.1)
    | .getfield ix => FLs.any (fun q => q.1 == mO m && q.2.1 == ix && q.2.2.1 == x && q.2.2.2.1 == y) && Nat.beq n 3
    | .putfield ix => FLs.any (fun q => q.1 == mO m && q.2.1 == ix && q.2.2.1 == x && q.2.2.2.1 == y) && Nat.beq n 3 && Nat.beq (zT x y) z && (!(fT x y).2.2.2 || (Nat.beq (mK m) 2 && (fT x y).1 == cnT (mO m)))
    | .newarray t => t == .int && Nat.beq n 2
    | .anewarray ix => CLs.any (fun q => q.1 == mO m && q.2.1 == ix && q.2.2.1 == x) && Nat.beq n 3 && decide (lw_tbl[plA.getD x 0]? = some (.arrayOver (.object (cnT x))))
    | .new ix => CLs.any (fun q => q.1 == mO m && q.2.1 == ix && q.2.2.1 == x) && Nat.beq n 3 && Nat.blt x 9
    | .ireturn => Nat.beq n 1 && decide (mR m = cond (Nat.beq z 1) (some .boolean) (some .int))
    | .lreturn => Nat.beq n 1 && decide (mR m = some .long)
    | .areturn => Nat.beq n 1 && isO (mR m)
    | .return_ => Nat.beq n 1 && decide (mR m = none)
    | .invokevirtual ix => MLs.any (fun q => q.1 == mO m && q.2.1 == ix && q.2.2.1 == x && q.2.2.2.1 == y && q.2.2.2.2.1 == z) && Nat.beq n 3 && Nat.beq z 0
    | .invokespecial ix => MLs.any (fun q => q.1 == mO m && q.2.1 == ix && q.2.2.1 == x && q.2.2.2.1 == y && q.2.2.2.2.1 == z) && Nat.beq n 3 && (Nat.beq z 2 || Nat.beq z 3 || Nat.beq z 4)
    | .invokestatic ix => MLs.any (fun q => q.1 == mO m && q.2.1 == ix && q.2.2.1 == x && q.2.2.2.1 == y && q.2.2.2.2.1 == z) && Nat.beq n 3 && (Nat.beq z 1 || Nat.beq z 5)
    | .iadd | .isub | .imul | .idiv | .irem | .iand | .ior | .ishl | .ishr | .iushr | .ladd | .lsub | .lmul | .ldiv | .lrem | .lneg | .lcmp | .i2l | .l2i | .i2b | .i2s | .dup | .dup2 | .pop | .iaload | .iastore | .aaload | .aastore | .arraylength => Nat.beq n 1
    | _ => false
def chkM (m : Nat) : Bool := (List.range (mLen m)).all fun p => match insAt m p with | none => true | some e => chk m p e
def okw (i : Nat) (w : Jvm.Cond) : Bool := decide (lw_tbl[i]? = some w)
theorem okw_in {i : Nat} {w : Jvm.Cond} (h : okw i w = true) : w ∈ lw_tbl := by
  have h1 := of_decide_eq_true h
  exact List.mem_of_getElem? h1
def okM (m : Nat) : Bool :=
  okw (plC.getD m 0) (.code (mY m) (mB m) (mL m) (mR m)) && plainFor (mY m) && decide ((mY m).cls = cnT (mO m)) && decide ((mY m).cls ≠ "java/lang/invoke/MethodHandle") && decide ((mY m).cls ≠ "java/lang/invoke/VarHandle") &&
  decide ((parseMethodDescriptor (mY m).desc).map (fun d => d.parameters.length) = some (mP m)) && Nat.ble (mL m) 19 && Nat.blt (mO m) 12 &&
  cond (Nat.beq (mK m) 0) (okw (plI.getD m 0) (.instanceMethod (mY m)) && okw (plS.getD m 0) (.selects (cnT (mO m)) (mY m) (mY m)))
   (cond (Nat.beq (mK m) 1) (okw (plT.getD m 0) (.static (mY m))) (okw (plI.getD m 0) (.instanceMethod (mY m)) && decide ((mY m).name = "<init>") && decide (mR m = none)))
theorem okM_0 : (List.range' 1 10).all okM = true := by decide +kernel
theorem okM_1 : (List.range' 11 10).all okM = true := by decide +kernel
theorem okM_2 : (List.range' 21 10).all okM = true := by decide +kernel
theorem okM_3 : (List.range' 31 10).all okM = true := by decide +kernel
theorem okM_4 : (List.range' 41 10).all okM = true := by decide +kernel
theorem okM_5 : (List.range' 51 10).all okM = true := by decide +kernel
theorem okM_6 : (List.range' 61 10).all okM = true := by decide +kernel
theorem okM_7 : (List.range' 71 10).all okM = true := by decide +kernel
theorem okM_8 : (List.range' 81 10).all okM = true := by decide +kernel
theorem okM_9 : (List.range' 91 5).all okM = true := by decide +kernel
theorem okM_9b : (List.range' 97 4).all okM = true := by decide +kernel
theorem okM_go0 : okw (plC.getD 96 0) (.code (mY 96) (mB 96) (mL 96) (mR 96)) = true := decide_eq_true go_tbl
theorem okM_go : okM 96 = true := by
  unfold okM
  rw [okM_go0]
  decide +kernel
theorem okM_10 : (List.range' 101 5).all okM = true := by decide +kernel
theorem okM_of {a n m : Nat} (h : (List.range' a n).all okM = true) (h1 : a ≤ m) (h2 : m < a + n) : okM m = true := List.all_eq_true.mp h m (List.mem_range'_1.mpr ⟨h1, h2⟩)
theorem okM_all (m : Nat) (h0 : 0 < m) (h : m < nM) : okM m = true := by
  have h : m < 106 := h
  by_cases h0 : m < 11; · exact okM_of okM_0 (by omega) (by omega)
  by_cases h1 : m < 21; · exact okM_of okM_1 (by omega) (by omega)
  by_cases h2 : m < 31; · exact okM_of okM_2 (by omega) (by omega)
  by_cases h3 : m < 41; · exact okM_of okM_3 (by omega) (by omega)
  by_cases h4 : m < 51; · exact okM_of okM_4 (by omega) (by omega)
  by_cases h5 : m < 61; · exact okM_of okM_5 (by omega) (by omega)
  by_cases h6 : m < 71; · exact okM_of okM_6 (by omega) (by omega)
  by_cases h7 : m < 81; · exact okM_of okM_7 (by omega) (by omega)
  by_cases h8 : m < 91; · exact okM_of okM_8 (by omega) (by omega)
  by_cases h9 : m < 96; · exact okM_of okM_9 (by omega) (by omega)
  by_cases hg : m = 96; · rw [hg]; exact okM_go
  by_cases h9b : m < 101; · exact okM_of okM_9b (by omega) (by omega)
  exact okM_of okM_10 (by omega) (by omega)
def okFL (q : Nat × Nat × Nat × Nat × Nat) : Bool := okw q.2.2.2.2 (wF q.1 q.2.1 q.2.2.1 q.2.2.2.1) && decide ((fT q.2.2.1 q.2.2.2.1).1 = cnT q.2.2.1) && Nat.blt q.2.2.2.1 (fNT q.2.2.1) && Nat.blt q.2.2.1 9
theorem okFL_all : FLs.all okFL = true := by decide +kernel
def okML (q : Nat × Nat × Nat × Nat × Nat × Nat) : Bool := match q with
  | (o, ix, x, y, z, i) => (Nat.beq z 0 && okw i (.methodLink (cnT o) ix (mY x)) && Nat.beq y (mP x + 1) && Nat.beq (mK x) 0 && Nat.blt x nM && Nat.blt 0 x) || (Nat.beq z 1 && okw i (.methodLink (cnT o) ix (mY x)) && Nat.beq y (mP x) && Nat.beq (mK x) 1 && Nat.blt x nM && Nat.blt 0 x) ||
    (Nat.beq z 2 && okw i (.methodLink (cnT o) ix (mY x)) && Nat.beq y (mP x + 1) && Nat.beq (mK x) 2 && Nat.blt x nM && Nat.blt 0 x) || (Nat.beq z 3 && okw i (.methodLinkNest (cnT o) ix (mY x) "RideTie") && Nat.beq y (mP x + 1) && Nat.beq (mK x) 2 && Nat.blt x nM && Nat.blt 0 x) ||
    (Nat.beq z 4 && okw i (.methodLink (cnT o) ix Lib.objectInit) && Nat.beq y 1) || (Nat.beq z 5 && okw i (.methodLink (cnT o) ix arraycopyName))
theorem okML_all : MLs.all okML = true := by decide +kernel
def okCL (q : Nat × Nat × Nat × Nat) : Bool := okw q.2.2.2 (.classLink (cnT q.1) q.2.1 (cnT q.2.2.1)) && Nat.blt q.2.2.1 13
theorem okCL_all : CLs.all okCL = true := by decide +kernel
theorem okKI_all : KIs.all (fun q => okw q.2.2.2.2 (.constant (cnT q.1) q.2.1 (kI q.2.2.1 q.2.2.2.1))) = true := by decide +kernel
theorem okKL_all : KLs.all (fun q => okw q.2.2.2.2 (.constantLong (cnT q.1) q.2.1 (kL q.2.2.1 q.2.2.2.1))) = true := by decide +kernel
theorem okG_all : ∀ c, c < 12 → okw (plG.getD c 0) (.initialized (cnT c)) = true := by decide +kernel
theorem okN_all : ∀ c, c < 9 → okw (plN.getD c 0) (.instantiable (cnT c) (fNT c)) = true := by decide +kernel
theorem okCls : ∀ c, c < 9 → (clsT[c]?).map (fun q => (q.1, q.2.2)) = some (cnT c, fNT c) := by decide +kernel
theorem okTy : ∀ c, c < 9 → ∀ k, k < fNT c → parseFieldDescriptor (fT c k).2.2.1 = some (tyT c k) := by decide +kernel
theorem okNm : ∀ c, c < 9 → ∀ a, a < fNT c → ∀ b, b < fNT c → a ≠ b → (fT c a).2.1 ≠ (fT c b).2.1 := by decide +kernel
theorem okDf : ∀ c, c < 9 → ∀ k, k < fNT c → defaultValue (tyT c k) = dflt c k := by decide +kernel
theorem okWs : ∀ c, c < 9 → ((List.range (fNT c)).all fun k => decide (u_lay (cnT c) (fT c) k ∈ lw_tbl)) = true := by decide +kernel
def jT : List Jvm.Cond := lw_tbl.filter goodWord
theorem in_jT {w : Jvm.Cond} (h : w ∈ lw_tbl) (g : goodWord w = true) : w ∈ jT := List.mem_filter.mpr ⟨h, g⟩
theorem insAt_lt {m p : Nat} {e : jE} (h : insAt m p = some e) : p < mLen m := by
  unfold insAt at h
  cases hb : Nat.blt p (mLen m) with
  | true => exact Nat.le_of_ble_eq_true hb
  | false => rw [hb] at h; cases h
def chkR (m a n : Nat) : Bool := (List.range' a n).all fun p => match insAt m p with | none => true | some e => chk m p e
theorem chkR_0 : chkR 0 0 60 = true := by decide +kernel
theorem chkR_1 : chkR 0 60 60 = true := by decide +kernel
theorem chkR_2 : chkR 0 120 60 = true := by decide +kernel
theorem chkR_3 : chkR 0 180 60 = true := by decide +kernel
theorem chkR_4 : chkR 0 240 60 = true := by decide +kernel
theorem chkR_5 : chkR 0 300 60 = true := by decide +kernel
theorem chkR_6 : chkR 0 360 60 = true := by decide +kernel
theorem chkR_7 : chkR 0 420 60 = true := by decide +kernel
theorem chkR_8 : chkR 0 480 60 = true := by decide +kernel
theorem chkR_9 : chkR 0 540 60 = true := by decide +kernel
theorem chkR_10 : chkR 0 600 60 = true := by decide +kernel
theorem chkR_11 : chkR 0 660 60 = true := by decide +kernel
theorem chkR_12 : chkR 0 720 60 = true := by decide +kernel
theorem chkR_13 : chkR 0 780 60 = true := by decide +kernel
theorem chkR_14 : chkR 0 840 60 = true := by decide +kernel
theorem chkR_15 : chkR 0 900 60 = true := by decide +kernel
theorem chkR_16 : chkR 0 960 60 = true := by decide +kernel
theorem chkR_17 : chkR 0 1020 60 = true := by decide +kernel
theorem chkR_18 : chkR 0 1080 60 = true := by decide +kernel
theorem chkR_19 : chkR 0 1140 60 = true := by decide +kernel
theorem chkR_20 : chkR 0 1200 60 = true := by decide +kernel
theorem chkR_21 : chkR 0 1260 60 = true := by decide +kernel
theorem chkR_22 : chkR 0 1320 60 = true := by decide +kernel
theorem chkR_23 : chkR 0 1380 60 = true := by decide +kernel
theorem chkR_24 : chkR 0 1440 60 = true := by decide +kernel
theorem chkR_25 : chkR 0 1500 1 = true := by decide +kernel
theorem chkR_of {m a n p : Nat} {e : jE} (h : chkR m a n = true) (h1 : a ≤ p) (h2 : p < a + n) (he : insAt m p = some e) : chk m p e = true := by
  have h3 := List.all_eq_true.mp h p (List.mem_range'_1.mpr ⟨h1, h2⟩)
  rwa [he] at h3
theorem chk_law {p : Nat} {e : jE} (he : insAt 0 p = some e) : chk 0 p e = true := by
  have h : p < 1501 := insAt_lt he
  by_cases h0 : p < 60; · exact chkR_of chkR_0 (by omega) (by omega) he
  by_cases h1 : p < 120; · exact chkR_of chkR_1 (by omega) (by omega) he
  by_cases h2 : p < 180; · exact chkR_of chkR_2 (by omega) (by omega) he
  by_cases h3 : p < 240; · exact chkR_of chkR_3 (by omega) (by omega) he
  by_cases h4 : p < 300; · exact chkR_of chkR_4 (by omega) (by omega) he
  by_cases h5 : p < 360; · exact chkR_of chkR_5 (by omega) (by omega) he
  by_cases h6 : p < 420; · exact chkR_of chkR_6 (by omega) (by omega) he
  by_cases h7 : p < 480; · exact chkR_of chkR_7 (by omega) (by omega) he
  by_cases h8 : p < 540; · exact chkR_of chkR_8 (by omega) (by omega) he
  by_cases h9 : p < 600; · exact chkR_of chkR_9 (by omega) (by omega) he
  by_cases h10 : p < 660; · exact chkR_of chkR_10 (by omega) (by omega) he
  by_cases h11 : p < 720; · exact chkR_of chkR_11 (by omega) (by omega) he
  by_cases h12 : p < 780; · exact chkR_of chkR_12 (by omega) (by omega) he
  by_cases h13 : p < 840; · exact chkR_of chkR_13 (by omega) (by omega) he
  by_cases h14 : p < 900; · exact chkR_of chkR_14 (by omega) (by omega) he
  by_cases h15 : p < 960; · exact chkR_of chkR_15 (by omega) (by omega) he
  by_cases h16 : p < 1020; · exact chkR_of chkR_16 (by omega) (by omega) he
  by_cases h17 : p < 1080; · exact chkR_of chkR_17 (by omega) (by omega) he
  by_cases h18 : p < 1140; · exact chkR_of chkR_18 (by omega) (by omega) he
  by_cases h19 : p < 1200; · exact chkR_of chkR_19 (by omega) (by omega) he
  by_cases h20 : p < 1260; · exact chkR_of chkR_20 (by omega) (by omega) he
  by_cases h21 : p < 1320; · exact chkR_of chkR_21 (by omega) (by omega) he
  by_cases h22 : p < 1380; · exact chkR_of chkR_22 (by omega) (by omega) he
  by_cases h23 : p < 1440; · exact chkR_of chkR_23 (by omega) (by omega) he
  by_cases h24 : p < 1500; · exact chkR_of chkR_24 (by omega) (by omega) he
  exact chkR_of chkR_25 (by omega) (by omega) he
theorem chkG_0 : chkR 96 0 60 = true := by decide +kernel
theorem chkG_1 : chkR 96 60 60 = true := by decide +kernel
theorem chkG_2 : chkR 96 120 60 = true := by decide +kernel
theorem chkG_3 : chkR 96 180 60 = true := by decide +kernel
theorem chkG_4 : chkR 96 240 60 = true := by decide +kernel
theorem chkG_5 : chkR 96 300 60 = true := by decide +kernel
theorem chkG_6 : chkR 96 360 60 = true := by decide +kernel
theorem chkG_7 : chkR 96 420 60 = true := by decide +kernel
theorem chkG_8 : chkR 96 480 60 = true := by decide +kernel
theorem chkG_9 : chkR 96 540 60 = true := by decide +kernel
theorem chkG_10 : chkR 96 600 60 = true := by decide +kernel
theorem chkG_11 : chkR 96 660 60 = true := by decide +kernel
theorem chkG_12 : chkR 96 720 60 = true := by decide +kernel
theorem chkG_13 : chkR 96 780 60 = true := by decide +kernel
theorem chkG_14 : chkR 96 840 60 = true := by decide +kernel
theorem chkG_15 : chkR 96 900 60 = true := by decide +kernel
theorem chkG_16 : chkR 96 960 37 = true := by decide +kernel
theorem chk_go {p : Nat} {e : jE} (he : insAt 96 p = some e) : chk 96 p e = true := by
  have h : p < 997 := insAt_lt he
  by_cases h0 : p < 60; · exact chkR_of chkG_0 (by omega) (by omega) he
  by_cases h1 : p < 120; · exact chkR_of chkG_1 (by omega) (by omega) he
  by_cases h2 : p < 180; · exact chkR_of chkG_2 (by omega) (by omega) he
  by_cases h3 : p < 240; · exact chkR_of chkG_3 (by omega) (by omega) he
  by_cases h4 : p < 300; · exact chkR_of chkG_4 (by omega) (by omega) he
  by_cases h5 : p < 360; · exact chkR_of chkG_5 (by omega) (by omega) he
  by_cases h6 : p < 420; · exact chkR_of chkG_6 (by omega) (by omega) he
  by_cases h7 : p < 480; · exact chkR_of chkG_7 (by omega) (by omega) he
  by_cases h8 : p < 540; · exact chkR_of chkG_8 (by omega) (by omega) he
  by_cases h9 : p < 600; · exact chkR_of chkG_9 (by omega) (by omega) he
  by_cases h10 : p < 660; · exact chkR_of chkG_10 (by omega) (by omega) he
  by_cases h11 : p < 720; · exact chkR_of chkG_11 (by omega) (by omega) he
  by_cases h12 : p < 780; · exact chkR_of chkG_12 (by omega) (by omega) he
  by_cases h13 : p < 840; · exact chkR_of chkG_13 (by omega) (by omega) he
  by_cases h14 : p < 900; · exact chkR_of chkG_14 (by omega) (by omega) he
  by_cases h15 : p < 960; · exact chkR_of chkG_15 (by omega) (by omega) he
  exact chkR_of chkG_16 (by omega) (by omega) he
theorem chkM_0 : (List.range' 1 5).all chkM = true := by decide +kernel
theorem chkM_1 : (List.range' 6 5).all chkM = true := by decide +kernel
theorem chkM_2 : (List.range' 11 5).all chkM = true := by decide +kernel
theorem chkM_3 : (List.range' 16 5).all chkM = true := by decide +kernel
theorem chkM_4 : (List.range' 21 5).all chkM = true := by decide +kernel
theorem chkM_5 : (List.range' 26 5).all chkM = true := by decide +kernel
theorem chkM_6 : (List.range' 31 5).all chkM = true := by decide +kernel
theorem chkM_7 : (List.range' 36 5).all chkM = true := by decide +kernel
theorem chkM_8 : (List.range' 41 5).all chkM = true := by decide +kernel
theorem chkM_9 : (List.range' 46 5).all chkM = true := by decide +kernel
theorem chkM_10 : (List.range' 51 5).all chkM = true := by decide +kernel
theorem chkM_11 : (List.range' 56 5).all chkM = true := by decide +kernel
theorem chkM_12 : (List.range' 61 5).all chkM = true := by decide +kernel
theorem chkM_13 : (List.range' 66 5).all chkM = true := by decide +kernel
theorem chkM_14 : (List.range' 71 5).all chkM = true := by decide +kernel
theorem chkM_15 : (List.range' 76 5).all chkM = true := by decide +kernel
theorem chkM_16 : (List.range' 81 5).all chkM = true := by decide +kernel
theorem chkM_17 : (List.range' 86 5).all chkM = true := by decide +kernel
theorem chkM_18 : (List.range' 91 5).all chkM = true := by decide +kernel
theorem chkM_19 : (List.range' 97 4).all chkM = true := by decide +kernel
theorem chkM_20 : (List.range' 101 5).all chkM = true := by decide +kernel
theorem chkM_of {a n m : Nat} (h : (List.range' a n).all chkM = true) (h1 : a ≤ m) (h2 : m < a + n) : chkM m = true :=
  List.all_eq_true.mp h m (List.mem_range'_1.mpr ⟨h1, h2⟩)
theorem chkM_all (m : Nat) (hz : 0 < m) (h : m < nM) (hg : m ≠ 96) : chkM m = true := by
  have h : m < 106 := h
  by_cases h0 : m < 6; · exact chkM_of chkM_0 (by omega) (by omega)
  by_cases h1 : m < 11; · exact chkM_of chkM_1 (by omega) (by omega)
  by_cases h2 : m < 16; · exact chkM_of chkM_2 (by omega) (by omega)
  by_cases h3 : m < 21; · exact chkM_of chkM_3 (by omega) (by omega)
  by_cases h4 : m < 26; · exact chkM_of chkM_4 (by omega) (by omega)
  by_cases h5 : m < 31; · exact chkM_of chkM_5 (by omega) (by omega)
  by_cases h6 : m < 36; · exact chkM_of chkM_6 (by omega) (by omega)
  by_cases h7 : m < 41; · exact chkM_of chkM_7 (by omega) (by omega)
  by_cases h8 : m < 46; · exact chkM_of chkM_8 (by omega) (by omega)
  by_cases h9 : m < 51; · exact chkM_of chkM_9 (by omega) (by omega)
  by_cases h10 : m < 56; · exact chkM_of chkM_10 (by omega) (by omega)
  by_cases h11 : m < 61; · exact chkM_of chkM_11 (by omega) (by omega)
  by_cases h12 : m < 66; · exact chkM_of chkM_12 (by omega) (by omega)
  by_cases h13 : m < 71; · exact chkM_of chkM_13 (by omega) (by omega)
  by_cases h14 : m < 76; · exact chkM_of chkM_14 (by omega) (by omega)
  by_cases h15 : m < 81; · exact chkM_of chkM_15 (by omega) (by omega)
  by_cases h16 : m < 86; · exact chkM_of chkM_16 (by omega) (by omega)
  by_cases h17 : m < 91; · exact chkM_of chkM_17 (by omega) (by omega)
  by_cases h18 : m < 96; · exact chkM_of chkM_18 (by omega) (by omega)
  by_cases h19 : m < 101; · exact chkM_of chkM_19 (by omega) (by omega)
  exact chkM_of chkM_20 (by omega) (by omega)
theorem chk_at {m p : Nat} {e : jE} (hm : m < nM) (h : insAt m p = some e) : chk m p e = true := by
  by_cases hz : m = 0
  · subst hz; exact chk_law h
  by_cases hg : m = 96
  · subst hg; exact chk_go h
  · have h1 := List.all_eq_true.mp (chkM_all m (by omega) hm hg) p (List.mem_range.mpr (insAt_lt h))
    rwa [h] at h1
