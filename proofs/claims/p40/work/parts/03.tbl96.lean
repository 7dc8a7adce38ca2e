def ckC (o : Option Jvm.Cond) : Option (MethodName × Nat × Option FieldType) := match o with | some (.code y _ n r) => some (y, n, r) | _ => none
def ckB (o : Option Jvm.Cond) : List UInt8 := match o with | some (.code _ b _ _) => b.data.toList | _ => []
theorem ck_code {o : Option Jvm.Cond} {y : MethodName} {b : ByteArray} {n : Nat} {r : Option FieldType} (h1 : ckC o = some (y, n, r)) (h2 : ckB o = b.data.toList) : o = some (.code y b n r) := by
  unfold ckC at h1
  split at h1
  · next y' b' n' r' =>
    cases h1
    have h2 : b'.data.toList = b.data.toList := h2
    have e : b' = b := by
      cases b'; cases b
      exact congrArg ByteArray.mk (Array.ext' h2)
    rw [e]
  · cases h1
theorem go_tbl : lw_tbl[plC.getD 96 0]? = some (.code (mY 96) (mB 96) (mL 96) (mR 96)) :=
  ck_code (by decide +kernel) (by decide +kernel)
