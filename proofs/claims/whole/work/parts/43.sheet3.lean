section SheetRows3
variable {h : jHp} {b : Nat} {d : jSD}
/-- so many cells from i + j on are 0 .. most -/
def awB (f : Nat → Int32) (i most : Nat) : Nat → Nat → Bool
  | 0, _ => true
  | m + 1, j => if f (i + j) < 0 then false else if nI most < f (i + j) then false else awB f i most m (j + 1)
theorem l_allWithin (H : SheetAt h b d) (hd : sdOk d) {i n most : Nat} (hn : i + n ≤ sN d) : ∀ m j, j + m = n → R 2 48 3 [some (.ref b), some (.int (nI i)), some (.int (nI n)), some (.int (nI most)), some (.int (nI j))] [] h = some (some (.int (b2j (awB (sC d) i most m j))), h) := by
  have h1 := hd.1
  intro m
  induction m with
  | zero =>
    intro j hj
    obtain rfl : j = n := hj
    rw [B48_3, if_neg (show ¬ nI j < nI j from Int32.lt_irrefl)]
    rfl
  | succ m ih =>
    intro j hjm
    have e32 : R 2 48 32 [some (.ref b), some (.int (nI i)), some (.int (nI n)), some (.int (nI most)), some (.int (nI j))] [] h = some (some (.int (nI 0)), h) := by
      rw [B48_32, B48_33, show bl (nI 0) = true by decide]
      rfl
    rw [B48_3, if_pos (show nI j < nI n by rw [nJ_lt (by omega) (by omega)]; omega), sh_o H, obd_some, nJ_add, c_at H hd (show i + j < sN d by omega)]
    simp only [obd_some, obd_none, Option.toList_some, Option.toList_none, List.cons_append, List.nil_append, cond_true, cond_false, B48_17]
    unfold awB
    by_cases a1 : sC d (i + j) < 0
    · rw [if_pos a1, if_pos a1, e32]; rfl
    · rw [if_neg a1, if_neg a1, sh_o H, obd_some, nJ_add, c_at H hd (show i + j < sN d by omega)]
      simp only [obd_some, obd_none, Option.toList_some, Option.toList_none, List.cons_append, List.nil_append, cond_true, cond_false, B48_28]
      by_cases a2 : nI most < sC d (i + j)
      · rw [if_pos a2, if_pos a2, e32]; rfl
      · rw [if_neg a2, if_neg a2, nJ_add]
        exact ih (j + 1) (by omega)
theorem c_allWithin (H : SheetAt h b d) (hd : sdOk d) {i n most : Nat} (hn : i + n ≤ sN d) : mc 48 [.ref b, .int (nI i), .int (nI n), .int (nI most)] h = some (some (.int (b2j (awB (sC d) i most n 0))), h) := by
  rw [M48]
  exact l_allWithin H hd hn n 0 (Nat.zero_add _)
end SheetRows3
