/-! weighing a row -/
def rcOf (d : jRD) (s : jGS) (code : Nat) : Nat → Nat := fun w => match w with | 0 => lastN d s | 1 => frstN d s | 2 => mostN d s | 3 => gt s | _ => code
section BWeigh
variable {h : jHp} {b r : Nat} {d : jRD} {rr ws lp lf : Int32} {A AJ : Nat → Nat → Int32} {T : jTab}
theorem lastN_le {k : Nat} {s : jGS} (hs : gOk k s) : lastN d s ≤ 2000 * k := maxB_le (Nat.zero_le _) hs.1 _
theorem mostN_le {k : Nat} {s : jGS} (hs : gOk k s) : mostN d s ≤ 9 * k := maxB_le (Nat.zero_le _) hs.2.1 _
theorem mnB_at {g : Nat → Nat} : ∀ n p, p < n → mnB g n ≤ g p
  | 0, p, h => absurd h (Nat.not_lt_zero p)
  | n + 1, p, h => by
    rw [mnB]
    by_cases e : p = n
    · subst e; split <;> omega
    · have := mnB_at (g := g) n p (by omega)
      split <;> omega
theorem frstN_le {k : Nat} {s : jGS} (hs : gOk k s) (hE : 0 < rE d) : frstN d s ≤ 2000 * k := Nat.le_trans (mnB_at (rE d) 0 hE) (hs.1 0)
theorem rcOf_ok {s : jGS} {code : Nat} (hd : rdOk d) (hE : 0 < rE d) (hs : gOk (rP d) s) (hc : code < 1000000) : rcOk (rcOf d s code) := by
  intro w _
  have h6 := hd.1
  have a := lastN_le (d := d) hs
  have b := mostN_le (d := d) hs
  have c := frstN_le hs hE
  have e := hs.2.2.2.2.2.1
  unfold rcOf
  split <;> omega
theorem cb_last (H : bEnv h b r d) {s : jGS} (hs : gOk (rP d) s) (hG : GateIs d AJ (rP d) s) : mc 55 [.ref (b + 4)] (bJ h b r rr ws lp lf A AJ) = some (some (.int (nI (lastN d s))), bJ h b r rr ws lp lf A AJ) := by
  rw [bJ_j]; exact c_lastMinute (be_j H) hs hG
theorem cb_first (H : bEnv h b r d) {s : jGS} (hs : gOk (rP d) s) (hG : GateIs d AJ (rP d) s) (hE : 0 < rE d) : mc 59 [.ref (b + 4)] (bJ h b r rr ws lp lf A AJ) = some (some (.int (nI (frstN d s))), bJ h b r rr ws lp lf A AJ) := by
  rw [bJ_j]; exact c_firstMinute (be_j H) hs hG hE
theorem cb_most (H : bEnv h b r d) {s : jGS} (hs : gOk (rP d) s) (hG : GateIs d AJ (rP d) s) : mc 61 [.ref (b + 4)] (bJ h b r rr ws lp lf A AJ) = some (some (.int (nI (mostN d s))), bJ h b r rr ws lp lf A AJ) := by
  rw [bJ_j]; exact c_mostWalked (be_j H) hs hG
theorem cb_ties (H : bEnv h b r d) {s : jGS} (hG : GateIs d AJ (rP d) s) : mc 63 [.ref (b + 4)] (bJ h b r rr ws lp lf A AJ) = some (some (.int (nI (gt s))), bJ h b r rr ws lp lf A AJ) := by
  rw [bJ_j, c_tiesInAll (be_j H), hG.2.2.1]
theorem bb_jo : gO (bJ h b r rr ws lp lf A AJ) (b + 4) 1 = some (oF 1 (b + 4) (jF r)) := by
  rw [bJ_j]; exact jj_o
end BWeigh
theorem sq_ties {d : jRD} (hd : rdOk d) (c : Nat → Nat) (g mn : Nat) : ∀ k, gt (sq d c g mn (k + 1)) ≤ 2 * k
  | 0 => by
    have e : gt (nxt d (rowC d c 0) 0 (sq d c g mn 0)) = 0 := by
      show gt gs0 + cntB (tied d (rowC d c 0) 0 gs0) (rB d) = 0
      have z : ∀ n, cntB (tied d (rowC d c 0) 0 gs0) n = 0 := by
        intro n
        induction n with
        | zero => rfl
        | succ n ih => rw [cntB, ih, tied_0]; rfl
      rw [z]; rfl
    rw [sq]
    split
    · show gt (nxt d (rowC d c 0) 0 (sq d c g mn 0)) ≤ _; omega
    · omega
  | k + 1 => by
    have ih := sq_ties hd c g mn k
    have h2 := hd.2.2.1
    have hc := cntB_le (tied d (rowC d c (k + 1)) (k + 1) (sq d c g mn (k + 1))) (rB d)
    have e : gt (nxt d (rowC d c (k + 1)) (k + 1) (sq d c g mn (k + 1))) = gt (sq d c g mn (k + 1)) + cntB (tied d (rowC d c (k + 1)) (k + 1) (sq d c g mn (k + 1))) (rB d) := rfl
    rw [sq]
    split
    · show gt (nxt d (rowC d c (k + 1)) (k + 1) (sq d c g mn (k + 1))) ≤ _; omega
    · omega
