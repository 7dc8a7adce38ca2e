section BGo
variable {h : jHp} {b r : Nat} {d : jRD} {rr ws lp lf : Int32} {A AJ : Nat → Nat → Int32}
theorem cb_goOn (H : bEnv h b r d) {k : Nat} {s : jGS} {a : Nat → Nat} (hk : k < rP d) (hs : gOk k s) (hG : GateIs d AJ k s) (ha : ∀ p, a p ≤ rB d) (hC : ∀ p, p < rE d → A 3 (k * rE d + p) = nI (a p)) :
    ∃ AJ2, mc 41 [.ref (b + 4), .int (nI k), .ref (b + 3)] (bJ h b r rr ws lp lf A AJ) = some (some (.int (cmI (fstW (whyN d a k s) (rE d) 0))), bJ h b r rr ws lp lf A AJ2) ∧ Fr k AJ AJ2 ∧ (fstW (whyN d a k s) (rE d) 0 = none → GateIs d AJ2 (k + 1) (nxt d a k s)) := by
  obtain ⟨AJ2, e1, e2, e3⟩ := c_goOn (A := AJ) (be_j (rr := rr) (ws := ws) (lp := lp) (lf := lf) (A := A) H) hk hs hG ha hC
  exact ⟨AJ2, by rw [bJ_j, bJ_j]; exact e1, e2, fun q => (e3 q).1⟩
end BGo
/-! the rest of the class's sheets -/
section SheetRows2
variable {h : jHp} {b : Nat} {d : jSD}
def rnw (d : jSD) (q : Option Nat) (n i : Nat) : jSD := (q, n, fun t => if t < i then 0 else sC d t)
theorem sdF_1 (d : jSD) (q : Option Nat) (n : Nat) : updV (updV (sdF d) 1 (.int (laneI q))) 2 (.int (nI n)) = sdF (rnw d q n 0) := by
  funext k; unfold updV
  by_cases e : k = 2
  · subst e; rfl
  · rw [if_neg e]
    by_cases e1 : k = 1
    · subst e1; rfl
    · rw [if_neg e1]
      match k, e, e1 with
      | 0, _, _ => rfl
      | k + 3, _, _ => rfl
theorem rnw_step (d : jSD) (q : Option Nat) (n i : Nat) : setC (rnw d q n i) i 0 = rnw d q n (i + 1) := by
  unfold setC rnw sL sN sC
  refine Prod.ext rfl (Prod.ext rfl ?_)
  funext t
  unfold upd
  dsimp only
  by_cases e : t = i
  · subst e; rw [if_pos rfl, if_pos (Nat.lt_succ_self t)]
  · rw [if_neg e]
    by_cases e2 : t < i
    · rw [if_pos e2, if_pos (by omega)]
    · rw [if_neg e2, if_neg (by omega)]
theorem l_renew {q : Option Nat} {n : Nat} : ∀ (m i : Nat) (o1 o2 : Option Value), i + m = 120 → R 1 90 12 [some (.ref b), o1, o2, some (.int (nI i))] [] (hX 6 h b (sdF (rnw d q n i)) (sdA (rnw d q n i))) = some (none, hX 6 h b (sdF (rnw d q n 120)) (sdA (rnw d q n 120))) := by
  intro m
  induction m with
  | zero =>
    intro i o1 o2 hi
    obtain rfl : i = 120 := hi
    rw [B90_12, if_neg (show ¬ nI 120 < nI 120 by decide)]
  | succ m ih =>
    intro i o1 o2 him
    rw [B90_12, if_pos (show nI i < nI 120 by rw [nJ_lt (by omega) (by omega)]; omega), x6_0, obd_some, w6_1 (nI 0) (show i < 120 by omega), obd_some, nJ_add, sdA_upd, ← ih (i + 1) none none (by omega)]
    rw [show setC (rnw d q n i) i (nI 0) = rnw d q n (i + 1) from rnw_step d q n i]
    rfl
theorem c_renew (H : SheetAt h b d) (q : Option Nat) (n : Nat) : mc 90 [.ref b, .int (laneI q), .int (nI n)] h = some (none, hX 6 h b (sdF (rnw d q n 120)) (sdA (rnw d q n 120))) := by
  rw [M90]
  have e : pF h b 6 1 (.int (laneI q)) = some (hX 6 h b (updV (sdF d) 1 (.int (laneI q))) (sdA d)) := by
    have e0 := p6_1 (h := h) (b := b) (F := sdF d) (A := sdA d) (.int (laneI q))
    rw [show hX 6 h b (sdF d) (sdA d) = h from H] at e0
    exact e0
  rw [e, obd_some, p6_2, obd_some, sdF_1]
  have g := l_renew (h := h) (b := b) (d := d) (q := q) (n := n) 120 0 (some (.int (laneI q))) (some (.int (nI n))) rfl
  rw [show sdA (rnw d q n 0) = sdA d from rfl] at g
  exact g
end SheetRows2
