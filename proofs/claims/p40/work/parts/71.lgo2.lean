/-! The law goes through a right row: its arrays; who walks. -/
def hG (h : jHp) (o u v : Nat) (g cm sn : Nat → Int32) : jHp := hL (hL (hL h o 60 g) u 2 cm) v 2 sn
def GoF (h : jHp) (d : jRD) (c : Nat → Nat) (r a o u v : Nat) (fr fa : Nat → Int32) : Prop :=
  (La h r 48 fr ∧ r ≠ o ∧ r ≠ u ∧ r ≠ v) ∧ (La h a 24 fa ∧ a ≠ o ∧ a ≠ u ∧ a ≠ v) ∧ (∃ g0, La h o 60 g0) ∧ (∃ g0, La h u 2 g0) ∧ (∃ g0, La h v 2 g0) ∧ (o ≠ u ∧ o ≠ v ∧ u ≠ v) ∧ RdA d fr ∧ CtA d c fa
section GoF
variable {h : jHp} {d : jRD} {c : Nat → Nat} {r a o u v : Nat} {fr fa : Nat → Int32}
theorem GoF.xr (G : GoF h d c r a o u v fr fa) (g cm sn : Nat → Int32) : La (hG h o u v g cm sn) r 48 fr := ((G.1.1.mvL G.1.2.1 g).mvL G.1.2.2.1 cm).mvL G.1.2.2.2 sn
theorem GoF.xa (G : GoF h d c r a o u v fr fa) (g cm sn : Nat → Int32) : La (hG h o u v g cm sn) a 24 fa := ((G.2.1.1.mvL G.2.1.2.1 g).mvL G.2.1.2.2.1 cm).mvL G.2.1.2.2.2 sn
theorem GoF.xo (G : GoF h d c r a o u v fr fa) (g cm sn : Nat → Int32) : La (hG h o u v g cm sn) o 60 g := by
  obtain ⟨-, -, ⟨g0, K⟩, -, -, ⟨n1, n2, n3⟩, -⟩ := G
  exact ((K.own g).mvL n1 cm).mvL n2 sn
theorem GoF.xu (G : GoF h d c r a o u v fr fa) (g cm sn : Nat → Int32) : La (hG h o u v g cm sn) u 2 cm := by
  obtain ⟨-, -, -, ⟨g0, K⟩, -, ⟨n1, n2, n3⟩, -⟩ := G
  exact ((K.mvL (fun z => n1 z.symm) g).own cm).mvL n3 sn
theorem GoF.xv (G : GoF h d c r a o u v fr fa) (g cm sn : Nat → Int32) : La (hG h o u v g cm sn) v 2 sn := by
  obtain ⟨-, -, -, -, ⟨g0, K⟩, ⟨n1, n2, n3⟩, -⟩ := G
  exact ((K.mvL (fun z => n2 z.symm) g).mvL (fun z => n3 z.symm) cm).own sn
theorem GoF.wo (G : GoF h d c r a o u v fr fa) (g cm sn : Nat → Int32) {t : Nat} (x : Int32) (ht : t < 60) : asI (hG h o u v g cm sn) o (nI t) x = some (hG h o u v (upd g t x) cm sn) := by
  obtain ⟨n1, n2, n3⟩ := G.2.2.2.2.2.1
  rw [la_w x (G.xo g cm sn) ht (by omega)]
  unfold hG
  rw [hL_comm (fun z => n2 z.symm), hL_comm (h := hL h o 60 g) (fun z => n1 z.symm), hL_hL]
theorem GoF.wu (G : GoF h d c r a o u v fr fa) (g cm sn : Nat → Int32) {t : Nat} (x : Int32) (ht : t < 2) : asI (hG h o u v g cm sn) u (nI t) x = some (hG h o u v g (upd cm t x) sn) := by
  obtain ⟨n1, n2, n3⟩ := G.2.2.2.2.2.1
  rw [la_w x (G.xu g cm sn) ht (by omega)]
  unfold hG
  rw [hL_comm (fun z => n3 z.symm), hL_hL]
theorem GoF.wv (G : GoF h d c r a o u v fr fa) (g cm sn : Nat → Int32) {t : Nat} (x : Int32) (ht : t < 2) : asI (hG h o u v g cm sn) v (nI t) x = some (hG h o u v g cm (upd sn t x)) := by
  rw [la_w x (G.xv g cm sn) ht (by omega)]
  unfold hG
  rw [hL_hL]
theorem GoF.ro (G : GoF h d c r a o u v fr fa) (g cm sn : Nat → Int32) {t : Nat} (ht : t < 60) : alI (hG h o u v g cm sn) o (nI t) = some (g t) := la_r (G.xo g cm sn) ht (by omega)
theorem GoF.ru (G : GoF h d c r a o u v fr fa) (g cm sn : Nat → Int32) {t : Nat} (ht : t < 2) : alI (hG h o u v g cm sn) u (nI t) = some (cm t) := la_r (G.xu g cm sn) ht (by omega)
theorem GoF.rv (G : GoF h d c r a o u v fr fa) (g cm sn : Nat → Int32) {t : Nat} (ht : t < 2) : alI (hG h o u v g cm sn) v (nI t) = some (sn t) := la_r (G.xv g cm sn) ht (by omega)
theorem GoF.rr (G : GoF h d c r a o u v fr fa) (g cm sn : Nat → Int32) {t : Nat} (ht : t < 48) : alI (hG h o u v g cm sn) r (nI t) = some (fr t) := la_r (G.xr g cm sn) ht (by omega)
theorem GoF.ra (G : GoF h d c r a o u v fr fa) (g cm sn : Nat → Int32) {t : Nat} (ht : t < 24) : alI (hG h o u v g cm sn) a (nI t) = some (fa t) := la_r (G.xa g cm sn) ht (by omega)
end GoF
/-- behind the walkers below j -/
def WkI (d : jRD) (c : Nat → Nat) (k : Nat) (s : jGS) (g : Nat → Int32) (j : Nat) : Prop :=
  (∀ p, p < rE d → g (7 * p + k) = nI (ga s p)) ∧ (∀ p, p < j → c (rE d * k + p) = 0 → g (7 * p + k + 1) = nI (ga s p + wlk d p k)) ∧ (∀ p, p < rE d → g (52 + p) = nI (if p < j ∧ c (rE d * k + p) = 0 then gf s p + rM d k else gf s p)) ∧ (g 57 = nI (gt s) ∧ g 56 = -nI 9)
section LGo3
variable {h : jHp} {d : jRD} {c : Nat → Nat} {r a o u v : Nat} {fr fa : Nat → Int32} {k : Nat} {s : jGS}
theorem l_w2 (G : GoF h d c r a o u v fr fa) (hd : rdOk d) (hc : ∀ i, c i ≤ 2) (hk : k < rP d) (l2 l3 : Int32) (cm sn : Nat → Int32) : ∀ m j g, j + m = rE d → WkI d c k s g j →
    ∃ g', R 2 96 440 [some (.ref r), some (.ref a), some (.int l2), some (.int l3), some (.ref o), some (.int (nI (rE d))), some (.ref u), some (.ref v), some (.int (nI k)), some (.int (nI j)), none, none, none, none, none, none, none, none] [.int (nI j)] (hG h o u v g cm sn) =
      R 2 96 545 [some (.ref r), some (.ref a), some (.int l2), some (.int l3), some (.ref o), some (.int (nI (rE d))), some (.ref u), some (.ref v), some (.int (nI k)), some (.int (nI 0)), none, none, none, none, none, none, none, none] [.int (nI 0)] (hG h o u v g' cm sn) ∧ WkI d c k s g' (rE d)
  | 0, j, g, hj, I => by
    have h4 := hd.2.1
    obtain rfl : j = rE d := hj
    refine ⟨g, ?_, I⟩
    rw [B96_440, if_neg (show ¬ nI (rE d) < nI (rE d) by rw [nJ_lt (by omega) (by omega)]; omega), B96_543]
  | m + 1, j, g, hj, I => by
    have h4 := hd.2.1
    have h6 := hd.1
    have hp : j < rE d := by omega
    obtain ⟨g1, g2, g3⟩ := cell_lt hd hk hp
    have hci := hc (rE d * k + j)
    obtain ⟨i1, i2, i3, i4⟩ := I
    rw [B96_440, if_pos (show nI j < nI (rE d) by rw [nJ_lt (by omega) (by omega)]; exact hp), nI_mul, nJ_add, G.ra g cm sn g2, obd_some, G.2.2.2.2.2.2.2 _ g1, B96_455]
    by_cases e : c (rE d * k + j) = 0
    · rw [if_pos (show nI (c (rE d * k + j)) = 0 by rw [e]; rfl), nI_mul, nJ_add, nJ_add, B96_471, nI_mul, nJ_add, G.ro g cm sn (by omega), obd_some, G.wo g cm sn _ (by omega), obd_some, B96_485, nI_mul, nJ_add, nJ_add, B96_499, nI_mul, nJ_add, G.ro _ cm sn (by omega), obd_some, upd_n (by omega), i1 j hp, m_pace (G.xr _ cm sn) G.2.2.2.2.2.2.1 hd hp hk]
      simp only [obd_some, obd_none, Option.toList_some, Option.toList_none, List.cons_append, List.nil_append, cond_true, cond_false]
      rw [B96_514, nJ_add, G.wo _ cm sn _ (by omega), obd_some, nJ_add, G.ro _ cm sn (by omega), obd_some, upd_n (by omega), upd_n (by omega), i3 j hp, if_neg (fun z => absurd z.1 (Nat.lt_irrefl j)), B96_526, nJ_add, G.rr _ cm sn (by omega), obd_some, (G.2.2.2.2.2.2.1.2.2.2.2.2.1 k hk).1, nJ_add, G.wo _ cm sn _ (by omega), obd_some, B96_534, B96_537, B96_438, nJ_add]
      refine l_w2 G hd hc hk l2 l3 cm sn m (j + 1) _ (by omega) ⟨fun p hq => ?_, fun p hq e2 => ?_, fun p hq => ?_, ?_⟩
      · rw [upd_n (by omega), upd_n (by omega), upd_n (by omega)]; exact i1 p hq
      · by_cases y : p = j
        · subst y; rw [upd_n (by omega), upd_s]
        · rw [upd_n (by omega), upd_n (by omega), upd_n (by omega)]; exact i2 p (by omega) e2
      · by_cases y : p = j
        · subst y; rw [upd_s, if_pos ⟨by omega, e⟩]
        · rw [upd_n (by omega), upd_n (by omega), upd_n (by omega), i3 p hq]
          by_cases y2 : p < j ∧ c (rE d * k + p) = 0
          · rw [if_pos y2, if_pos ⟨by omega, y2.2⟩]
          · rw [if_neg y2, if_neg (fun z => y2 ⟨by omega, z.2⟩)]
      · rw [upd_n (by omega), upd_n (by omega), upd_n (by omega), upd_n (by omega), upd_n (by omega), upd_n (by omega)]; exact i4
    · rw [if_neg (show ¬ nI (c (rE d * k + j)) = 0 by rw [nI_eq0 (by omega)]; exact e), B96_534, B96_537, B96_438, nJ_add]
      refine l_w2 G hd hc hk l2 l3 cm sn m (j + 1) g (by omega) ⟨i1, fun p hq e2 => ?_, fun p hq => ?_, i4⟩
      · by_cases y : p = j
        · subst y; exact absurd e2 e
        · exact i2 p (by omega) e2
      · rw [i3 p hq]
        by_cases y2 : p < j ∧ c (rE d * k + p) = 0
        · rw [if_pos y2, if_pos ⟨by omega, y2.2⟩]
        · rw [if_neg y2, if_neg (fun z => y2 ⟨by
            have z1 := z.1
            by_cases y : p = j
            · subst y; exact absurd z.2 e
            · omega, z.2⟩)]
end LGo3
