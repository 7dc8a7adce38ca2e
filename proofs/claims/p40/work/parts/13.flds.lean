theorem x0_0 {h : jHp} {b : Nat} {F : Nat → Value} {A : Nat → Nat → Int32} : gA (hX 0 h b F A) b 0 0 = vA (F 0) := gA_hX rfl
theorem p0_0 {h : jHp} {b : Nat} {F : Nat → Value} {A : Nat → Nat → Int32} (v : Value) : pF (hX 0 h b F A) b 0 0 v = some (hX 0 h b (updV F 0 v) A) := pF_hX v rfl
theorem x0_1 {h : jHp} {b : Nat} {F : Nat → Value} {A : Nat → Nat → Int32} : gI (hX 0 h b F A) b 0 1 = vI (F 1) := gI_hX rfl
theorem p0_1 {h : jHp} {b : Nat} {F : Nat → Value} {A : Nat → Nat → Int32} (v : Value) : pF (hX 0 h b F A) b 0 1 v = some (hX 0 h b (updV F 1 v) A) := pF_hX v rfl
theorem x0_2 {h : jHp} {b : Nat} {F : Nat → Value} {A : Nat → Nat → Int32} : gA (hX 0 h b F A) b 0 2 = vA (F 2) := gA_hX rfl
theorem p0_2 {h : jHp} {b : Nat} {F : Nat → Value} {A : Nat → Nat → Int32} (v : Value) : pF (hX 0 h b F A) b 0 2 v = some (hX 0 h b (updV F 2 v) A) := pF_hX v rfl
theorem x0_3 {h : jHp} {b : Nat} {F : Nat → Value} {A : Nat → Nat → Int32} : gI (hX 0 h b F A) b 0 3 = vI (F 3) := gI_hX rfl
theorem p0_3 {h : jHp} {b : Nat} {F : Nat → Value} {A : Nat → Nat → Int32} (v : Value) : pF (hX 0 h b F A) b 0 3 v = some (hX 0 h b (updV F 3 v) A) := pF_hX v rfl
theorem x0_4 {h : jHp} {b : Nat} {F : Nat → Value} {A : Nat → Nat → Int32} : gI (hX 0 h b F A) b 0 4 = vI (F 4) := gI_hX rfl
theorem p0_4 {h : jHp} {b : Nat} {F : Nat → Value} {A : Nat → Nat → Int32} (v : Value) : pF (hX 0 h b F A) b 0 4 v = some (hX 0 h b (updV F 4 v) A) := pF_hX v rfl
theorem x0_5 {h : jHp} {b : Nat} {F : Nat → Value} {A : Nat → Nat → Int32} : gI (hX 0 h b F A) b 0 5 = vI (F 5) := gI_hX rfl
theorem p0_5 {h : jHp} {b : Nat} {F : Nat → Value} {A : Nat → Nat → Int32} (v : Value) : pF (hX 0 h b F A) b 0 5 v = some (hX 0 h b (updV F 5 v) A) := pF_hX v rfl
theorem x0_6 {h : jHp} {b : Nat} {F : Nat → Value} {A : Nat → Nat → Int32} : gA (hX 0 h b F A) b 0 6 = some (b + 1) := gR_hX rfl (by decide)
theorem r0_1 {h : jHp} {b : Nat} {F : Nat → Value} {A : Nat → Nat → Int32} (j : Int32) : alI (hX 0 h b F A) (b + 1) j = rdA 165 (A 1) j := alI_hX j (by decide) (by decide) rfl
theorem w0_1 {h : jHp} {b : Nat} {F : Nat → Value} {A : Nat → Nat → Int32} {t : Nat} (x : Int32) (ht : t < 165) : asI (hX 0 h b F A) (b + 1) (nI t) x = some (hX 0 h b F (updA A 1 (upd (A 1) t x))) := asI_hX x (by decide) (by decide) rfl (by decide) ht
theorem n0_1 {h : jHp} {b : Nat} {F : Nat → Value} {A : Nat → Nat → Int32} : alen (hX 0 h b F A) (b + 1) = some (nI 165) := alen_hX (by decide) (by decide) rfl
theorem x0_7 {h : jHp} {b : Nat} {F : Nat → Value} {A : Nat → Nat → Int32} : gA (hX 0 h b F A) b 0 7 = some (b + 2) := gR_hX rfl (by decide)
theorem r0_2 {h : jHp} {b : Nat} {F : Nat → Value} {A : Nat → Nat → Int32} (j : Int32) : alI (hX 0 h b F A) (b + 2) j = rdA 5 (A 2) j := alI_hX j (by decide) (by decide) rfl
theorem w0_2 {h : jHp} {b : Nat} {F : Nat → Value} {A : Nat → Nat → Int32} {t : Nat} (x : Int32) (ht : t < 5) : asI (hX 0 h b F A) (b + 2) (nI t) x = some (hX 0 h b F (updA A 2 (upd (A 2) t x))) := asI_hX x (by decide) (by decide) rfl (by decide) ht
theorem n0_2 {h : jHp} {b : Nat} {F : Nat → Value} {A : Nat → Nat → Int32} : alen (hX 0 h b F A) (b + 2) = some (nI 5) := alen_hX (by decide) (by decide) rfl
theorem x0_8 {h : jHp} {b : Nat} {F : Nat → Value} {A : Nat → Nat → Int32} : gA (hX 0 h b F A) b 0 8 = some (b + 3) := gR_hX rfl (by decide)
theorem r0_3 {h : jHp} {b : Nat} {F : Nat → Value} {A : Nat → Nat → Int32} (j : Int32) : alI (hX 0 h b F A) (b + 3) j = rdA 24 (A 3) j := alI_hX j (by decide) (by decide) rfl
theorem w0_3 {h : jHp} {b : Nat} {F : Nat → Value} {A : Nat → Nat → Int32} {t : Nat} (x : Int32) (ht : t < 24) : asI (hX 0 h b F A) (b + 3) (nI t) x = some (hX 0 h b F (updA A 3 (upd (A 3) t x))) := asI_hX x (by decide) (by decide) rfl (by decide) ht
theorem n0_3 {h : jHp} {b : Nat} {F : Nat → Value} {A : Nat → Nat → Int32} : alen (hX 0 h b F A) (b + 3) = some (nI 24) := alen_hX (by decide) (by decide) rfl
theorem x1_0 {h : jHp} {b : Nat} {F : Nat → Value} {A : Nat → Nat → Int32} : gA (hX 1 h b F A) b 1 0 = vA (F 0) := gA_hX rfl
theorem p1_0 {h : jHp} {b : Nat} {F : Nat → Value} {A : Nat → Nat → Int32} (v : Value) : pF (hX 1 h b F A) b 1 0 v = some (hX 1 h b (updV F 0 v) A) := pF_hX v rfl
theorem x1_1 {h : jHp} {b : Nat} {F : Nat → Value} {A : Nat → Nat → Int32} : gA (hX 1 h b F A) b 1 1 = some (b + 1) := gR_hX rfl (by decide)
theorem r1_1 {h : jHp} {b : Nat} {F : Nat → Value} {A : Nat → Nat → Int32} (j : Int32) : alI (hX 1 h b F A) (b + 1) j = rdA 28 (A 1) j := alI_hX j (by decide) (by decide) rfl
theorem w1_1 {h : jHp} {b : Nat} {F : Nat → Value} {A : Nat → Nat → Int32} {t : Nat} (x : Int32) (ht : t < 28) : asI (hX 1 h b F A) (b + 1) (nI t) x = some (hX 1 h b F (updA A 1 (upd (A 1) t x))) := asI_hX x (by decide) (by decide) rfl (by decide) ht
theorem n1_1 {h : jHp} {b : Nat} {F : Nat → Value} {A : Nat → Nat → Int32} : alen (hX 1 h b F A) (b + 1) = some (nI 28) := alen_hX (by decide) (by decide) rfl
theorem x1_2 {h : jHp} {b : Nat} {F : Nat → Value} {A : Nat → Nat → Int32} : gA (hX 1 h b F A) b 1 2 = some (b + 2) := gR_hX rfl (by decide)
theorem r1_2 {h : jHp} {b : Nat} {F : Nat → Value} {A : Nat → Nat → Int32} (j : Int32) : alI (hX 1 h b F A) (b + 2) j = rdA 28 (A 2) j := alI_hX j (by decide) (by decide) rfl
theorem w1_2 {h : jHp} {b : Nat} {F : Nat → Value} {A : Nat → Nat → Int32} {t : Nat} (x : Int32) (ht : t < 28) : asI (hX 1 h b F A) (b + 2) (nI t) x = some (hX 1 h b F (updA A 2 (upd (A 2) t x))) := asI_hX x (by decide) (by decide) rfl (by decide) ht
theorem n1_2 {h : jHp} {b : Nat} {F : Nat → Value} {A : Nat → Nat → Int32} : alen (hX 1 h b F A) (b + 2) = some (nI 28) := alen_hX (by decide) (by decide) rfl
theorem x1_3 {h : jHp} {b : Nat} {F : Nat → Value} {A : Nat → Nat → Int32} : gA (hX 1 h b F A) b 1 3 = some (b + 3) := gR_hX rfl (by decide)
theorem r1_3 {h : jHp} {b : Nat} {F : Nat → Value} {A : Nat → Nat → Int32} (j : Int32) : alI (hX 1 h b F A) (b + 3) j = rdA 28 (A 3) j := alI_hX j (by decide) (by decide) rfl
theorem w1_3 {h : jHp} {b : Nat} {F : Nat → Value} {A : Nat → Nat → Int32} {t : Nat} (x : Int32) (ht : t < 28) : asI (hX 1 h b F A) (b + 3) (nI t) x = some (hX 1 h b F (updA A 3 (upd (A 3) t x))) := asI_hX x (by decide) (by decide) rfl (by decide) ht
theorem n1_3 {h : jHp} {b : Nat} {F : Nat → Value} {A : Nat → Nat → Int32} : alen (hX 1 h b F A) (b + 3) = some (nI 28) := alen_hX (by decide) (by decide) rfl
theorem x1_4 {h : jHp} {b : Nat} {F : Nat → Value} {A : Nat → Nat → Int32} : gA (hX 1 h b F A) b 1 4 = some (b + 4) := gR_hX rfl (by decide)
theorem r1_4 {h : jHp} {b : Nat} {F : Nat → Value} {A : Nat → Nat → Int32} (j : Int32) : alI (hX 1 h b F A) (b + 4) j = rdA 14 (A 4) j := alI_hX j (by decide) (by decide) rfl
theorem w1_4 {h : jHp} {b : Nat} {F : Nat → Value} {A : Nat → Nat → Int32} {t : Nat} (x : Int32) (ht : t < 14) : asI (hX 1 h b F A) (b + 4) (nI t) x = some (hX 1 h b F (updA A 4 (upd (A 4) t x))) := asI_hX x (by decide) (by decide) rfl (by decide) ht
theorem n1_4 {h : jHp} {b : Nat} {F : Nat → Value} {A : Nat → Nat → Int32} : alen (hX 1 h b F A) (b + 4) = some (nI 14) := alen_hX (by decide) (by decide) rfl
theorem x1_5 {h : jHp} {b : Nat} {F : Nat → Value} {A : Nat → Nat → Int32} : gA (hX 1 h b F A) b 1 5 = some (b + 5) := gR_hX rfl (by decide)
theorem r1_5 {h : jHp} {b : Nat} {F : Nat → Value} {A : Nat → Nat → Int32} (j : Int32) : alI (hX 1 h b F A) (b + 5) j = rdA 14 (A 5) j := alI_hX j (by decide) (by decide) rfl
theorem w1_5 {h : jHp} {b : Nat} {F : Nat → Value} {A : Nat → Nat → Int32} {t : Nat} (x : Int32) (ht : t < 14) : asI (hX 1 h b F A) (b + 5) (nI t) x = some (hX 1 h b F (updA A 5 (upd (A 5) t x))) := asI_hX x (by decide) (by decide) rfl (by decide) ht
theorem n1_5 {h : jHp} {b : Nat} {F : Nat → Value} {A : Nat → Nat → Int32} : alen (hX 1 h b F A) (b + 5) = some (nI 14) := alen_hX (by decide) (by decide) rfl
theorem x1_6 {h : jHp} {b : Nat} {F : Nat → Value} {A : Nat → Nat → Int32} : gA (hX 1 h b F A) b 1 6 = some (b + 6) := gR_hX rfl (by decide)
theorem r1_6 {h : jHp} {b : Nat} {F : Nat → Value} {A : Nat → Nat → Int32} (j : Int32) : alI (hX 1 h b F A) (b + 6) j = rdA 14 (A 6) j := alI_hX j (by decide) (by decide) rfl
theorem w1_6 {h : jHp} {b : Nat} {F : Nat → Value} {A : Nat → Nat → Int32} {t : Nat} (x : Int32) (ht : t < 14) : asI (hX 1 h b F A) (b + 6) (nI t) x = some (hX 1 h b F (updA A 6 (upd (A 6) t x))) := asI_hX x (by decide) (by decide) rfl (by decide) ht
theorem n1_6 {h : jHp} {b : Nat} {F : Nat → Value} {A : Nat → Nat → Int32} : alen (hX 1 h b F A) (b + 6) = some (nI 14) := alen_hX (by decide) (by decide) rfl
theorem x1_7 {h : jHp} {b : Nat} {F : Nat → Value} {A : Nat → Nat → Int32} : gA (hX 1 h b F A) b 1 7 = some (b + 7) := gR_hX rfl (by decide)
theorem r1_7 {h : jHp} {b : Nat} {F : Nat → Value} {A : Nat → Nat → Int32} (j : Int32) : alI (hX 1 h b F A) (b + 7) j = rdA 7 (A 7) j := alI_hX j (by decide) (by decide) rfl
theorem w1_7 {h : jHp} {b : Nat} {F : Nat → Value} {A : Nat → Nat → Int32} {t : Nat} (x : Int32) (ht : t < 7) : asI (hX 1 h b F A) (b + 7) (nI t) x = some (hX 1 h b F (updA A 7 (upd (A 7) t x))) := asI_hX x (by decide) (by decide) rfl (by decide) ht
theorem n1_7 {h : jHp} {b : Nat} {F : Nat → Value} {A : Nat → Nat → Int32} : alen (hX 1 h b F A) (b + 7) = some (nI 7) := alen_hX (by decide) (by decide) rfl
theorem x1_8 {h : jHp} {b : Nat} {F : Nat → Value} {A : Nat → Nat → Int32} : gA (hX 1 h b F A) b 1 8 = some (b + 8) := gR_hX rfl (by decide)
theorem r1_8 {h : jHp} {b : Nat} {F : Nat → Value} {A : Nat → Nat → Int32} (j : Int32) : alI (hX 1 h b F A) (b + 8) j = rdA 7 (A 8) j := alI_hX j (by decide) (by decide) rfl
theorem w1_8 {h : jHp} {b : Nat} {F : Nat → Value} {A : Nat → Nat → Int32} {t : Nat} (x : Int32) (ht : t < 7) : asI (hX 1 h b F A) (b + 8) (nI t) x = some (hX 1 h b F (updA A 8 (upd (A 8) t x))) := asI_hX x (by decide) (by decide) rfl (by decide) ht
theorem n1_8 {h : jHp} {b : Nat} {F : Nat → Value} {A : Nat → Nat → Int32} : alen (hX 1 h b F A) (b + 8) = some (nI 7) := alen_hX (by decide) (by decide) rfl
theorem x3_0 {h : jHp} {b : Nat} {F : Nat → Value} {A : Nat → Nat → Int32} : gA (hX 3 h b F A) b 3 0 = vA (F 0) := gA_hX rfl
theorem p3_0 {h : jHp} {b : Nat} {F : Nat → Value} {A : Nat → Nat → Int32} (v : Value) : pF (hX 3 h b F A) b 3 0 v = some (hX 3 h b (updV F 0 v) A) := pF_hX v rfl
theorem x3_1 {h : jHp} {b : Nat} {F : Nat → Value} {A : Nat → Nat → Int32} : gI (hX 3 h b F A) b 3 1 = vI (F 1) := gI_hX rfl
theorem p3_1 {h : jHp} {b : Nat} {F : Nat → Value} {A : Nat → Nat → Int32} (v : Value) : pF (hX 3 h b F A) b 3 1 v = some (hX 3 h b (updV F 1 v) A) := pF_hX v rfl
theorem x3_2 {h : jHp} {b : Nat} {F : Nat → Value} {A : Nat → Nat → Int32} : gI (hX 3 h b F A) b 3 2 = vI (F 2) := gI_hX rfl
theorem p3_2 {h : jHp} {b : Nat} {F : Nat → Value} {A : Nat → Nat → Int32} (v : Value) : pF (hX 3 h b F A) b 3 2 v = some (hX 3 h b (updV F 2 v) A) := pF_hX v rfl
theorem x3_3 {h : jHp} {b : Nat} {F : Nat → Value} {A : Nat → Nat → Int32} : gA (hX 3 h b F A) b 3 3 = vA (F 3) := gA_hX rfl
theorem p3_3 {h : jHp} {b : Nat} {F : Nat → Value} {A : Nat → Nat → Int32} (v : Value) : pF (hX 3 h b F A) b 3 3 v = some (hX 3 h b (updV F 3 v) A) := pF_hX v rfl
theorem x3_4 {h : jHp} {b : Nat} {F : Nat → Value} {A : Nat → Nat → Int32} : gI (hX 3 h b F A) b 3 4 = vI (F 4) := gI_hX rfl
theorem p3_4 {h : jHp} {b : Nat} {F : Nat → Value} {A : Nat → Nat → Int32} (v : Value) : pF (hX 3 h b F A) b 3 4 v = some (hX 3 h b (updV F 4 v) A) := pF_hX v rfl
theorem x4_0 {h : jHp} {b : Nat} {F : Nat → Value} {A : Nat → Nat → Int32} : gI (hX 4 h b F A) b 4 0 = vI (F 0) := gI_hX rfl
theorem p4_0 {h : jHp} {b : Nat} {F : Nat → Value} {A : Nat → Nat → Int32} (v : Value) : pF (hX 4 h b F A) b 4 0 v = some (hX 4 h b (updV F 0 v) A) := pF_hX v rfl
theorem x4_1 {h : jHp} {b : Nat} {F : Nat → Value} {A : Nat → Nat → Int32} : gI (hX 4 h b F A) b 4 1 = vI (F 1) := gI_hX rfl
theorem p4_1 {h : jHp} {b : Nat} {F : Nat → Value} {A : Nat → Nat → Int32} (v : Value) : pF (hX 4 h b F A) b 4 1 v = some (hX 4 h b (updV F 1 v) A) := pF_hX v rfl
theorem x4_2 {h : jHp} {b : Nat} {F : Nat → Value} {A : Nat → Nat → Int32} : gI (hX 4 h b F A) b 4 2 = vI (F 2) := gI_hX rfl
theorem p4_2 {h : jHp} {b : Nat} {F : Nat → Value} {A : Nat → Nat → Int32} (v : Value) : pF (hX 4 h b F A) b 4 2 v = some (hX 4 h b (updV F 2 v) A) := pF_hX v rfl
theorem x4_3 {h : jHp} {b : Nat} {F : Nat → Value} {A : Nat → Nat → Int32} : gI (hX 4 h b F A) b 4 3 = vI (F 3) := gI_hX rfl
theorem p4_3 {h : jHp} {b : Nat} {F : Nat → Value} {A : Nat → Nat → Int32} (v : Value) : pF (hX 4 h b F A) b 4 3 v = some (hX 4 h b (updV F 3 v) A) := pF_hX v rfl
theorem x4_4 {h : jHp} {b : Nat} {F : Nat → Value} {A : Nat → Nat → Int32} : gI (hX 4 h b F A) b 4 4 = vI (F 4) := gI_hX rfl
theorem p4_4 {h : jHp} {b : Nat} {F : Nat → Value} {A : Nat → Nat → Int32} (v : Value) : pF (hX 4 h b F A) b 4 4 v = some (hX 4 h b (updV F 4 v) A) := pF_hX v rfl
theorem x4_5 {h : jHp} {b : Nat} {F : Nat → Value} {A : Nat → Nat → Int32} : gA (hX 4 h b F A) b 4 5 = some (b + 1) := gR_hX rfl (by decide)
theorem r4_1 {h : jHp} {b : Nat} {F : Nat → Value} {A : Nat → Nat → Int32} (j : Int32) : alI (hX 4 h b F A) (b + 1) j = rdA 6 (A 1) j := alI_hX j (by decide) (by decide) rfl
theorem w4_1 {h : jHp} {b : Nat} {F : Nat → Value} {A : Nat → Nat → Int32} {t : Nat} (x : Int32) (ht : t < 6) : asI (hX 4 h b F A) (b + 1) (nI t) x = some (hX 4 h b F (updA A 1 (upd (A 1) t x))) := asI_hX x (by decide) (by decide) rfl (by decide) ht
theorem n4_1 {h : jHp} {b : Nat} {F : Nat → Value} {A : Nat → Nat → Int32} : alen (hX 4 h b F A) (b + 1) = some (nI 6) := alen_hX (by decide) (by decide) rfl
theorem x4_6 {h : jHp} {b : Nat} {F : Nat → Value} {A : Nat → Nat → Int32} : gA (hX 4 h b F A) b 4 6 = some (b + 2) := gR_hX rfl (by decide)
theorem r4_2 {h : jHp} {b : Nat} {F : Nat → Value} {A : Nat → Nat → Int32} (j : Int32) : alI (hX 4 h b F A) (b + 2) j = rdA 6 (A 2) j := alI_hX j (by decide) (by decide) rfl
theorem w4_2 {h : jHp} {b : Nat} {F : Nat → Value} {A : Nat → Nat → Int32} {t : Nat} (x : Int32) (ht : t < 6) : asI (hX 4 h b F A) (b + 2) (nI t) x = some (hX 4 h b F (updA A 2 (upd (A 2) t x))) := asI_hX x (by decide) (by decide) rfl (by decide) ht
theorem n4_2 {h : jHp} {b : Nat} {F : Nat → Value} {A : Nat → Nat → Int32} : alen (hX 4 h b F A) (b + 2) = some (nI 6) := alen_hX (by decide) (by decide) rfl
theorem x4_7 {h : jHp} {b : Nat} {F : Nat → Value} {A : Nat → Nat → Int32} : gA (hX 4 h b F A) b 4 7 = some (b + 3) := gR_hX rfl (by decide)
theorem r4_3 {h : jHp} {b : Nat} {F : Nat → Value} {A : Nat → Nat → Int32} (j : Int32) : alI (hX 4 h b F A) (b + 3) j = rdA 16 (A 3) j := alI_hX j (by decide) (by decide) rfl
theorem w4_3 {h : jHp} {b : Nat} {F : Nat → Value} {A : Nat → Nat → Int32} {t : Nat} (x : Int32) (ht : t < 16) : asI (hX 4 h b F A) (b + 3) (nI t) x = some (hX 4 h b F (updA A 3 (upd (A 3) t x))) := asI_hX x (by decide) (by decide) rfl (by decide) ht
theorem n4_3 {h : jHp} {b : Nat} {F : Nat → Value} {A : Nat → Nat → Int32} : alen (hX 4 h b F A) (b + 3) = some (nI 16) := alen_hX (by decide) (by decide) rfl
theorem x4_8 {h : jHp} {b : Nat} {F : Nat → Value} {A : Nat → Nat → Int32} : gA (hX 4 h b F A) b 4 8 = some (b + 4) := gR_hX rfl (by decide)
theorem r4_4 {h : jHp} {b : Nat} {F : Nat → Value} {A : Nat → Nat → Int32} (j : Int32) : alI (hX 4 h b F A) (b + 4) j = rdA 12 (A 4) j := alI_hX j (by decide) (by decide) rfl
theorem w4_4 {h : jHp} {b : Nat} {F : Nat → Value} {A : Nat → Nat → Int32} {t : Nat} (x : Int32) (ht : t < 12) : asI (hX 4 h b F A) (b + 4) (nI t) x = some (hX 4 h b F (updA A 4 (upd (A 4) t x))) := asI_hX x (by decide) (by decide) rfl (by decide) ht
theorem n4_4 {h : jHp} {b : Nat} {F : Nat → Value} {A : Nat → Nat → Int32} : alen (hX 4 h b F A) (b + 4) = some (nI 12) := alen_hX (by decide) (by decide) rfl
theorem x5_0 {h : jHp} {b : Nat} {F : Nat → Value} {A : Nat → Nat → Int32} : gJ (hX 5 h b F A) b 5 0 = vJ (F 0) := gJ_hX rfl
theorem p5_0 {h : jHp} {b : Nat} {F : Nat → Value} {A : Nat → Nat → Int32} (v : Value) : pF (hX 5 h b F A) b 5 0 v = some (hX 5 h b (updV F 0 v) A) := pF_hX v rfl
theorem x5_1 {h : jHp} {b : Nat} {F : Nat → Value} {A : Nat → Nat → Int32} : gJ (hX 5 h b F A) b 5 1 = vJ (F 1) := gJ_hX rfl
theorem p5_1 {h : jHp} {b : Nat} {F : Nat → Value} {A : Nat → Nat → Int32} (v : Value) : pF (hX 5 h b F A) b 5 1 v = some (hX 5 h b (updV F 1 v) A) := pF_hX v rfl
theorem x6_0 {h : jHp} {b : Nat} {F : Nat → Value} {A : Nat → Nat → Int32} : gA (hX 6 h b F A) b 6 0 = some (b + 1) := gR_hX rfl (by decide)
theorem r6_1 {h : jHp} {b : Nat} {F : Nat → Value} {A : Nat → Nat → Int32} (j : Int32) : alI (hX 6 h b F A) (b + 1) j = rdA 120 (A 1) j := alI_hX j (by decide) (by decide) rfl
theorem w6_1 {h : jHp} {b : Nat} {F : Nat → Value} {A : Nat → Nat → Int32} {t : Nat} (x : Int32) (ht : t < 120) : asI (hX 6 h b F A) (b + 1) (nI t) x = some (hX 6 h b F (updA A 1 (upd (A 1) t x))) := asI_hX x (by decide) (by decide) rfl (by decide) ht
theorem n6_1 {h : jHp} {b : Nat} {F : Nat → Value} {A : Nat → Nat → Int32} : alen (hX 6 h b F A) (b + 1) = some (nI 120) := alen_hX (by decide) (by decide) rfl
theorem x6_1 {h : jHp} {b : Nat} {F : Nat → Value} {A : Nat → Nat → Int32} : gI (hX 6 h b F A) b 6 1 = vI (F 1) := gI_hX rfl
theorem p6_1 {h : jHp} {b : Nat} {F : Nat → Value} {A : Nat → Nat → Int32} (v : Value) : pF (hX 6 h b F A) b 6 1 v = some (hX 6 h b (updV F 1 v) A) := pF_hX v rfl
theorem x6_2 {h : jHp} {b : Nat} {F : Nat → Value} {A : Nat → Nat → Int32} : gI (hX 6 h b F A) b 6 2 = vI (F 2) := gI_hX rfl
theorem p6_2 {h : jHp} {b : Nat} {F : Nat → Value} {A : Nat → Nat → Int32} (v : Value) : pF (hX 6 h b F A) b 6 2 v = some (hX 6 h b (updV F 2 v) A) := pF_hX v rfl
