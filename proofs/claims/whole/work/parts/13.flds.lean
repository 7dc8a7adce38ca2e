theorem x0_0 {h : jHp} {b : Nat} {F : Nat → Value} {A : Nat → Nat → Int32} : gA (hX 0 h b F A) b 0 0 = vA (F 0) := gA_hX rfl
theorem p0_0 {h : jHp} {b : Nat} {F : Nat → Value} {A : Nat → Nat → Int32} (v : Value) : pF (hX 0 h b F A) b 0 0 v = some (hX 0 h b (updV F 0 v) A) := pF_hX v rfl
theorem x0_1 {h : jHp} {b : Nat} {F : Nat → Value} {A : Nat → Nat → Int32} : gI (hX 0 h b F A) b 0 1 = vI (F 1) := gI_hX rfl
theorem p0_1 {h : jHp} {b : Nat} {F : Nat → Value} {A : Nat → Nat → Int32} (v : Value) : pF (hX 0 h b F A) b 0 1 v = some (hX 0 h b (updV F 1 v) A) := pF_hX v rfl
theorem x0_2 {h : jHp} {b : Nat} {F : Nat → Value} {A : Nat → Nat → Int32} : gA (hX 0 h b F A) b 0 2 = vA (F 2) := gA_hX rfl
theorem p0_2 {h : jHp} {b : Nat} {F : Nat → Value} {A : Nat → Nat → Int32} (v : Value) : pF (hX 0 h b F A) b 0 2 v = some (hX 0 h b (updV F 2 v) A) := pF_hX v rfl
theorem x0_3 {h : jHp} {b : Nat} {F : Nat → Value} {A : Nat → Nat → Int32} : gI (hX 0 h b F A) b 0 3 = vI (F 3) := gI_hX rfl
theorem p0_3 {h : jHp} {b : Nat} {F : Nat → Value} {A : Nat → Nat → Int32} (v : Value) : pF (hX 0 h b F A) b 0 3 v = some (hX 0 h b (updV F 3 v) A) := pF_hX v rfl
theorem x0_4 {h : jHp} {b : Nat} {F : Nat → Value} {A : Nat → Nat → Int32} : gI (hX 0 h b F A) b 0 4 = vI (F 4) := gI_hX rfl
theorem p0_4 {h : jHp} {b : Nat} {F : Nat → Value} {A : Nat → Nat → Int32} (v : Value) : pF (hX 0 h b F A) b 0 4 v = some (hX 0 h b (updV F 4 v) A) := pF_hX v rfl
theorem x0_5 {h : jHp} {b : Nat} {F : Nat → Value} {A : Nat → Nat → Int32} : gI (hX 0 h b F A) b 0 5 = vI (F 5) := gI_hX rfl
theorem p0_5 {h : jHp} {b : Nat} {F : Nat → Value} {A : Nat → Nat → Int32} (v : Value) : pF (hX 0 h b F A) b 0 5 v = some (hX 0 h b (updV F 5 v) A) := pF_hX v rfl
theorem x0_6 {h : jHp} {b : Nat} {F : Nat → Value} {A : Nat → Nat → Int32} : gA (hX 0 h b F A) b 0 6 = some (b + 1) := gR_hX rfl (by decide)
theorem r0_1 {h : jHp} {b : Nat} {F : Nat → Value} {A : Nat → Nat → Int32} (j : Int32) : alI (hX 0 h b F A) (b + 1) j = rdA 165 (A 1) j := alI_hX j (by decide) (by decide) rfl
theorem w0_1 {h : jHp} {b : Nat} {F : Nat → Value} {A : Nat → Nat → Int32} {t : Nat} (x : Int32) (ht : t < 165) : asI (hX 0 h b F A) (b + 1) (nI t) x = some (hX 0 h b F (updA A 1 (upd (A 1) t x))) := asI_hX x (by decide) (by decide) rfl (by decide) ht
theorem n0_1 {h : jHp} {b : Nat} {F : Nat → Value} {A : Nat → Nat → Int32} : alen (hX 0 h b F A) (b + 1) = some (nI 165) := alen_hX (by decide) (by decide) rfl
theorem x0_7 {h : jHp} {b : Nat} {F : Nat → Value} {A : Nat → Nat → Int32} : gA (hX 0 h b F A) b 0 7 = some (b + 2) := gR_hX rfl (by decide)
theorem r0_2 {h : jHp} {b : Nat} {F : Nat → Value} {A : Nat → Nat → Int32} (j : Int32) : alI (hX 0 h b F A) (b + 2) j = rdA 5 (A 2) j := alI_hX j (by decide) (by decide) rfl
theorem w0_2 {h : jHp} {b : Nat} {F : Nat → Value} {A : Nat → Nat → Int32} {t : Nat} (x : Int32) (ht : t < 5) : asI (hX 0 h b F A) (b + 2) (nI t) x = some (hX 0 h b F (updA A 2 (upd (A 2) t x))) := asI_hX x (by decide) (by decide) rfl (by decide) ht
theorem n0_2 {h : jHp} {b : Nat} {F : Nat → Value} {A : Nat → Nat → Int32} : alen (hX 0 h b F A) (b + 2) = some (nI 5) := alen_hX (by decide) (by decide) rfl
theorem x0_8 {h : jHp} {b : Nat} {F : Nat → Value} {A : Nat → Nat → Int32} : gA (hX 0 h b F A) b 0 8 = some (b + 3) := gR_hX rfl (by decide)
theorem r0_3 {h : jHp} {b : Nat} {F : Nat → Value} {A : Nat → Nat → Int32} (j : Int32) : alI (hX 0 h b F A) (b + 3) j = rdA 24 (A 3) j := alI_hX j (by decide) (by decide) rfl
theorem w0_3 {h : jHp} {b : Nat} {F : Nat → Value} {A : Nat → Nat → Int32} {t : Nat} (x : Int32) (ht : t < 24) : asI (hX 0 h b F A) (b + 3) (nI t) x = some (hX 0 h b F (updA A 3 (upd (A 3) t x))) := asI_hX x (by decide) (by decide) rfl (by decide) ht
theorem n0_3 {h : jHp} {b : Nat} {F : Nat → Value} {A : Nat → Nat → Int32} : alen (hX 0 h b F A) (b + 3) = some (nI 24) := alen_hX (by decide) (by decide) rfl
theorem x1_0 {h : jHp} {b : Nat} {F : Nat → Value} {A : Nat → Nat → Int32} : gA (hX 1 h b F A) b 1 0 = vA (F 0) := gA_hX rfl
theorem p1_0 {h : jHp} {b : Nat} {F : Nat → Value} {A : Nat → Nat → Int32} (v : Value) : pF (hX 1 h b F A) b 1 0 v = some (hX 1 h b (updV F 0 v) A) := pF_hX v rfl
theorem x1_1 {h : jHp} {b : Nat} {F : Nat → Value} {A : Nat → Nat → Int32} : gA (hX 1 h b F A) b 1 1 = some (b + 1) := gR_hX rfl (by decide)
theorem r1_1 {h : jHp} {b : Nat} {F : Nat → Value} {A : Nat → Nat → Int32} (j : Int32) : alI (hX 1 h b F A) (b + 1) j = rdA 28 (A 1) j := alI_hX j (by decide) (by decide) rfl
theorem w1_1 {h : jHp} {b : Nat} {F : Nat → Value} {A : Nat → Nat → Int32} {t : Nat} (x : Int32) (ht : t < 28) : asI (hX 1 h b F A) (b + 1) (nI t) x = some (hX 1 h b F (updA A 1 (upd (A 1) t x))) := asI_hX x (by decide) (by decide) rfl (by decide) ht
theorem n1_1 {h : jHp} {b : Nat} {F : Nat → Value} {A : Nat → Nat → Int32} : alen (hX 1 h b F A) (b + 1) = some (nI 28) := alen_hX (by decide) (by decide) rfl
theorem x1_2 {h : jHp} {b : Nat} {F : Nat → Value} {A : Nat → Nat → Int32} : gA (hX 1 h b F A) b 1 2 = some (b + 2) := gR_hX rfl (by decide)
theorem r1_2 {h : jHp} {b : Nat} {F : Nat → Value} {A : Nat → Nat → Int32} (j : Int32) : alI (hX 1 h b F A) (b + 2) j = rdA 28 (A 2) j := alI_hX j (by decide) (by decide) rfl
theorem w1_2 {h : jHp} {b : Nat} {F : Nat → Value} {A : Nat → Nat → Int32} {t : Nat} (x : Int32) (ht : t < 28) : asI (hX 1 h b F A) (b + 2) (nI t) x = some (hX 1 h b F (updA A 2 (upd (A 2) t x))) := asI_hX x (by decide) (by decide) rfl (by decide) ht
theorem n1_2 {h : jHp} {b : Nat} {F : Nat → Value} {A : Nat → Nat → Int32} : alen (hX 1 h b F A) (b + 2) = some (nI 28) := alen_hX (by decide) (by decide) rfl
theorem x1_3 {h : jHp} {b : Nat} {F : Nat → Value} {A : Nat → Nat → Int32} : gA (hX 1 h b F A) b 1 3 = some (b + 3) := gR_hX rfl (by decide)
theorem r1_3 {h : jHp} {b : Nat} {F : Nat → Value} {A : Nat → Nat → Int32} (j : Int32) : alI (hX 1 h b F A) (b + 3) j = rdA 28 (A 3) j := alI_hX j (by decide) (by decide) rfl
theorem w1_3 {h : jHp} {b : Nat} {F : Nat → Value} {A : Nat → Nat → Int32} {t : Nat} (x : Int32) (ht : t < 28) : asI (hX 1 h b F A) (b + 3) (nI t) x = some (hX 1 h b F (updA A 3 (upd (A 3) t x))) := asI_hX x (by decide) (by decide) rfl (by decide) ht
theorem n1_3 {h : jHp} {b : Nat} {F : Nat → Value} {A : Nat → Nat → Int32} : alen (hX 1 h b F A) (b + 3) = some (nI 28) := alen_hX (by decide) (by decide) rfl
theorem x1_4 {h : jHp} {b : Nat} {F : Nat → Value} {A : Nat → Nat → Int32} : gA (hX 1 h b F A) b 1 4 = some (b + 4) := gR_hX rfl (by decide)
theorem r1_4 {h : jHp} {b : Nat} {F : Nat → Value} {A : Nat → Nat → Int32} (j : Int32) : alI (hX 1 h b F A) (b + 4) j = rdA 14 (A 4) j := alI_hX j (by decide) (by decide) rfl
theorem w1_4 {h : jHp} {b : Nat} {F : Nat → Value} {A : Nat → Nat → Int32} {t : Nat} (x : Int32) (ht : t < 14) : asI (hX 1 h b F A) (b + 4) (nI t) x = some (hX 1 h b F (updA A 4 (upd (A 4) t x))) := asI_hX x (by decide) (by decide) rfl (by decide) ht
theorem n1_4 {h : jHp} {b : Nat} {F : Nat → Value} {A : Nat → Nat → Int32} : alen (hX 1 h b F A) (b + 4) = some (nI 14) := alen_hX (by decide) (by decide) rfl
theorem x1_5 {h : jHp} {b : Nat} {F : Nat → Value} {A : Nat → Nat → Int32} : gA (hX 1 h b F A) b 1 5 = some (b + 5) := gR_hX rfl (by decide)
theorem r1_5 {h : jHp} {b : Nat} {F : Nat → Value} {A : Nat → Nat → Int32} (j : Int32) : alI (hX 1 h b F A) (b + 5) j = rdA 14 (A 5) j := alI_hX j (by decide) (by decide) rfl
theorem w1_5 {h : jHp} {b : Nat} {F : Nat → Value} {A : Nat → Nat → Int32} {t : Nat} (x : Int32) (ht : t < 14) : asI (hX 1 h b F A) (b + 5) (nI t) x = some (hX 1 h b F (updA A 5 (upd (A 5) t x))) := asI_hX x (by decide) (by decide) rfl (by decide) ht
theorem n1_5 {h : jHp} {b : Nat} {F : Nat → Value} {A : Nat → Nat → Int32} : alen (hX 1 h b F A) (b + 5) = some (nI 14) := alen_hX (by decide) (by decide) rfl
theorem x1_6 {h : jHp} {b : Nat} {F : Nat → Value} {A : Nat → Nat → Int32} : gA (hX 1 h b F A) b 1 6 = some (b + 6) := gR_hX rfl (by decide)
theorem r1_6 {h : jHp} {b : Nat} {F : Nat → Value} {A : Nat → Nat → Int32} (j : Int32) : alI (hX 1 h b F A) (b + 6) j = rdA 14 (A 6) j := alI_hX j (by decide) (by decide) rfl
theorem w1_6 {h : jHp} {b : Nat} {F : Nat → Value} {A : Nat → Nat → Int32} {t : Nat} (x : Int32) (ht : t < 14) : asI (hX 1 h b F A) (b + 6) (nI t) x = some (hX 1 h b F (updA A 6 (upd (A 6) t x))) := asI_hX x (by decide) (by decide) rfl (by decide) ht
theorem n1_6 {h : jHp} {b : Nat} {F : Nat → Value} {A : Nat → Nat → Int32} : alen (hX 1 h b F A) (b + 6) = some (nI 14) := alen_hX (by decide) (by decide) rfl
theorem x1_7 {h : jHp} {b : Nat} {F : Nat → Value} {A : Nat → Nat → Int32} : gA (hX 1 h b F A) b 1 7 = some (b + 7) := gR_hX rfl (by decide)
theorem r1_7 {h : jHp} {b : Nat} {F : Nat → Value} {A : Nat → Nat → Int32} (j : Int32) : alI (hX 1 h b F A) (b + 7) j = rdA 7 (A 7) j := alI_hX j (by decide) (by decide) rfl
theorem w1_7 {h : jHp} {b : Nat} {F : Nat → Value} {A : Nat → Nat → Int32} {t : Nat} (x : Int32) (ht : t < 7) : asI (hX 1 h b F A) (b + 7) (nI t) x = some (hX 1 h b F (updA A 7 (upd (A 7) t x))) := asI_hX x (by decide) (by decide) rfl (by decide) ht
theorem n1_7 {h : jHp} {b : Nat} {F : Nat → Value} {A : Nat → Nat → Int32} : alen (hX 1 h b F A) (b + 7) = some (nI 7) := alen_hX (by decide) (by decide) rfl
theorem x1_8 {h : jHp} {b : Nat} {F : Nat → Value} {A : Nat → Nat → Int32} : gA (hX 1 h b F A) b 1 8 = some (b + 8) := gR_hX rfl (by decide)
theorem r1_8 {h : jHp} {b : Nat} {F : Nat → Value} {A : Nat → Nat → Int32} (j : Int32) : alI (hX 1 h b F A) (b + 8) j = rdA 7 (A 8) j := alI_hX j (by decide) (by decide) rfl
theorem w1_8 {h : jHp} {b : Nat} {F : Nat → Value} {A : Nat → Nat → Int32} {t : Nat} (x : Int32) (ht : t < 7) : asI (hX 1 h b F A) (b + 8) (nI t) x = some (hX 1 h b F (updA A 8 (upd (A 8) t x))) := asI_hX x (by decide) (by decide) rfl (by decide) ht
theorem n1_8 {h : jHp} {b : Nat} {F : Nat → Value} {A : Nat → Nat → Int32} : alen (hX 1 h b F A) (b + 8) = some (nI 7) := alen_hX (by decide) (by decide) rfl
theorem x2_0 {h : jHp} {b : Nat} {F : Nat → Value} {A : Nat → Nat → Int32} : gI (hX 2 h b F A) b 2 0 = vI (F 0) := gI_hX rfl
theorem p2_0 {h : jHp} {b : Nat} {F : Nat → Value} {A : Nat → Nat → Int32} (v : Value) : pF (hX 2 h b F A) b 2 0 v = some (hX 2 h b (updV F 0 v) A) := pF_hX v rfl
theorem x2_1 {h : jHp} {b : Nat} {F : Nat → Value} {A : Nat → Nat → Int32} : gI (hX 2 h b F A) b 2 1 = vI (F 1) := gI_hX rfl
theorem p2_1 {h : jHp} {b : Nat} {F : Nat → Value} {A : Nat → Nat → Int32} (v : Value) : pF (hX 2 h b F A) b 2 1 v = some (hX 2 h b (updV F 1 v) A) := pF_hX v rfl
theorem x2_2 {h : jHp} {b : Nat} {F : Nat → Value} {A : Nat → Nat → Int32} : gA (hX 2 h b F A) b 2 2 = vA (F 2) := gA_hX rfl
theorem p2_2 {h : jHp} {b : Nat} {F : Nat → Value} {A : Nat → Nat → Int32} (v : Value) : pF (hX 2 h b F A) b 2 2 v = some (hX 2 h b (updV F 2 v) A) := pF_hX v rfl
theorem x2_3 {h : jHp} {b : Nat} {F : Nat → Value} {A : Nat → Nat → Int32} : gI (hX 2 h b F A) b 2 3 = vI (F 3) := gI_hX rfl
theorem p2_3 {h : jHp} {b : Nat} {F : Nat → Value} {A : Nat → Nat → Int32} (v : Value) : pF (hX 2 h b F A) b 2 3 v = some (hX 2 h b (updV F 3 v) A) := pF_hX v rfl
theorem x2_4 {h : jHp} {b : Nat} {F : Nat → Value} {A : Nat → Nat → Int32} : gI (hX 2 h b F A) b 2 4 = vI (F 4) := gI_hX rfl
theorem p2_4 {h : jHp} {b : Nat} {F : Nat → Value} {A : Nat → Nat → Int32} (v : Value) : pF (hX 2 h b F A) b 2 4 v = some (hX 2 h b (updV F 4 v) A) := pF_hX v rfl
theorem x2_5 {h : jHp} {b : Nat} {F : Nat → Value} {A : Nat → Nat → Int32} : gA (hX 2 h b F A) b 2 5 = some (b + 1) := gR_hX rfl (by decide)
theorem r2_1 {h : jHp} {b : Nat} {F : Nat → Value} {A : Nat → Nat → Int32} (j : Int32) : alI (hX 2 h b F A) (b + 1) j = rdA 24 (A 1) j := alI_hX j (by decide) (by decide) rfl
theorem w2_1 {h : jHp} {b : Nat} {F : Nat → Value} {A : Nat → Nat → Int32} {t : Nat} (x : Int32) (ht : t < 24) : asI (hX 2 h b F A) (b + 1) (nI t) x = some (hX 2 h b F (updA A 1 (upd (A 1) t x))) := asI_hX x (by decide) (by decide) rfl (by decide) ht
theorem n2_1 {h : jHp} {b : Nat} {F : Nat → Value} {A : Nat → Nat → Int32} : alen (hX 2 h b F A) (b + 1) = some (nI 24) := alen_hX (by decide) (by decide) rfl
theorem x2_6 {h : jHp} {b : Nat} {F : Nat → Value} {A : Nat → Nat → Int32} : gA (hX 2 h b F A) b 2 6 = vA (F 6) := gA_hX rfl
theorem p2_6 {h : jHp} {b : Nat} {F : Nat → Value} {A : Nat → Nat → Int32} (v : Value) : pF (hX 2 h b F A) b 2 6 v = some (hX 2 h b (updV F 6 v) A) := pF_hX v rfl
theorem x3_0 {h : jHp} {b : Nat} {F : Nat → Value} {A : Nat → Nat → Int32} : gA (hX 3 h b F A) b 3 0 = vA (F 0) := gA_hX rfl
theorem p3_0 {h : jHp} {b : Nat} {F : Nat → Value} {A : Nat → Nat → Int32} (v : Value) : pF (hX 3 h b F A) b 3 0 v = some (hX 3 h b (updV F 0 v) A) := pF_hX v rfl
theorem x3_1 {h : jHp} {b : Nat} {F : Nat → Value} {A : Nat → Nat → Int32} : gI (hX 3 h b F A) b 3 1 = vI (F 1) := gI_hX rfl
theorem p3_1 {h : jHp} {b : Nat} {F : Nat → Value} {A : Nat → Nat → Int32} (v : Value) : pF (hX 3 h b F A) b 3 1 v = some (hX 3 h b (updV F 1 v) A) := pF_hX v rfl
theorem x3_2 {h : jHp} {b : Nat} {F : Nat → Value} {A : Nat → Nat → Int32} : gI (hX 3 h b F A) b 3 2 = vI (F 2) := gI_hX rfl
theorem p3_2 {h : jHp} {b : Nat} {F : Nat → Value} {A : Nat → Nat → Int32} (v : Value) : pF (hX 3 h b F A) b 3 2 v = some (hX 3 h b (updV F 2 v) A) := pF_hX v rfl
theorem x3_3 {h : jHp} {b : Nat} {F : Nat → Value} {A : Nat → Nat → Int32} : gA (hX 3 h b F A) b 3 3 = vA (F 3) := gA_hX rfl
theorem p3_3 {h : jHp} {b : Nat} {F : Nat → Value} {A : Nat → Nat → Int32} (v : Value) : pF (hX 3 h b F A) b 3 3 v = some (hX 3 h b (updV F 3 v) A) := pF_hX v rfl
theorem x3_4 {h : jHp} {b : Nat} {F : Nat → Value} {A : Nat → Nat → Int32} : gI (hX 3 h b F A) b 3 4 = vI (F 4) := gI_hX rfl
theorem p3_4 {h : jHp} {b : Nat} {F : Nat → Value} {A : Nat → Nat → Int32} (v : Value) : pF (hX 3 h b F A) b 3 4 v = some (hX 3 h b (updV F 4 v) A) := pF_hX v rfl
theorem x4_0 {h : jHp} {b : Nat} {F : Nat → Value} {A : Nat → Nat → Int32} : gI (hX 4 h b F A) b 4 0 = vI (F 0) := gI_hX rfl
theorem p4_0 {h : jHp} {b : Nat} {F : Nat → Value} {A : Nat → Nat → Int32} (v : Value) : pF (hX 4 h b F A) b 4 0 v = some (hX 4 h b (updV F 0 v) A) := pF_hX v rfl
theorem x4_1 {h : jHp} {b : Nat} {F : Nat → Value} {A : Nat → Nat → Int32} : gI (hX 4 h b F A) b 4 1 = vI (F 1) := gI_hX rfl
theorem p4_1 {h : jHp} {b : Nat} {F : Nat → Value} {A : Nat → Nat → Int32} (v : Value) : pF (hX 4 h b F A) b 4 1 v = some (hX 4 h b (updV F 1 v) A) := pF_hX v rfl
theorem x4_2 {h : jHp} {b : Nat} {F : Nat → Value} {A : Nat → Nat → Int32} : gI (hX 4 h b F A) b 4 2 = vI (F 2) := gI_hX rfl
theorem p4_2 {h : jHp} {b : Nat} {F : Nat → Value} {A : Nat → Nat → Int32} (v : Value) : pF (hX 4 h b F A) b 4 2 v = some (hX 4 h b (updV F 2 v) A) := pF_hX v rfl
theorem x4_3 {h : jHp} {b : Nat} {F : Nat → Value} {A : Nat → Nat → Int32} : gI (hX 4 h b F A) b 4 3 = vI (F 3) := gI_hX rfl
theorem p4_3 {h : jHp} {b : Nat} {F : Nat → Value} {A : Nat → Nat → Int32} (v : Value) : pF (hX 4 h b F A) b 4 3 v = some (hX 4 h b (updV F 3 v) A) := pF_hX v rfl
theorem x4_4 {h : jHp} {b : Nat} {F : Nat → Value} {A : Nat → Nat → Int32} : gI (hX 4 h b F A) b 4 4 = vI (F 4) := gI_hX rfl
theorem p4_4 {h : jHp} {b : Nat} {F : Nat → Value} {A : Nat → Nat → Int32} (v : Value) : pF (hX 4 h b F A) b 4 4 v = some (hX 4 h b (updV F 4 v) A) := pF_hX v rfl
theorem x4_5 {h : jHp} {b : Nat} {F : Nat → Value} {A : Nat → Nat → Int32} : gA (hX 4 h b F A) b 4 5 = some (b + 1) := gR_hX rfl (by decide)
theorem r4_1 {h : jHp} {b : Nat} {F : Nat → Value} {A : Nat → Nat → Int32} (j : Int32) : alI (hX 4 h b F A) (b + 1) j = rdA 6 (A 1) j := alI_hX j (by decide) (by decide) rfl
theorem w4_1 {h : jHp} {b : Nat} {F : Nat → Value} {A : Nat → Nat → Int32} {t : Nat} (x : Int32) (ht : t < 6) : asI (hX 4 h b F A) (b + 1) (nI t) x = some (hX 4 h b F (updA A 1 (upd (A 1) t x))) := asI_hX x (by decide) (by decide) rfl (by decide) ht
theorem n4_1 {h : jHp} {b : Nat} {F : Nat → Value} {A : Nat → Nat → Int32} : alen (hX 4 h b F A) (b + 1) = some (nI 6) := alen_hX (by decide) (by decide) rfl
theorem x4_6 {h : jHp} {b : Nat} {F : Nat → Value} {A : Nat → Nat → Int32} : gA (hX 4 h b F A) b 4 6 = some (b + 2) := gR_hX rfl (by decide)
theorem r4_2 {h : jHp} {b : Nat} {F : Nat → Value} {A : Nat → Nat → Int32} (j : Int32) : alI (hX 4 h b F A) (b + 2) j = rdA 6 (A 2) j := alI_hX j (by decide) (by decide) rfl
theorem w4_2 {h : jHp} {b : Nat} {F : Nat → Value} {A : Nat → Nat → Int32} {t : Nat} (x : Int32) (ht : t < 6) : asI (hX 4 h b F A) (b + 2) (nI t) x = some (hX 4 h b F (updA A 2 (upd (A 2) t x))) := asI_hX x (by decide) (by decide) rfl (by decide) ht
theorem n4_2 {h : jHp} {b : Nat} {F : Nat → Value} {A : Nat → Nat → Int32} : alen (hX 4 h b F A) (b + 2) = some (nI 6) := alen_hX (by decide) (by decide) rfl
theorem x4_7 {h : jHp} {b : Nat} {F : Nat → Value} {A : Nat → Nat → Int32} : gA (hX 4 h b F A) b 4 7 = some (b + 3) := gR_hX rfl (by decide)
theorem r4_3 {h : jHp} {b : Nat} {F : Nat → Value} {A : Nat → Nat → Int32} (j : Int32) : alI (hX 4 h b F A) (b + 3) j = rdA 16 (A 3) j := alI_hX j (by decide) (by decide) rfl
theorem w4_3 {h : jHp} {b : Nat} {F : Nat → Value} {A : Nat → Nat → Int32} {t : Nat} (x : Int32) (ht : t < 16) : asI (hX 4 h b F A) (b + 3) (nI t) x = some (hX 4 h b F (updA A 3 (upd (A 3) t x))) := asI_hX x (by decide) (by decide) rfl (by decide) ht
theorem n4_3 {h : jHp} {b : Nat} {F : Nat → Value} {A : Nat → Nat → Int32} : alen (hX 4 h b F A) (b + 3) = some (nI 16) := alen_hX (by decide) (by decide) rfl
theorem x4_8 {h : jHp} {b : Nat} {F : Nat → Value} {A : Nat → Nat → Int32} : gA (hX 4 h b F A) b 4 8 = some (b + 4) := gR_hX rfl (by decide)
theorem r4_4 {h : jHp} {b : Nat} {F : Nat → Value} {A : Nat → Nat → Int32} (j : Int32) : alI (hX 4 h b F A) (b + 4) j = rdA 12 (A 4) j := alI_hX j (by decide) (by decide) rfl
theorem w4_4 {h : jHp} {b : Nat} {F : Nat → Value} {A : Nat → Nat → Int32} {t : Nat} (x : Int32) (ht : t < 12) : asI (hX 4 h b F A) (b + 4) (nI t) x = some (hX 4 h b F (updA A 4 (upd (A 4) t x))) := asI_hX x (by decide) (by decide) rfl (by decide) ht
theorem n4_4 {h : jHp} {b : Nat} {F : Nat → Value} {A : Nat → Nat → Int32} : alen (hX 4 h b F A) (b + 4) = some (nI 12) := alen_hX (by decide) (by decide) rfl
theorem x5_0 {h : jHp} {b : Nat} {F : Nat → Value} {A : Nat → Nat → Int32} : gJ (hX 5 h b F A) b 5 0 = vJ (F 0) := gJ_hX rfl
theorem p5_0 {h : jHp} {b : Nat} {F : Nat → Value} {A : Nat → Nat → Int32} (v : Value) : pF (hX 5 h b F A) b 5 0 v = some (hX 5 h b (updV F 0 v) A) := pF_hX v rfl
theorem x5_1 {h : jHp} {b : Nat} {F : Nat → Value} {A : Nat → Nat → Int32} : gJ (hX 5 h b F A) b 5 1 = vJ (F 1) := gJ_hX rfl
theorem p5_1 {h : jHp} {b : Nat} {F : Nat → Value} {A : Nat → Nat → Int32} (v : Value) : pF (hX 5 h b F A) b 5 1 v = some (hX 5 h b (updV F 1 v) A) := pF_hX v rfl
theorem x6_0 {h : jHp} {b : Nat} {F : Nat → Value} {A : Nat → Nat → Int32} : gA (hX 6 h b F A) b 6 0 = some (b + 1) := gR_hX rfl (by decide)
theorem r6_1 {h : jHp} {b : Nat} {F : Nat → Value} {A : Nat → Nat → Int32} (j : Int32) : alI (hX 6 h b F A) (b + 1) j = rdA 120 (A 1) j := alI_hX j (by decide) (by decide) rfl
theorem w6_1 {h : jHp} {b : Nat} {F : Nat → Value} {A : Nat → Nat → Int32} {t : Nat} (x : Int32) (ht : t < 120) : asI (hX 6 h b F A) (b + 1) (nI t) x = some (hX 6 h b F (updA A 1 (upd (A 1) t x))) := asI_hX x (by decide) (by decide) rfl (by decide) ht
theorem n6_1 {h : jHp} {b : Nat} {F : Nat → Value} {A : Nat → Nat → Int32} : alen (hX 6 h b F A) (b + 1) = some (nI 120) := alen_hX (by decide) (by decide) rfl
theorem x6_1 {h : jHp} {b : Nat} {F : Nat → Value} {A : Nat → Nat → Int32} : gI (hX 6 h b F A) b 6 1 = vI (F 1) := gI_hX rfl
theorem p6_1 {h : jHp} {b : Nat} {F : Nat → Value} {A : Nat → Nat → Int32} (v : Value) : pF (hX 6 h b F A) b 6 1 v = some (hX 6 h b (updV F 1 v) A) := pF_hX v rfl
theorem x6_2 {h : jHp} {b : Nat} {F : Nat → Value} {A : Nat → Nat → Int32} : gI (hX 6 h b F A) b 6 2 = vI (F 2) := gI_hX rfl
theorem p6_2 {h : jHp} {b : Nat} {F : Nat → Value} {A : Nat → Nat → Int32} (v : Value) : pF (hX 6 h b F A) b 6 2 v = some (hX 6 h b (updV F 2 v) A) := pF_hX v rfl
theorem x8_0 {h : jHp} {b : Nat} {F : Nat → Value} {A : Nat → Nat → Int32} : gI (hX 8 h b F A) b 8 0 = vI (F 0) := gI_hX rfl
theorem p8_0 {h : jHp} {b : Nat} {F : Nat → Value} {A : Nat → Nat → Int32} (v : Value) : pF (hX 8 h b F A) b 8 0 v = some (hX 8 h b (updV F 0 v) A) := pF_hX v rfl
theorem x8_1 {h : jHp} {b : Nat} {F : Nat → Value} {A : Nat → Nat → Int32} : gI (hX 8 h b F A) b 8 1 = vI (F 1) := gI_hX rfl
theorem p8_1 {h : jHp} {b : Nat} {F : Nat → Value} {A : Nat → Nat → Int32} (v : Value) : pF (hX 8 h b F A) b 8 1 v = some (hX 8 h b (updV F 1 v) A) := pF_hX v rfl
theorem x8_2 {h : jHp} {b : Nat} {F : Nat → Value} {A : Nat → Nat → Int32} : gA (hX 8 h b F A) b 8 2 = some (b + 1) := gR_hX rfl (by decide)
theorem r8_1 {h : jHp} {b : Nat} {F : Nat → Value} {A : Nat → Nat → Int32} (j : Int32) : alI (hX 8 h b F A) (b + 1) j = rdA 3 (A 1) j := alI_hX j (by decide) (by decide) rfl
theorem w8_1 {h : jHp} {b : Nat} {F : Nat → Value} {A : Nat → Nat → Int32} {t : Nat} (x : Int32) (ht : t < 3) : asI (hX 8 h b F A) (b + 1) (nI t) x = some (hX 8 h b F (updA A 1 (upd (A 1) t x))) := asI_hX x (by decide) (by decide) rfl (by decide) ht
theorem n8_1 {h : jHp} {b : Nat} {F : Nat → Value} {A : Nat → Nat → Int32} : alen (hX 8 h b F A) (b + 1) = some (nI 3) := alen_hX (by decide) (by decide) rfl
theorem x8_3 {h : jHp} {b : Nat} {F : Nat → Value} {A : Nat → Nat → Int32} : gA (hX 8 h b F A) b 8 3 = some (b + 2) := gR_hX rfl (by decide)
theorem r8_2 {h : jHp} {b : Nat} {F : Nat → Value} {A : Nat → Nat → Int32} (j : Int32) : alI (hX 8 h b F A) (b + 2) j = rdA 3 (A 2) j := alI_hX j (by decide) (by decide) rfl
theorem w8_2 {h : jHp} {b : Nat} {F : Nat → Value} {A : Nat → Nat → Int32} {t : Nat} (x : Int32) (ht : t < 3) : asI (hX 8 h b F A) (b + 2) (nI t) x = some (hX 8 h b F (updA A 2 (upd (A 2) t x))) := asI_hX x (by decide) (by decide) rfl (by decide) ht
theorem n8_2 {h : jHp} {b : Nat} {F : Nat → Value} {A : Nat → Nat → Int32} : alen (hX 8 h b F A) (b + 2) = some (nI 3) := alen_hX (by decide) (by decide) rfl
theorem x8_4 {h : jHp} {b : Nat} {F : Nat → Value} {A : Nat → Nat → Int32} : gA (hX 8 h b F A) b 8 4 = some (b + 3) := gR_hX rfl (by decide)
theorem r8_3 {h : jHp} {b : Nat} {F : Nat → Value} {A : Nat → Nat → Int32} (j : Int32) : alI (hX 8 h b F A) (b + 3) j = rdA 3 (A 3) j := alI_hX j (by decide) (by decide) rfl
theorem w8_3 {h : jHp} {b : Nat} {F : Nat → Value} {A : Nat → Nat → Int32} {t : Nat} (x : Int32) (ht : t < 3) : asI (hX 8 h b F A) (b + 3) (nI t) x = some (hX 8 h b F (updA A 3 (upd (A 3) t x))) := asI_hX x (by decide) (by decide) rfl (by decide) ht
theorem n8_3 {h : jHp} {b : Nat} {F : Nat → Value} {A : Nat → Nat → Int32} : alen (hX 8 h b F A) (b + 3) = some (nI 3) := alen_hX (by decide) (by decide) rfl
theorem x8_5 {h : jHp} {b : Nat} {F : Nat → Value} {A : Nat → Nat → Int32} : gA (hX 8 h b F A) b 8 5 = some (b + 4) := gR_hX rfl (by decide)
theorem r8_4 {h : jHp} {b : Nat} {F : Nat → Value} {A : Nat → Nat → Int32} (j : Int32) : alI (hX 8 h b F A) (b + 4) j = rdA 18 (A 4) j := alI_hX j (by decide) (by decide) rfl
theorem w8_4 {h : jHp} {b : Nat} {F : Nat → Value} {A : Nat → Nat → Int32} {t : Nat} (x : Int32) (ht : t < 18) : asI (hX 8 h b F A) (b + 4) (nI t) x = some (hX 8 h b F (updA A 4 (upd (A 4) t x))) := asI_hX x (by decide) (by decide) rfl (by decide) ht
theorem n8_4 {h : jHp} {b : Nat} {F : Nat → Value} {A : Nat → Nat → Int32} : alen (hX 8 h b F A) (b + 4) = some (nI 18) := alen_hX (by decide) (by decide) rfl
theorem x8_6 {h : jHp} {b : Nat} {F : Nat → Value} {A : Nat → Nat → Int32} : gA (hX 8 h b F A) b 8 6 = some (b + 5) := gR_hX rfl (by decide)
theorem r8_5 {h : jHp} {b : Nat} {F : Nat → Value} {A : Nat → Nat → Int32} (j : Int32) : alI (hX 8 h b F A) (b + 5) j = rdA 18 (A 5) j := alI_hX j (by decide) (by decide) rfl
theorem w8_5 {h : jHp} {b : Nat} {F : Nat → Value} {A : Nat → Nat → Int32} {t : Nat} (x : Int32) (ht : t < 18) : asI (hX 8 h b F A) (b + 5) (nI t) x = some (hX 8 h b F (updA A 5 (upd (A 5) t x))) := asI_hX x (by decide) (by decide) rfl (by decide) ht
theorem n8_5 {h : jHp} {b : Nat} {F : Nat → Value} {A : Nat → Nat → Int32} : alen (hX 8 h b F A) (b + 5) = some (nI 18) := alen_hX (by decide) (by decide) rfl
theorem x8_7 {h : jHp} {b : Nat} {F : Nat → Value} {A : Nat → Nat → Int32} : gA (hX 8 h b F A) b 8 7 = some (b + 6) := gR_hX rfl (by decide)
theorem r8_6 {h : jHp} {b : Nat} {F : Nat → Value} {A : Nat → Nat → Int32} (j : Int32) : alI (hX 8 h b F A) (b + 6) j = rdA 48 (A 6) j := alI_hX j (by decide) (by decide) rfl
theorem w8_6 {h : jHp} {b : Nat} {F : Nat → Value} {A : Nat → Nat → Int32} {t : Nat} (x : Int32) (ht : t < 48) : asI (hX 8 h b F A) (b + 6) (nI t) x = some (hX 8 h b F (updA A 6 (upd (A 6) t x))) := asI_hX x (by decide) (by decide) rfl (by decide) ht
theorem n8_6 {h : jHp} {b : Nat} {F : Nat → Value} {A : Nat → Nat → Int32} : alen (hX 8 h b F A) (b + 6) = some (nI 48) := alen_hX (by decide) (by decide) rfl
theorem x8_8 {h : jHp} {b : Nat} {F : Nat → Value} {A : Nat → Nat → Int32} : gA (hX 8 h b F A) b 8 8 = some (b + 7) := gR_hX rfl (by decide)
theorem r8_7 {h : jHp} {b : Nat} {F : Nat → Value} {A : Nat → Nat → Int32} (j : Int32) : alI (hX 8 h b F A) (b + 7) j = rdA 36 (A 7) j := alI_hX j (by decide) (by decide) rfl
theorem w8_7 {h : jHp} {b : Nat} {F : Nat → Value} {A : Nat → Nat → Int32} {t : Nat} (x : Int32) (ht : t < 36) : asI (hX 8 h b F A) (b + 7) (nI t) x = some (hX 8 h b F (updA A 7 (upd (A 7) t x))) := asI_hX x (by decide) (by decide) rfl (by decide) ht
theorem n8_7 {h : jHp} {b : Nat} {F : Nat → Value} {A : Nat → Nat → Int32} : alen (hX 8 h b F A) (b + 7) = some (nI 36) := alen_hX (by decide) (by decide) rfl
theorem x8_9 {h : jHp} {b : Nat} {F : Nat → Value} {A : Nat → Nat → Int32} : gA (hX 8 h b F A) b 8 9 = some (b + 8) := gR_hX rfl (by decide)
theorem r8_8 {h : jHp} {b : Nat} {F : Nat → Value} {A : Nat → Nat → Int32} (j : Int32) : alI (hX 8 h b F A) (b + 8) j = rdA 3 (A 8) j := alI_hX j (by decide) (by decide) rfl
theorem w8_8 {h : jHp} {b : Nat} {F : Nat → Value} {A : Nat → Nat → Int32} {t : Nat} (x : Int32) (ht : t < 3) : asI (hX 8 h b F A) (b + 8) (nI t) x = some (hX 8 h b F (updA A 8 (upd (A 8) t x))) := asI_hX x (by decide) (by decide) rfl (by decide) ht
theorem n8_8 {h : jHp} {b : Nat} {F : Nat → Value} {A : Nat → Nat → Int32} : alen (hX 8 h b F A) (b + 8) = some (nI 3) := alen_hX (by decide) (by decide) rfl
theorem x8_10 {h : jHp} {b : Nat} {F : Nat → Value} {A : Nat → Nat → Int32} : gA (hX 8 h b F A) b 8 10 = some (b + 9) := gR_hX rfl (by decide)
theorem r8_9 {h : jHp} {b : Nat} {F : Nat → Value} {A : Nat → Nat → Int32} (j : Int32) : alI (hX 8 h b F A) (b + 9) j = rdA 3 (A 9) j := alI_hX j (by decide) (by decide) rfl
theorem w8_9 {h : jHp} {b : Nat} {F : Nat → Value} {A : Nat → Nat → Int32} {t : Nat} (x : Int32) (ht : t < 3) : asI (hX 8 h b F A) (b + 9) (nI t) x = some (hX 8 h b F (updA A 9 (upd (A 9) t x))) := asI_hX x (by decide) (by decide) rfl (by decide) ht
theorem n8_9 {h : jHp} {b : Nat} {F : Nat → Value} {A : Nat → Nat → Int32} : alen (hX 8 h b F A) (b + 9) = some (nI 3) := alen_hX (by decide) (by decide) rfl
theorem x8_11 {h : jHp} {b : Nat} {F : Nat → Value} {A : Nat → Nat → Int32} : gI (hX 8 h b F A) b 8 11 = vI (F 11) := gI_hX rfl
theorem p8_11 {h : jHp} {b : Nat} {F : Nat → Value} {A : Nat → Nat → Int32} (v : Value) : pF (hX 8 h b F A) b 8 11 v = some (hX 8 h b (updV F 11 v) A) := pF_hX v rfl
theorem x8_12 {h : jHp} {b : Nat} {F : Nat → Value} {A : Nat → Nat → Int32} : gI (hX 8 h b F A) b 8 12 = vI (F 12) := gI_hX rfl
theorem p8_12 {h : jHp} {b : Nat} {F : Nat → Value} {A : Nat → Nat → Int32} (v : Value) : pF (hX 8 h b F A) b 8 12 v = some (hX 8 h b (updV F 12 v) A) := pF_hX v rfl
theorem x8_13 {h : jHp} {b : Nat} {F : Nat → Value} {A : Nat → Nat → Int32} : gI (hX 8 h b F A) b 8 13 = vI (F 13) := gI_hX rfl
theorem p8_13 {h : jHp} {b : Nat} {F : Nat → Value} {A : Nat → Nat → Int32} (v : Value) : pF (hX 8 h b F A) b 8 13 v = some (hX 8 h b (updV F 13 v) A) := pF_hX v rfl
theorem x8_14 {h : jHp} {b : Nat} {F : Nat → Value} {A : Nat → Nat → Int32} : gI (hX 8 h b F A) b 8 14 = vI (F 14) := gI_hX rfl
theorem p8_14 {h : jHp} {b : Nat} {F : Nat → Value} {A : Nat → Nat → Int32} (v : Value) : pF (hX 8 h b F A) b 8 14 v = some (hX 8 h b (updV F 14 v) A) := pF_hX v rfl
theorem x8_15 {h : jHp} {b : Nat} {F : Nat → Value} {A : Nat → Nat → Int32} : gI (hX 8 h b F A) b 8 15 = vI (F 15) := gI_hX rfl
theorem p8_15 {h : jHp} {b : Nat} {F : Nat → Value} {A : Nat → Nat → Int32} (v : Value) : pF (hX 8 h b F A) b 8 15 v = some (hX 8 h b (updV F 15 v) A) := pF_hX v rfl
theorem x8_16 {h : jHp} {b : Nat} {F : Nat → Value} {A : Nat → Nat → Int32} : gA (hX 8 h b F A) b 8 16 = some (b + 10) := gR_hX rfl (by decide)
theorem r8_10 {h : jHp} {b : Nat} {F : Nat → Value} {A : Nat → Nat → Int32} (j : Int32) : alI (hX 8 h b F A) (b + 10) j = rdA 6 (A 10) j := alI_hX j (by decide) (by decide) rfl
theorem w8_10 {h : jHp} {b : Nat} {F : Nat → Value} {A : Nat → Nat → Int32} {t : Nat} (x : Int32) (ht : t < 6) : asI (hX 8 h b F A) (b + 10) (nI t) x = some (hX 8 h b F (updA A 10 (upd (A 10) t x))) := asI_hX x (by decide) (by decide) rfl (by decide) ht
theorem n8_10 {h : jHp} {b : Nat} {F : Nat → Value} {A : Nat → Nat → Int32} : alen (hX 8 h b F A) (b + 10) = some (nI 6) := alen_hX (by decide) (by decide) rfl
theorem x8_17 {h : jHp} {b : Nat} {F : Nat → Value} {A : Nat → Nat → Int32} : gA (hX 8 h b F A) b 8 17 = some (b + 11) := gR_hX rfl (by decide)
theorem r8_11 {h : jHp} {b : Nat} {F : Nat → Value} {A : Nat → Nat → Int32} (j : Int32) : alI (hX 8 h b F A) (b + 11) j = rdA 6 (A 11) j := alI_hX j (by decide) (by decide) rfl
theorem w8_11 {h : jHp} {b : Nat} {F : Nat → Value} {A : Nat → Nat → Int32} {t : Nat} (x : Int32) (ht : t < 6) : asI (hX 8 h b F A) (b + 11) (nI t) x = some (hX 8 h b F (updA A 11 (upd (A 11) t x))) := asI_hX x (by decide) (by decide) rfl (by decide) ht
theorem n8_11 {h : jHp} {b : Nat} {F : Nat → Value} {A : Nat → Nat → Int32} : alen (hX 8 h b F A) (b + 11) = some (nI 6) := alen_hX (by decide) (by decide) rfl
theorem x8_18 {h : jHp} {b : Nat} {F : Nat → Value} {A : Nat → Nat → Int32} : gA (hX 8 h b F A) b 8 18 = some (b + 12) := gR_hX rfl (by decide)
theorem r8_12 {h : jHp} {b : Nat} {F : Nat → Value} {A : Nat → Nat → Int32} (j : Int32) : alI (hX 8 h b F A) (b + 12) j = rdA 16 (A 12) j := alI_hX j (by decide) (by decide) rfl
theorem w8_12 {h : jHp} {b : Nat} {F : Nat → Value} {A : Nat → Nat → Int32} {t : Nat} (x : Int32) (ht : t < 16) : asI (hX 8 h b F A) (b + 12) (nI t) x = some (hX 8 h b F (updA A 12 (upd (A 12) t x))) := asI_hX x (by decide) (by decide) rfl (by decide) ht
theorem n8_12 {h : jHp} {b : Nat} {F : Nat → Value} {A : Nat → Nat → Int32} : alen (hX 8 h b F A) (b + 12) = some (nI 16) := alen_hX (by decide) (by decide) rfl
theorem x8_19 {h : jHp} {b : Nat} {F : Nat → Value} {A : Nat → Nat → Int32} : gA (hX 8 h b F A) b 8 19 = some (b + 13) := gR_hX rfl (by decide)
theorem r8_13 {h : jHp} {b : Nat} {F : Nat → Value} {A : Nat → Nat → Int32} (j : Int32) : alI (hX 8 h b F A) (b + 13) j = rdA 12 (A 13) j := alI_hX j (by decide) (by decide) rfl
theorem w8_13 {h : jHp} {b : Nat} {F : Nat → Value} {A : Nat → Nat → Int32} {t : Nat} (x : Int32) (ht : t < 12) : asI (hX 8 h b F A) (b + 13) (nI t) x = some (hX 8 h b F (updA A 13 (upd (A 13) t x))) := asI_hX x (by decide) (by decide) rfl (by decide) ht
theorem n8_13 {h : jHp} {b : Nat} {F : Nat → Value} {A : Nat → Nat → Int32} : alen (hX 8 h b F A) (b + 13) = some (nI 12) := alen_hX (by decide) (by decide) rfl
theorem x8_20 {h : jHp} {b : Nat} {F : Nat → Value} {A : Nat → Nat → Int32} : gI (hX 8 h b F A) b 8 20 = vI (F 20) := gI_hX rfl
theorem p8_20 {h : jHp} {b : Nat} {F : Nat → Value} {A : Nat → Nat → Int32} (v : Value) : pF (hX 8 h b F A) b 8 20 v = some (hX 8 h b (updV F 20 v) A) := pF_hX v rfl
theorem x8_21 {h : jHp} {b : Nat} {F : Nat → Value} {A : Nat → Nat → Int32} : gI (hX 8 h b F A) b 8 21 = vI (F 21) := gI_hX rfl
theorem p8_21 {h : jHp} {b : Nat} {F : Nat → Value} {A : Nat → Nat → Int32} (v : Value) : pF (hX 8 h b F A) b 8 21 v = some (hX 8 h b (updV F 21 v) A) := pF_hX v rfl
theorem x8_22 {h : jHp} {b : Nat} {F : Nat → Value} {A : Nat → Nat → Int32} : gA (hX 8 h b F A) b 8 22 = some (b + 14) := gR_hX rfl (by decide)
theorem r8_14 {h : jHp} {b : Nat} {F : Nat → Value} {A : Nat → Nat → Int32} (j : Int32) : alI (hX 8 h b F A) (b + 14) j = rdA 10 (A 14) j := alI_hX j (by decide) (by decide) rfl
theorem w8_14 {h : jHp} {b : Nat} {F : Nat → Value} {A : Nat → Nat → Int32} {t : Nat} (x : Int32) (ht : t < 10) : asI (hX 8 h b F A) (b + 14) (nI t) x = some (hX 8 h b F (updA A 14 (upd (A 14) t x))) := asI_hX x (by decide) (by decide) rfl (by decide) ht
theorem n8_14 {h : jHp} {b : Nat} {F : Nat → Value} {A : Nat → Nat → Int32} : alen (hX 8 h b F A) (b + 14) = some (nI 10) := alen_hX (by decide) (by decide) rfl
theorem x8_23 {h : jHp} {b : Nat} {F : Nat → Value} {A : Nat → Nat → Int32} : gA (hX 8 h b F A) b 8 23 = some (b + 15) := gR_hX rfl (by decide)
theorem r8_15 {h : jHp} {b : Nat} {F : Nat → Value} {A : Nat → Nat → Int32} (j : Int32) : alI (hX 8 h b F A) (b + 15) j = rdA 10 (A 15) j := alI_hX j (by decide) (by decide) rfl
theorem w8_15 {h : jHp} {b : Nat} {F : Nat → Value} {A : Nat → Nat → Int32} {t : Nat} (x : Int32) (ht : t < 10) : asI (hX 8 h b F A) (b + 15) (nI t) x = some (hX 8 h b F (updA A 15 (upd (A 15) t x))) := asI_hX x (by decide) (by decide) rfl (by decide) ht
theorem n8_15 {h : jHp} {b : Nat} {F : Nat → Value} {A : Nat → Nat → Int32} : alen (hX 8 h b F A) (b + 15) = some (nI 10) := alen_hX (by decide) (by decide) rfl
theorem x8_24 {h : jHp} {b : Nat} {F : Nat → Value} {A : Nat → Nat → Int32} : gA (hX 8 h b F A) b 8 24 = some (b + 16) := gR_hX rfl (by decide)
theorem r8_16 {h : jHp} {b : Nat} {F : Nat → Value} {A : Nat → Nat → Int32} (j : Int32) : alI (hX 8 h b F A) (b + 16) j = rdA 10 (A 16) j := alI_hX j (by decide) (by decide) rfl
theorem w8_16 {h : jHp} {b : Nat} {F : Nat → Value} {A : Nat → Nat → Int32} {t : Nat} (x : Int32) (ht : t < 10) : asI (hX 8 h b F A) (b + 16) (nI t) x = some (hX 8 h b F (updA A 16 (upd (A 16) t x))) := asI_hX x (by decide) (by decide) rfl (by decide) ht
theorem n8_16 {h : jHp} {b : Nat} {F : Nat → Value} {A : Nat → Nat → Int32} : alen (hX 8 h b F A) (b + 16) = some (nI 10) := alen_hX (by decide) (by decide) rfl
theorem x8_25 {h : jHp} {b : Nat} {F : Nat → Value} {A : Nat → Nat → Int32} : gA (hX 8 h b F A) b 8 25 = some (b + 17) := gR_hX rfl (by decide)
theorem r8_17 {h : jHp} {b : Nat} {F : Nat → Value} {A : Nat → Nat → Int32} (j : Int32) : alI (hX 8 h b F A) (b + 17) j = rdA 10 (A 17) j := alI_hX j (by decide) (by decide) rfl
theorem w8_17 {h : jHp} {b : Nat} {F : Nat → Value} {A : Nat → Nat → Int32} {t : Nat} (x : Int32) (ht : t < 10) : asI (hX 8 h b F A) (b + 17) (nI t) x = some (hX 8 h b F (updA A 17 (upd (A 17) t x))) := asI_hX x (by decide) (by decide) rfl (by decide) ht
theorem n8_17 {h : jHp} {b : Nat} {F : Nat → Value} {A : Nat → Nat → Int32} : alen (hX 8 h b F A) (b + 17) = some (nI 10) := alen_hX (by decide) (by decide) rfl
theorem x8_26 {h : jHp} {b : Nat} {F : Nat → Value} {A : Nat → Nat → Int32} : gA (hX 8 h b F A) b 8 26 = some (b + 18) := gR_hX rfl (by decide)
theorem r8_18 {h : jHp} {b : Nat} {F : Nat → Value} {A : Nat → Nat → Int32} (j : Int32) : alI (hX 8 h b F A) (b + 18) j = rdA 240 (A 18) j := alI_hX j (by decide) (by decide) rfl
theorem w8_18 {h : jHp} {b : Nat} {F : Nat → Value} {A : Nat → Nat → Int32} {t : Nat} (x : Int32) (ht : t < 240) : asI (hX 8 h b F A) (b + 18) (nI t) x = some (hX 8 h b F (updA A 18 (upd (A 18) t x))) := asI_hX x (by decide) (by decide) rfl (by decide) ht
theorem n8_18 {h : jHp} {b : Nat} {F : Nat → Value} {A : Nat → Nat → Int32} : alen (hX 8 h b F A) (b + 18) = some (nI 240) := alen_hX (by decide) (by decide) rfl
theorem x8_27 {h : jHp} {b : Nat} {F : Nat → Value} {A : Nat → Nat → Int32} : gA (hX 8 h b F A) b 8 27 = some (b + 19) := gR_hX rfl (by decide)
theorem r8_19 {h : jHp} {b : Nat} {F : Nat → Value} {A : Nat → Nat → Int32} (j : Int32) : alI (hX 8 h b F A) (b + 19) j = rdA 24 (A 19) j := alI_hX j (by decide) (by decide) rfl
theorem w8_19 {h : jHp} {b : Nat} {F : Nat → Value} {A : Nat → Nat → Int32} {t : Nat} (x : Int32) (ht : t < 24) : asI (hX 8 h b F A) (b + 19) (nI t) x = some (hX 8 h b F (updA A 19 (upd (A 19) t x))) := asI_hX x (by decide) (by decide) rfl (by decide) ht
theorem n8_19 {h : jHp} {b : Nat} {F : Nat → Value} {A : Nat → Nat → Int32} : alen (hX 8 h b F A) (b + 19) = some (nI 24) := alen_hX (by decide) (by decide) rfl
theorem x8_28 {h : jHp} {b : Nat} {F : Nat → Value} {A : Nat → Nat → Int32} : gA (hX 8 h b F A) b 8 28 = some (b + 20) := gR_hX rfl (by decide)
theorem r8_20 {h : jHp} {b : Nat} {F : Nat → Value} {A : Nat → Nat → Int32} (j : Int32) : alI (hX 8 h b F A) (b + 20) j = rdA 28 (A 20) j := alI_hX j (by decide) (by decide) rfl
theorem w8_20 {h : jHp} {b : Nat} {F : Nat → Value} {A : Nat → Nat → Int32} {t : Nat} (x : Int32) (ht : t < 28) : asI (hX 8 h b F A) (b + 20) (nI t) x = some (hX 8 h b F (updA A 20 (upd (A 20) t x))) := asI_hX x (by decide) (by decide) rfl (by decide) ht
theorem n8_20 {h : jHp} {b : Nat} {F : Nat → Value} {A : Nat → Nat → Int32} : alen (hX 8 h b F A) (b + 20) = some (nI 28) := alen_hX (by decide) (by decide) rfl
theorem x8_29 {h : jHp} {b : Nat} {F : Nat → Value} {A : Nat → Nat → Int32} : gA (hX 8 h b F A) b 8 29 = some (b + 21) := gR_hX rfl (by decide)
theorem r8_21 {h : jHp} {b : Nat} {F : Nat → Value} {A : Nat → Nat → Int32} (j : Int32) : alI (hX 8 h b F A) (b + 21) j = rdA 24 (A 21) j := alI_hX j (by decide) (by decide) rfl
theorem w8_21 {h : jHp} {b : Nat} {F : Nat → Value} {A : Nat → Nat → Int32} {t : Nat} (x : Int32) (ht : t < 24) : asI (hX 8 h b F A) (b + 21) (nI t) x = some (hX 8 h b F (updA A 21 (upd (A 21) t x))) := asI_hX x (by decide) (by decide) rfl (by decide) ht
theorem n8_21 {h : jHp} {b : Nat} {F : Nat → Value} {A : Nat → Nat → Int32} : alen (hX 8 h b F A) (b + 21) = some (nI 24) := alen_hX (by decide) (by decide) rfl
theorem x8_30 {h : jHp} {b : Nat} {F : Nat → Value} {A : Nat → Nat → Int32} : gA (hX 8 h b F A) b 8 30 = some (b + 22) := gR_hX rfl (by decide)
theorem r8_22 {h : jHp} {b : Nat} {F : Nat → Value} {A : Nat → Nat → Int32} (j : Int32) : alI (hX 8 h b F A) (b + 22) j = rdA 4 (A 22) j := alI_hX j (by decide) (by decide) rfl
theorem w8_22 {h : jHp} {b : Nat} {F : Nat → Value} {A : Nat → Nat → Int32} {t : Nat} (x : Int32) (ht : t < 4) : asI (hX 8 h b F A) (b + 22) (nI t) x = some (hX 8 h b F (updA A 22 (upd (A 22) t x))) := asI_hX x (by decide) (by decide) rfl (by decide) ht
theorem n8_22 {h : jHp} {b : Nat} {F : Nat → Value} {A : Nat → Nat → Int32} : alen (hX 8 h b F A) (b + 22) = some (nI 4) := alen_hX (by decide) (by decide) rfl
theorem x8_31 {h : jHp} {b : Nat} {F : Nat → Value} {A : Nat → Nat → Int32} : gA (hX 8 h b F A) b 8 31 = some (b + 23) := gR_hX rfl (by decide)
theorem r8_23 {h : jHp} {b : Nat} {F : Nat → Value} {A : Nat → Nat → Int32} (j : Int32) : alI (hX 8 h b F A) (b + 23) j = rdA 2 (A 23) j := alI_hX j (by decide) (by decide) rfl
theorem w8_23 {h : jHp} {b : Nat} {F : Nat → Value} {A : Nat → Nat → Int32} {t : Nat} (x : Int32) (ht : t < 2) : asI (hX 8 h b F A) (b + 23) (nI t) x = some (hX 8 h b F (updA A 23 (upd (A 23) t x))) := asI_hX x (by decide) (by decide) rfl (by decide) ht
theorem n8_23 {h : jHp} {b : Nat} {F : Nat → Value} {A : Nat → Nat → Int32} : alen (hX 8 h b F A) (b + 23) = some (nI 2) := alen_hX (by decide) (by decide) rfl
theorem x8_32 {h : jHp} {b : Nat} {F : Nat → Value} {A : Nat → Nat → Int32} : gA (hX 8 h b F A) b 8 32 = some (b + 24) := gR_hX rfl (by decide)
theorem r8_24 {h : jHp} {b : Nat} {F : Nat → Value} {A : Nat → Nat → Int32} (j : Int32) : alI (hX 8 h b F A) (b + 24) j = rdA 14 (A 24) j := alI_hX j (by decide) (by decide) rfl
theorem w8_24 {h : jHp} {b : Nat} {F : Nat → Value} {A : Nat → Nat → Int32} {t : Nat} (x : Int32) (ht : t < 14) : asI (hX 8 h b F A) (b + 24) (nI t) x = some (hX 8 h b F (updA A 24 (upd (A 24) t x))) := asI_hX x (by decide) (by decide) rfl (by decide) ht
theorem n8_24 {h : jHp} {b : Nat} {F : Nat → Value} {A : Nat → Nat → Int32} : alen (hX 8 h b F A) (b + 24) = some (nI 14) := alen_hX (by decide) (by decide) rfl
theorem x8_33 {h : jHp} {b : Nat} {F : Nat → Value} {A : Nat → Nat → Int32} : gA (hX 8 h b F A) b 8 33 = some (b + 25) := gR_hX rfl (by decide)
theorem r8_25 {h : jHp} {b : Nat} {F : Nat → Value} {A : Nat → Nat → Int32} (j : Int32) : alI (hX 8 h b F A) (b + 25) j = rdA 2 (A 25) j := alI_hX j (by decide) (by decide) rfl
theorem w8_25 {h : jHp} {b : Nat} {F : Nat → Value} {A : Nat → Nat → Int32} {t : Nat} (x : Int32) (ht : t < 2) : asI (hX 8 h b F A) (b + 25) (nI t) x = some (hX 8 h b F (updA A 25 (upd (A 25) t x))) := asI_hX x (by decide) (by decide) rfl (by decide) ht
theorem n8_25 {h : jHp} {b : Nat} {F : Nat → Value} {A : Nat → Nat → Int32} : alen (hX 8 h b F A) (b + 25) = some (nI 2) := alen_hX (by decide) (by decide) rfl
theorem x8_34 {h : jHp} {b : Nat} {F : Nat → Value} {A : Nat → Nat → Int32} : gA (hX 8 h b F A) b 8 34 = some (b + 26) := gR_hX rfl (by decide)
theorem r8_26 {h : jHp} {b : Nat} {F : Nat → Value} {A : Nat → Nat → Int32} (j : Int32) : alI (hX 8 h b F A) (b + 26) j = rdA 2 (A 26) j := alI_hX j (by decide) (by decide) rfl
theorem w8_26 {h : jHp} {b : Nat} {F : Nat → Value} {A : Nat → Nat → Int32} {t : Nat} (x : Int32) (ht : t < 2) : asI (hX 8 h b F A) (b + 26) (nI t) x = some (hX 8 h b F (updA A 26 (upd (A 26) t x))) := asI_hX x (by decide) (by decide) rfl (by decide) ht
theorem n8_26 {h : jHp} {b : Nat} {F : Nat → Value} {A : Nat → Nat → Int32} : alen (hX 8 h b F A) (b + 26) = some (nI 2) := alen_hX (by decide) (by decide) rfl
theorem x8_35 {h : jHp} {b : Nat} {F : Nat → Value} {A : Nat → Nat → Int32} : gI (hX 8 h b F A) b 8 35 = vI (F 35) := gI_hX rfl
theorem p8_35 {h : jHp} {b : Nat} {F : Nat → Value} {A : Nat → Nat → Int32} (v : Value) : pF (hX 8 h b F A) b 8 35 v = some (hX 8 h b (updV F 35 v) A) := pF_hX v rfl
theorem x8_36 {h : jHp} {b : Nat} {F : Nat → Value} {A : Nat → Nat → Int32} : gI (hX 8 h b F A) b 8 36 = vI (F 36) := gI_hX rfl
theorem p8_36 {h : jHp} {b : Nat} {F : Nat → Value} {A : Nat → Nat → Int32} (v : Value) : pF (hX 8 h b F A) b 8 36 v = some (hX 8 h b (updV F 36 v) A) := pF_hX v rfl
theorem x8_37 {h : jHp} {b : Nat} {F : Nat → Value} {A : Nat → Nat → Int32} : gI (hX 8 h b F A) b 8 37 = vI (F 37) := gI_hX rfl
theorem p8_37 {h : jHp} {b : Nat} {F : Nat → Value} {A : Nat → Nat → Int32} (v : Value) : pF (hX 8 h b F A) b 8 37 v = some (hX 8 h b (updV F 37 v) A) := pF_hX v rfl
theorem x8_38 {h : jHp} {b : Nat} {F : Nat → Value} {A : Nat → Nat → Int32} : gJ (hX 8 h b F A) b 8 38 = vJ (F 38) := gJ_hX rfl
theorem p8_38 {h : jHp} {b : Nat} {F : Nat → Value} {A : Nat → Nat → Int32} (v : Value) : pF (hX 8 h b F A) b 8 38 v = some (hX 8 h b (updV F 38 v) A) := pF_hX v rfl
theorem x8_39 {h : jHp} {b : Nat} {F : Nat → Value} {A : Nat → Nat → Int32} : gJ (hX 8 h b F A) b 8 39 = vJ (F 39) := gJ_hX rfl
theorem p8_39 {h : jHp} {b : Nat} {F : Nat → Value} {A : Nat → Nat → Int32} (v : Value) : pF (hX 8 h b F A) b 8 39 v = some (hX 8 h b (updV F 39 v) A) := pF_hX v rfl
theorem x8_40 {h : jHp} {b : Nat} {F : Nat → Value} {A : Nat → Nat → Int32} : gA (hX 8 h b F A) b 8 40 = some (b + 27) := gR_hX rfl (by decide)
theorem r8_27 {h : jHp} {b : Nat} {F : Nat → Value} {A : Nat → Nat → Int32} (j : Int32) : alI (hX 8 h b F A) (b + 27) j = rdA 4 (A 27) j := alI_hX j (by decide) (by decide) rfl
theorem w8_27 {h : jHp} {b : Nat} {F : Nat → Value} {A : Nat → Nat → Int32} {t : Nat} (x : Int32) (ht : t < 4) : asI (hX 8 h b F A) (b + 27) (nI t) x = some (hX 8 h b F (updA A 27 (upd (A 27) t x))) := asI_hX x (by decide) (by decide) rfl (by decide) ht
theorem n8_27 {h : jHp} {b : Nat} {F : Nat → Value} {A : Nat → Nat → Int32} : alen (hX 8 h b F A) (b + 27) = some (nI 4) := alen_hX (by decide) (by decide) rfl
theorem x8_41 {h : jHp} {b : Nat} {F : Nat → Value} {A : Nat → Nat → Int32} : gA (hX 8 h b F A) b 8 41 = some (b + 28) := gR_hX rfl (by decide)
theorem r8_28 {h : jHp} {b : Nat} {F : Nat → Value} {A : Nat → Nat → Int32} (j : Int32) : alI (hX 8 h b F A) (b + 28) j = rdA 4 (A 28) j := alI_hX j (by decide) (by decide) rfl
theorem w8_28 {h : jHp} {b : Nat} {F : Nat → Value} {A : Nat → Nat → Int32} {t : Nat} (x : Int32) (ht : t < 4) : asI (hX 8 h b F A) (b + 28) (nI t) x = some (hX 8 h b F (updA A 28 (upd (A 28) t x))) := asI_hX x (by decide) (by decide) rfl (by decide) ht
theorem n8_28 {h : jHp} {b : Nat} {F : Nat → Value} {A : Nat → Nat → Int32} : alen (hX 8 h b F A) (b + 28) = some (nI 4) := alen_hX (by decide) (by decide) rfl
theorem x8_42 {h : jHp} {b : Nat} {F : Nat → Value} {A : Nat → Nat → Int32} : gA (hX 8 h b F A) b 8 42 = some (b + 29) := gR_hX rfl (by decide)
theorem r8_29 {h : jHp} {b : Nat} {F : Nat → Value} {A : Nat → Nat → Int32} (j : Int32) : alI (hX 8 h b F A) (b + 29) j = rdA 480 (A 29) j := alI_hX j (by decide) (by decide) rfl
theorem w8_29 {h : jHp} {b : Nat} {F : Nat → Value} {A : Nat → Nat → Int32} {t : Nat} (x : Int32) (ht : t < 480) : asI (hX 8 h b F A) (b + 29) (nI t) x = some (hX 8 h b F (updA A 29 (upd (A 29) t x))) := asI_hX x (by decide) (by decide) rfl (by decide) ht
theorem n8_29 {h : jHp} {b : Nat} {F : Nat → Value} {A : Nat → Nat → Int32} : alen (hX 8 h b F A) (b + 29) = some (nI 480) := alen_hX (by decide) (by decide) rfl
theorem x8_43 {h : jHp} {b : Nat} {F : Nat → Value} {A : Nat → Nat → Int32} : gA (hX 8 h b F A) b 8 43 = some (b + 30) := gR_hX rfl (by decide)
theorem r8_30 {h : jHp} {b : Nat} {F : Nat → Value} {A : Nat → Nat → Int32} (j : Int32) : alI (hX 8 h b F A) (b + 30) j = rdA 120 (A 30) j := alI_hX j (by decide) (by decide) rfl
theorem w8_30 {h : jHp} {b : Nat} {F : Nat → Value} {A : Nat → Nat → Int32} {t : Nat} (x : Int32) (ht : t < 120) : asI (hX 8 h b F A) (b + 30) (nI t) x = some (hX 8 h b F (updA A 30 (upd (A 30) t x))) := asI_hX x (by decide) (by decide) rfl (by decide) ht
theorem n8_30 {h : jHp} {b : Nat} {F : Nat → Value} {A : Nat → Nat → Int32} : alen (hX 8 h b F A) (b + 30) = some (nI 120) := alen_hX (by decide) (by decide) rfl
theorem x8_44 {h : jHp} {b : Nat} {F : Nat → Value} {A : Nat → Nat → Int32} : gI (hX 8 h b F A) b 8 44 = vI (F 44) := gI_hX rfl
theorem p8_44 {h : jHp} {b : Nat} {F : Nat → Value} {A : Nat → Nat → Int32} (v : Value) : pF (hX 8 h b F A) b 8 44 v = some (hX 8 h b (updV F 44 v) A) := pF_hX v rfl
