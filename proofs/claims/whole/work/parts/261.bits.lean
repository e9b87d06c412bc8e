/-! HOW MANY BITS -/
theorem bi_63 : (Int8.ofInt 63).toInt32 = Int32.ofInt 63 := by decide
theorem wk_J6_265 : Cond.constant RJ6 265 1431655765 ∈ tb := List.mem_filter.mpr ⟨List.mem_of_getElem? (i := 996) (by decide +kernel), by decide +kernel⟩
theorem wk_J6_266 : Cond.constant RJ6 266 858993459 ∈ tb := List.mem_filter.mpr ⟨List.mem_of_getElem? (i := 997) (by decide +kernel), by decide +kernel⟩
theorem wk_J6_267 : Cond.constant RJ6 267 252645135 ∈ tb := List.mem_filter.mpr ⟨List.mem_of_getElem? (i := 998) (by decide +kernel), by decide +kernel⟩
set_option maxRecDepth 20000 in
theorem kb_J6_bitCount_0 {X : Cx} {d : Nat} {P : Int → Sto → Prop} (C : Ok LY X RJ6 cJ6_bitCount_0f7a4 1 d) (r : RetI LY X cJ6_bitCount_0f7a4 P) {v0 e1 e2 e3 e4 e5 : Int} {s : Sto} (h1 : e1 = v0 - xand (xushr v0 1) 1431655765) (h2 : e2 = xand e1 858993459 + xand (xushr e1 2) 858993459) (h3 : e3 = xand (e2 + xushr e2 4) 252645135) (h4 : e4 = e3 + xushr e3 8) (h5 : e5 = e4 + xushr e4 16) (h : P (xand e5 63) s) : G LY X 0 [iv v0] [] s := by
  refine G_iload_n C dJ6_bitCount_0f7a4_0 rfl ?_
  refine G_iload_n C dJ6_bitCount_0f7a4_1 rfl ?_
  refine G_iconst C dJ6_bitCount_0f7a4_2 ?_
  refine G_iushr C dJ6_bitCount_0f7a4_3 ?_
  refine G_ldcw C wk_J6_265 (z := 1431655765) (by decide) dJ6_bitCount_0f7a4_4 ?_
  refine G_iand C dJ6_bitCount_0f7a4_7 ?_
  refine G_isub C dJ6_bitCount_0f7a4_8 ?_
  rw [← h1]
  refine G_istore_n (L' := [iv e1]) C dJ6_bitCount_0f7a4_9 (by decide) rfl ?_
  refine G_iload_n C dJ6_bitCount_0f7a4_10 rfl ?_
  refine G_ldcw C wk_J6_266 (z := 858993459) (by decide) dJ6_bitCount_0f7a4_11 ?_
  refine G_iand C dJ6_bitCount_0f7a4_14 ?_
  refine G_iload_n C dJ6_bitCount_0f7a4_15 rfl ?_
  refine G_iconst C dJ6_bitCount_0f7a4_16 ?_
  refine G_iushr C dJ6_bitCount_0f7a4_17 ?_
  refine G_ldcw C wk_J6_266 (z := 858993459) (by decide) dJ6_bitCount_0f7a4_18 ?_
  refine G_iand C dJ6_bitCount_0f7a4_21 ?_
  refine G_iadd C dJ6_bitCount_0f7a4_22 ?_
  rw [← h2]
  refine G_istore_n (L' := [iv e2]) C dJ6_bitCount_0f7a4_23 (by decide) rfl ?_
  refine G_iload_n C dJ6_bitCount_0f7a4_24 rfl ?_
  refine G_iload_n C dJ6_bitCount_0f7a4_25 rfl ?_
  refine G_iconst C dJ6_bitCount_0f7a4_26 ?_
  refine G_iushr C dJ6_bitCount_0f7a4_27 ?_
  refine G_iadd C dJ6_bitCount_0f7a4_28 ?_
  refine G_ldcw C wk_J6_267 (z := 252645135) (by decide) dJ6_bitCount_0f7a4_29 ?_
  refine G_iand C dJ6_bitCount_0f7a4_32 ?_
  rw [← h3]
  refine G_istore_n (L' := [iv e3]) C dJ6_bitCount_0f7a4_33 (by decide) rfl ?_
  refine G_iload_n C dJ6_bitCount_0f7a4_34 rfl ?_
  refine G_iload_n C dJ6_bitCount_0f7a4_35 rfl ?_
  refine G_bipush C dJ6_bitCount_0f7a4_36 bi_8 ?_
  refine G_iushr C dJ6_bitCount_0f7a4_38 ?_
  refine G_iadd C dJ6_bitCount_0f7a4_39 ?_
  rw [← h4]
  refine G_istore_n (L' := [iv e4]) C dJ6_bitCount_0f7a4_40 (by decide) rfl ?_
  refine G_iload_n C dJ6_bitCount_0f7a4_41 rfl ?_
  refine G_iload_n C dJ6_bitCount_0f7a4_42 rfl ?_
  refine G_bipush C dJ6_bitCount_0f7a4_43 bi_16 ?_
  refine G_iushr C dJ6_bitCount_0f7a4_45 ?_
  refine G_iadd C dJ6_bitCount_0f7a4_46 ?_
  rw [← h5]
  refine G_istore_n (L' := [iv e5]) C dJ6_bitCount_0f7a4_47 (by decide) rfl ?_
  refine G_iload_n C dJ6_bitCount_0f7a4_48 rfl ?_
  refine G_bipush C dJ6_bitCount_0f7a4_49 bi_63 ?_
  refine G_iand C dJ6_bitCount_0f7a4_51 ?_
  exact r _ _ _ _ dJ6_bitCount_0f7a4_52 h
/-- the number of bits below k -/
def pcF (n : Nat) : Nat → Nat
  | 0 => 0
  | k + 1 => pcF n k + n / 2 ^ k % 2
theorem and_split {a b c d : Nat} (ha : a < 256) (hc : c < 256) : (a + 256 * b) &&& (c + 256 * d) = (a &&& c) + 256 * (b &&& d) := by
  have h1 := Nat.and_mod_two_pow (a := a + 256 * b) (b := c + 256 * d) (n := 8)
  have h2 := Nat.and_div_two_pow (a := a + 256 * b) (b := c + 256 * d) (n := 8)
  rw [show (2 : Nat) ^ 8 = 256 from rfl] at h1 h2
  rw [show (a + 256 * b) % 256 = a by omega, show (c + 256 * d) % 256 = c by omega] at h1
  rw [show (a + 256 * b) / 256 = b by omega, show (c + 256 * d) / 256 = d by omega] at h2
  omega
def s1B (b : Nat) : Nat := b - ((b / 2) &&& 85)
def s2B (c : Nat) : Nat := (c &&& 51) + ((c / 4) &&& 51)
def s3B (d : Nat) : Nat := d % 16 + d / 16
theorem sB_1 : ∀ e : Fin 2, ∀ b : Fin 256, ((b.val / 2 + 128 * e.val) &&& 85) = ((b.val / 2) &&& 85) ∧ ((b.val / 2) &&& 85) ≤ b.val := by decide +kernel
theorem sB_2 : ∀ e : Fin 4, ∀ b : Fin 256, ((b.val / 4 + 64 * e.val) &&& 51) = ((b.val / 4) &&& 51) ∧ (b.val &&& 51) + ((b.val / 4) &&& 51) < 256 := by decide +kernel
theorem sB_3 : ∀ b : Fin 256, s2B (s1B b.val) % 16 ≤ 4 ∧ s2B (s1B b.val) / 16 ≤ 4 ∧ s3B (s2B (s1B b.val)) = pcF b.val 8 := by decide +kernel
theorem sB_4 : ∀ x : Fin 256, x.val % 16 < 16 → (x.val &&& 15) = x.val % 16 := by decide +kernel
theorem m16 {a b : Nat} (h : a < 16) : (a + 16 * b) % 16 = a := by omega
theorem sum3 {a b c : Nat} (ha : a ≤ 8) (hb : b ≤ 8) (hc : c ≤ 8) : (a + 256 * (b + 256 * c) + (a + 256 * (b + 256 * c)) / 256 + (a + 256 * (b + 256 * c) + (a + 256 * (b + 256 * c)) / 256) / 65536) % 64 = a + b + c := by
  have e1 : (a + 256 * (b + 256 * c)) / 256 = b + 256 * c := by omega
  rw [e1]
  have e2 : (a + 256 * (b + 256 * c) + (b + 256 * c)) / 65536 = c := by omega
  rw [e2]
  omega
theorem pc_split {b0 b1 b2 : Nat} (l0 : b0 < 256) (l1 : b1 < 256) (l2 : b2 < 16) : pcF b0 8 + pcF b1 8 + pcF b2 8 = pcF (b0 + 256 * (b1 + 256 * b2)) 20 := by
  have a : ∀ j : Nat, j < 8 → (b0 + 256 * (b1 + 256 * b2)) / 2 ^ j % 2 = b0 / 2 ^ j % 2 := by
    intro j hj
    have : j = 0 ∨ j = 1 ∨ j = 2 ∨ j = 3 ∨ j = 4 ∨ j = 5 ∨ j = 6 ∨ j = 7 := by omega
    rcases this with rfl | rfl | rfl | rfl | rfl | rfl | rfl | rfl <;> simp only [Nat.reducePow] <;> omega
  have b : ∀ j : Nat, j < 8 → (b0 + 256 * (b1 + 256 * b2)) / 2 ^ (8 + j) % 2 = b1 / 2 ^ j % 2 := by
    intro j hj
    have e : (b0 + 256 * (b1 + 256 * b2)) / 2 ^ (8 + j) = (b1 + 256 * b2) / 2 ^ j := by
      rw [Nat.pow_add, ← Nat.div_div_eq_div_mul]
      congr 1
      omega
    rw [e]
    have : j = 0 ∨ j = 1 ∨ j = 2 ∨ j = 3 ∨ j = 4 ∨ j = 5 ∨ j = 6 ∨ j = 7 := by omega
    rcases this with rfl | rfl | rfl | rfl | rfl | rfl | rfl | rfl <;> simp only [Nat.reducePow] <;> omega
  have c : ∀ j : Nat, (b0 + 256 * (b1 + 256 * b2)) / 2 ^ (16 + j) % 2 = b2 / 2 ^ j % 2 := by
    intro j
    have e : (b0 + 256 * (b1 + 256 * b2)) / 2 ^ (16 + j) = b2 / 2 ^ j := by
      rw [Nat.pow_add, ← Nat.div_div_eq_div_mul]
      congr 1
      omega
    rw [e]
  have z : ∀ j : Nat, 4 ≤ j → b2 / 2 ^ j % 2 = 0 := by
    intro j hj
    have : (2 : Nat) ^ 4 ≤ 2 ^ j := Nat.pow_le_pow_right (by decide) hj
    rw [Nat.div_eq_of_lt (by omega)]
  have a0 := a 0 (by decide); have a1 := a 1 (by decide); have a2 := a 2 (by decide); have a3 := a 3 (by decide)
  have a4 := a 4 (by decide); have a5 := a 5 (by decide); have a6 := a 6 (by decide); have a7 := a 7 (by decide)
  have c0 := b 0 (by decide); have c1 := b 1 (by decide); have c2 := b 2 (by decide); have c3 := b 3 (by decide)
  have c4 := b 4 (by decide); have c5 := b 5 (by decide); have c6 := b 6 (by decide); have c7 := b 7 (by decide)
  have d0 := c 0; have d1 := c 1; have d2 := c 2; have d3 := c 3
  simp only [Nat.add_zero, Nat.reduceAdd] at c0 c1 c2 c3 c4 c5 c6 c7 d0 d1 d2 d3
  simp only [pcF]
  rw [a0, a1, a2, a3, a4, a5, a6, a7, c0, c1, c2, c3, c4, c5, c6, c7, d0, d1, d2, d3, z 4 (by decide), z 5 (by decide), z 6 (by decide), z 7 (by decide)]
  generalize b0 / 2 ^ 0 % 2 = x0
  generalize b0 / 2 ^ 1 % 2 = x1
  generalize b0 / 2 ^ 2 % 2 = x2
  generalize b0 / 2 ^ 3 % 2 = x3
  generalize b0 / 2 ^ 4 % 2 = x4
  generalize b0 / 2 ^ 5 % 2 = x5
  generalize b0 / 2 ^ 6 % 2 = x6
  generalize b0 / 2 ^ 7 % 2 = x7
  generalize b1 / 2 ^ 0 % 2 = y0
  generalize b1 / 2 ^ 1 % 2 = y1
  generalize b1 / 2 ^ 2 % 2 = y2
  generalize b1 / 2 ^ 3 % 2 = y3
  generalize b1 / 2 ^ 4 % 2 = y4
  generalize b1 / 2 ^ 5 % 2 = y5
  generalize b1 / 2 ^ 6 % 2 = y6
  generalize b1 / 2 ^ 7 % 2 = y7
  generalize b2 / 2 ^ 0 % 2 = z0
  generalize b2 / 2 ^ 1 % 2 = z1
  generalize b2 / 2 ^ 2 % 2 = z2
  generalize b2 / 2 ^ 3 % 2 = z3
  clear a b c z
  clear a0 a1 a2 a3 a4 a5 a6 a7 c0 c1 c2 c3 c4 c5 c6 c7 d0 d1 d2 d3
  omega
theorem bc_nat {n : Nat} (hn : n < 1048576) : ∃ e1 e2 e3 e4 e5 : Nat, ((n / 2) &&& 1431655765) ≤ n ∧ e1 = n - ((n / 2) &&& 1431655765) ∧ e2 = (e1 &&& 858993459) + ((e1 / 4) &&& 858993459) ∧ e3 = ((e2 + e2 / 16) &&& 252645135) ∧ e4 = e3 + e3 / 256 ∧ e5 = e4 + e4 / 65536 ∧ (e1 < 2 ^ 28 ∧ e2 < 2 ^ 28 ∧ e3 < 2 ^ 28 ∧ e4 < 2 ^ 29 ∧ e5 < 2 ^ 30) ∧ (e5 &&& 63) = pcF n 20 := by
  obtain ⟨b0, hb0⟩ : ∃ b, b = n % 256 := ⟨_, rfl⟩
  obtain ⟨b1, hb1⟩ : ∃ b, b = n / 256 % 256 := ⟨_, rfl⟩
  obtain ⟨b2, hb2⟩ : ∃ b, b = n / 65536 := ⟨_, rfl⟩
  have l0 : b0 < 256 := by omega
  have l1 : b1 < 256 := by omega
  have l2 : b2 < 16 := by omega
  have en : n = b0 + 256 * (b1 + 256 * b2) := by omega
  have m1 : (1431655765 : Nat) = 85 + 256 * (85 + 256 * (85 + 256 * 85)) := rfl
  have m2 : (858993459 : Nat) = 51 + 256 * (51 + 256 * (51 + 256 * 51)) := rfl
  have m3 : (252645135 : Nat) = 15 + 256 * (15 + 256 * (15 + 256 * 15)) := rfl
  have and0 : ∀ x : Nat, (0 &&& x) = 0 := fun x => Nat.zero_and x
  -- first
  have t1 : (n / 2) &&& 1431655765 = ((b0 / 2) &&& 85) + 256 * (((b1 / 2) &&& 85) + 256 * ((b2 / 2) &&& 85)) := by
    rw [m1, show n / 2 = (b0 / 2 + 128 * (b1 % 2)) + 256 * ((b1 / 2 + 128 * (b2 % 2)) + 256 * ((b2 / 2) + 256 * 0)) by omega, and_split (by omega) (by decide), and_split (by omega) (by decide), and_split (by omega) (by decide), and0]
    have q0 := (sB_1 ⟨b1 % 2, by omega⟩ ⟨b0, l0⟩).1
    have q1 := (sB_1 ⟨b2 % 2, by omega⟩ ⟨b1, l1⟩).1
    simp only at q0 q1
    rw [q0, q1]
    omega
  have u0 := (sB_1 ⟨0, by decide⟩ ⟨b0, l0⟩).2
  have u1 := (sB_1 ⟨0, by decide⟩ ⟨b1, l1⟩).2
  have u2 := (sB_1 ⟨0, by decide⟩ ⟨b2, by omega⟩).2
  simp only at u0 u1 u2
  have c0 : s1B b0 = b0 - ((b0 / 2) &&& 85) := rfl
  have c1 : s1B b1 = b1 - ((b1 / 2) &&& 85) := rfl
  have c2 : s1B b2 = b2 - ((b2 / 2) &&& 85) := rfl
  have e1 : n - ((n / 2) &&& 1431655765) = s1B b0 + 256 * (s1B b1 + 256 * s1B b2) := by
    rw [t1, c0, c1, c2]
    omega
  have k0 : s1B b0 < 256 := by omega
  have k1 : s1B b1 < 256 := by omega
  have k2 : s1B b2 < 16 := by omega
  have sb0 := sB_3 ⟨b0, l0⟩
  have sb1 := sB_3 ⟨b1, l1⟩
  have sb2 := sB_3 ⟨b2, by omega⟩
  simp only at sb0 sb1 sb2
  generalize s1B b0 = x0 at *
  generalize s1B b1 = x1 at *
  generalize s1B b2 = x2 at *
  -- second
  have t2 : ((x0 + 256 * (x1 + 256 * x2)) &&& 858993459) + (((x0 + 256 * (x1 + 256 * x2)) / 4) &&& 858993459) = s2B x0 + 256 * (s2B x1 + 256 * s2B x2) := by
    have a1 : (x0 + 256 * (x1 + 256 * x2)) &&& 858993459 = (x0 &&& 51) + 256 * ((x1 &&& 51) + 256 * (x2 &&& 51)) := by
      rw [m2, show x0 + 256 * (x1 + 256 * x2) = x0 + 256 * (x1 + 256 * (x2 + 256 * 0)) by omega, and_split k0 (by decide), and_split k1 (by decide), and_split (by omega) (by decide), and0]
      omega
    have a2 : ((x0 + 256 * (x1 + 256 * x2)) / 4) &&& 858993459 = ((x0 / 4) &&& 51) + 256 * (((x1 / 4) &&& 51) + 256 * ((x2 / 4) &&& 51)) := by
      rw [m2, show (x0 + 256 * (x1 + 256 * x2)) / 4 = (x0 / 4 + 64 * (x1 % 4)) + 256 * ((x1 / 4 + 64 * (x2 % 4)) + 256 * ((x2 / 4) + 256 * 0)) by omega, and_split (by omega) (by decide), and_split (by omega) (by decide), and_split (by omega) (by decide), and0]
      have q0 := (sB_2 ⟨x1 % 4, by omega⟩ ⟨x0, k0⟩).1
      have q1 := (sB_2 ⟨x2 % 4, by omega⟩ ⟨x1, k1⟩).1
      simp only at q0 q1
      rw [q0, q1]
      omega
    rw [a1, a2]
    unfold s2B
    omega
  have y0 := (sB_2 ⟨0, by decide⟩ ⟨x0, k0⟩).2
  have y1 := (sB_2 ⟨0, by decide⟩ ⟨x1, k1⟩).2
  have y2 := (sB_2 ⟨0, by decide⟩ ⟨x2, by omega⟩).2
  simp only at y0 y1 y2
  have z0 : s2B x0 < 256 := y0
  have z1 : s2B x1 < 256 := y1
  have z2 : s2B x2 < 256 := y2
  generalize s2B x0 = d0 at *
  generalize s2B x1 = d1 at *
  generalize s2B x2 = d2 at *
  -- third
  have t3 : ((d0 + 256 * (d1 + 256 * d2)) + (d0 + 256 * (d1 + 256 * d2)) / 16) &&& 252645135 = s3B d0 + 256 * (s3B d1 + 256 * s3B d2) := by
    have q : (d0 + 256 * (d1 + 256 * d2)) + (d0 + 256 * (d1 + 256 * d2)) / 16 = (d0 % 16 + d0 / 16 + 16 * (d0 / 16 + d1 % 16)) + 256 * ((d1 % 16 + d1 / 16 + 16 * (d1 / 16 + d2 % 16)) + 256 * ((d2 % 16 + d2 / 16 + 16 * (d2 / 16)) + 256 * 0)) := by omega
    rw [q, m3, and_split (by omega) (by decide), and_split (by omega) (by decide), and_split (by omega) (by decide), and0]
    have w0 := sB_4 ⟨d0 % 16 + d0 / 16 + 16 * (d0 / 16 + d1 % 16), by omega⟩ (by simp only; omega)
    have w1 := sB_4 ⟨d1 % 16 + d1 / 16 + 16 * (d1 / 16 + d2 % 16), by omega⟩ (by simp only; omega)
    have w2 := sB_4 ⟨d2 % 16 + d2 / 16 + 16 * (d2 / 16), by omega⟩ (by simp only; omega)
    simp only at w0 w1 w2
    rw [w0, w1, w2, m16 (by omega), m16 (by omega), m16 (by omega)]
    rfl
  have g0 : s3B d0 ≤ 8 := by unfold s3B; omega
  have g1 : s3B d1 ≤ 8 := by unfold s3B; omega
  have g2 : s3B d2 ≤ 8 := by unfold s3B; omega
  refine ⟨_, _, _, _, _, by rw [t1]; omega, rfl, rfl, rfl, rfl, rfl, ?_, ?_⟩
  · rw [e1, t2, t3]
    omega
  · rw [e1, t2, t3, sb0.2.2, sb1.2.2, sb2.2.2]
    rw [sb0.2.2] at g0
    rw [sb1.2.2] at g1
    rw [sb2.2.2] at g2
    have a63 : ∀ x : Nat, (x &&& 63) = x % 64 := fun x => Nat.and_two_pow_sub_one_eq_mod x 6
    rw [a63]
    rw [sum3 g0 g1 g2, pc_split l0 l1 l2, ← en]
theorem xushr_nat {n b : Nat} (hn : n < 2 ^ 31) (h0 : 0 < b) (hb : b < 32) : xushr (n : Int) (b : Int) = ((n / 2 ^ b : Nat) : Int) := by
  rw [xushr_wr h0 hb, show ((n : Int) % 4294967296).toNat = n by omega]
theorem t_bitCount {n : Nat} {s : Sto} (hn : n < 1048576) : ClI LY 0 MJ6_bitCount_0f7a4 [.inl (n : Int)] s (fun r s' => s' = s ∧ r = ((pcF n 20 : Nat) : Int)) := by
  refine ClI.intro (by decide) rfl (Nat.le_of_ble_eq_true rfl) (fun X C r => ?_)
  obtain ⟨e1, e2, e3, e4, e5, q0, q1, q2, q3, q4, q5, q6, q7⟩ := bc_nat hn
  have hh : n / 2 < 2 ^ 31 := by omega
  refine kb_J6_bitCount_0 C r (e1 := (e1 : Int)) (e2 := (e2 : Int)) (e3 := (e3 : Int)) (e4 := (e4 : Int)) (e5 := (e5 : Int)) ?_ ?_ ?_ ?_ ?_ ⟨rfl, ?_⟩
  · have a := xushr_nat (n := n) (b := 1) (by omega) (by decide) (by decide)
    have b := xand_nat (n := n / 2 ^ 1) (m := 1431655765) (by omega) (by decide)
    rw [show ((1 : Nat) : Int) = 1 from rfl] at a
    rw [show ((1431655765 : Nat) : Int) = 1431655765 from rfl] at b
    rw [a, b, q1]
    rw [show n / 2 ^ 1 = n / 2 from rfl]
    omega
  · have a := xushr_nat (n := e1) (b := 2) (by omega) (by decide) (by decide)
    have b := xand_nat (n := e1 / 2 ^ 2) (m := 858993459) (by omega) (by decide)
    have c := xand_nat (n := e1) (m := 858993459) (by omega) (by decide)
    rw [show ((2 : Nat) : Int) = 2 from rfl] at a
    rw [show ((858993459 : Nat) : Int) = 858993459 from rfl] at b c
    rw [a, b, c, q2]
    rw [show e1 / 2 ^ 2 = e1 / 4 from rfl]
    omega
  · have a := xushr_nat (n := e2) (b := 4) (by omega) (by decide) (by decide)
    have b := xand_nat (n := e2 + e2 / 2 ^ 4) (m := 252645135) (by omega) (by decide)
    rw [show ((4 : Nat) : Int) = 4 from rfl] at a
    rw [show ((252645135 : Nat) : Int) = 252645135 from rfl] at b
    rw [a, show (e2 : Int) + ((e2 / 2 ^ 4 : Nat) : Int) = ((e2 + e2 / 2 ^ 4 : Nat) : Int) by omega, b, q3]
  · have a := xushr_nat (n := e3) (b := 8) (by omega) (by decide) (by decide)
    rw [show ((8 : Nat) : Int) = 8 from rfl] at a
    rw [a, q4]
    rw [show e3 / 2 ^ 8 = e3 / 256 from rfl]
    omega
  · have a := xushr_nat (n := e4) (b := 16) (by omega) (by decide) (by decide)
    rw [show ((16 : Nat) : Int) = 16 from rfl] at a
    rw [a, q5]
    rw [show e4 / 2 ^ 16 = e4 / 65536 from rfl]
    omega
  · have b := xand_nat (n := e5) (m := 63) (by omega) (by decide)
    rw [show ((63 : Nat) : Int) = 63 from rfl] at b
    rw [b, q7]
