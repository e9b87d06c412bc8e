/-! NUMBERS: bits of whole numbers -/
theorem down {P : Nat → Prop} {N : Nat} (h : P N) (st : ∀ k, k < N → P (k + 1) → P k) : P 0 := by
  have key : ∀ j, j ≤ N → P (N - j) := by
    intro j
    induction j with
    | zero => intro _; exact h
    | succ j ih =>
      intro hj
      refine st (N - (j + 1)) (by omega) ?_
      rw [show N - (j + 1) + 1 = N - j by omega]
      exact ih (by omega)
  have := key N (Nat.le_refl _)
  rwa [Nat.sub_self] at this
theorem oI_nat (n : Nat) : Int32.ofInt (n : Int) = nI n := by
  show Int32.ofInt (n : Int) = Int32.ofNat n
  simp [Int32.ofInt_eq_ofNat]
theorem nI_back {n : Nat} (h : n < 2 ^ 31) : (nI n).toInt = (n : Int) := nI_toInt h
theorem sh31 {b : Nat} (hb : b < 32) : nI b &&& 31 = nI b ∧ ((nI b).toBitVec.smod 32).toNat = b ∧ (((nI b).toUInt32 &&& Int32.toUInt32 31).toBitVec % 32).toNat = b := by
  have : ∀ b : Fin 32, nI b &&& 31 = nI b ∧ ((nI b).toBitVec.smod 32).toNat = b ∧ (((nI b).toUInt32 &&& Int32.toUInt32 31).toBitVec % 32).toNat = b := by decide
  exact this ⟨b, hb⟩
theorem xshr_nat {n b : Nat} (hn : n < 2 ^ 31) (hb : b < 32) : xshr n b = ((n / 2 ^ b : Nat) : Int) := by
  unfold xshr
  rw [oI_nat, oI_nat, (sh31 hb).1, pk_shrN hn _ b (sh31 hb).2.1, nI_back (Nat.lt_of_le_of_lt (Nat.div_le_self _ _) hn)]
theorem xshl_nat {n b : Nat} (hn : n * 2 ^ b < 2 ^ 31) (hb : b < 32) : xshl n b = ((n * 2 ^ b : Nat) : Int) := by
  unfold xshl
  rw [oI_nat, oI_nat, (sh31 hb).1, pk_shlN _ b (sh31 hb).2.1 (by omega), nI_back hn]
theorem xushr_wr {a : Int} {b : Nat} (h0 : 0 < b) (hb : b < 32) : xushr a b = (((a % 4294967296).toNat / 2 ^ b : Nat) : Int) := by
  unfold xushr
  have e : Int32.ofInt a = nI (a % 4294967296).toNat := by
    rw [← oI_nat, ← Int32.toInt_inj, Int32.toInt_ofInt, Int32.toInt_ofInt]
    have : (((a % 4294967296).toNat : Nat) : Int) = a % 4294967296 := Int.toNat_of_nonneg (by omega)
    rw [this]
    show Int.bmod a 4294967296 = Int.bmod (a % 4294967296) 4294967296
    exact (Int.emod_bmod a 4294967296).symm
  have hlt : (a % 4294967296).toNat < 2 ^ 32 := by omega
  rw [e, oI_nat, pk_ushrN hlt _ b (sh31 hb).2.2]
  refine nI_back (Nat.div_lt_of_lt_mul ?_)
  calc (a % 4294967296).toNat < 2 ^ 32 := hlt
    _ = 2 * 2 ^ 31 := by decide
    _ ≤ 2 ^ b * 2 ^ 31 := Nat.mul_le_mul_right _ (by
      calc 2 = 2 ^ 1 := rfl
        _ ≤ 2 ^ b := Nat.pow_le_pow_right (by decide) h0)
theorem nI_bits {n : Nat} (h : n < 2 ^ 31) : (nI n).toBitVec.toNat = n := pk_tn (by omega)
theorem nI_ofBits {x : Int32} {k : Nat} (h : x.toBitVec.toNat = k) : x = nI k := by
  rw [← Int32.toBitVec_inj]
  apply BitVec.eq_of_toNat_eq
  rw [h, pk_tn (by rw [← h]; exact x.toBitVec.isLt)]
theorem xand_nat {n m : Nat} (hn : n < 2 ^ 31) (hm : m < 2 ^ 31) : xand n m = ((n &&& m : Nat) : Int) := by
  unfold xand
  have e : nI n &&& nI m = nI (n &&& m) := nI_ofBits (by rw [Int32.toBitVec_and, BitVec.toNat_and, nI_bits hn, nI_bits hm])
  rw [oI_nat, oI_nat, e, nI_back (Nat.lt_of_le_of_lt Nat.and_le_left hn)]
theorem xor_nat {n m : Nat} (hn : n < 2 ^ 31) (hm : m < 2 ^ 31) : xor_ n m = ((n ||| m : Nat) : Int) := by
  unfold xor_
  have e : nI n ||| nI m = nI (n ||| m) := nI_ofBits (by rw [Int32.toBitVec_or, BitVec.toNat_or, nI_bits hn, nI_bits hm])
  rw [oI_nat, oI_nat, e, nI_back (Nat.or_lt_two_pow hn hm)]
theorem xxor_nat {n m : Nat} (hn : n < 2 ^ 31) (hm : m < 2 ^ 31) : xxor n m = ((n ^^^ m : Nat) : Int) := by
  unfold xxor
  have e : nI n ^^^ nI m = nI (n ^^^ m) := nI_ofBits (by rw [Int32.toBitVec_xor, BitVec.toNat_xor, nI_bits hn, nI_bits hm])
  rw [oI_nat, oI_nat, e, nI_back (Nat.xor_lt_two_pow hn hm)]
/-- the lowest bits -/
theorem xand_mod {a : Int} (k : Nat) (h0 : 0 ≤ a) (h1 : a ≤ 2147483647) (hk : k < 31) : xand a ((2 ^ k - 1 : Nat) : Int) = a % ((2 ^ k : Nat) : Int) := by
  obtain ⟨n, rfl⟩ := Int.eq_ofNat_of_zero_le h0
  have hp : (2 : Nat) ^ k < 2 ^ 31 := Nat.pow_lt_pow_right (by decide) hk
  show xand ((n : Nat) : Int) _ = _
  rw [xand_nat (by omega) (by omega), Nat.and_two_pow_sub_one_eq_mod]
  rfl
theorem xand1 {a : Int} (h0 : 0 ≤ a) (h1 : a ≤ 2147483647) : xand a 1 = a % 2 := xand_mod 1 h0 h1 (by decide)
theorem xand7 {a : Int} (h0 : 0 ≤ a) (h1 : a ≤ 2147483647) : xand a 7 = a % 8 := xand_mod 3 h0 h1 (by decide)
theorem xand31 {a : Int} (h0 : 0 ≤ a) (h1 : a ≤ 2147483647) : xand a 31 = a % 32 := xand_mod 5 h0 h1 (by decide)
theorem xand255 {a : Int} (h0 : 0 ≤ a) (h1 : a ≤ 2147483647) : xand a 255 = a % 256 := xand_mod 8 h0 h1 (by decide)
/-- shifts by whole numbers -/
theorem xshr_int {a b : Int} (h0 : 0 ≤ a) (h1 : a ≤ 2147483647) (hb : 0 ≤ b) (hb2 : b < 32) : xshr a b = a / 2 ^ b.toNat := by
  obtain ⟨n, rfl⟩ := Int.eq_ofNat_of_zero_le h0
  obtain ⟨m, rfl⟩ := Int.eq_ofNat_of_zero_le hb
  show xshr ((n : Nat) : Int) ((m : Nat) : Int) = ((n : Nat) : Int) / 2 ^ m
  rw [xshr_nat (by omega) (by omega)]
  simp
theorem xshl_int {a b : Int} (h0 : 0 ≤ a) (hb : 0 ≤ b) (hb2 : b < 32) (h1 : a * 2 ^ b.toNat ≤ 2147483647) : xshl a b = a * 2 ^ b.toNat := by
  obtain ⟨n, rfl⟩ := Int.eq_ofNat_of_zero_le h0
  obtain ⟨m, rfl⟩ := Int.eq_ofNat_of_zero_le hb
  have h1 : ((n : Nat) : Int) * 2 ^ m ≤ 2147483647 := h1
  have e2 : ((n * 2 ^ m : Nat) : Int) = (n : Int) * 2 ^ m := by simp
  have h2 : n * 2 ^ m ≤ 2147483647 := by rw [← e2] at h1; omega
  show xshl ((n : Nat) : Int) ((m : Nat) : Int) = ((n : Nat) : Int) * 2 ^ m
  rw [xshl_nat (by omega) (by omega)]
  simp
/-- an or of numbers that share no bit -/
theorem xor_add {a b : Int} (k : Nat) (ha : 0 ≤ a) (ha2 : a ≤ 2147483647) (hd : a % 2 ^ k = 0) (hb : 0 ≤ b) (hb2 : b < 2 ^ k) (hs : b ≤ 2147483647) : xor_ a b = a + b := by
  obtain ⟨n, rfl⟩ := Int.eq_ofNat_of_zero_le ha
  obtain ⟨m, rfl⟩ := Int.eq_ofNat_of_zero_le hb
  have hd2 : n % 2 ^ k = 0 := by
    have : ((n : Nat) : Int) % ((2 ^ k : Nat) : Int) = 0 := by simpa using hd
    exact_mod_cast this
  have hb3 : m < 2 ^ k := by
    have : ((m : Nat) : Int) < ((2 ^ k : Nat) : Int) := by simpa using hb2
    exact_mod_cast this
  show xor_ ((n : Nat) : Int) ((m : Nat) : Int) = ((n : Nat) : Int) + ((m : Nat) : Int)
  rw [xor_nat (by omega) (by omega)]
  have e : n = 2 ^ k * (n / 2 ^ k) := by
    have := Nat.div_add_mod n (2 ^ k)
    omega
  have : n ||| m = n + m := by
    rw [e, ← Nat.two_pow_add_eq_or_of_lt hb3]
  rw [this]
  simp
/-- two stores with the same ints -/
theorem G_sto {ly : List Sh} {X : Cx} {pc : Nat} {L : List (Option Vl)} {K : List Vl} {s s' : Sto} (h : ∀ c i, Int32.ofInt (s c i) = Int32.ofInt (s' c i)) (k : G ly X pc L K s') : G ly X pc L K s := by
  have e : ∀ cI cZ ad, wld ly cI cZ ad s = wld ly cI cZ ad s' := by
    intro cI cZ ad
    apply List.ext_getElem?
    intro c
    simp only [wld, List.getElem?_mapIdx]
    cases ly[c]? with
    | none => rfl
    | some x =>
      simp only [Option.map_some]
      congr 2
      cases x with
      | inl q => simp only [wE, h]
      | inr q =>
        have : (fun (k : Nat) f => fV ad s c k f) = (fun (k : Nat) f => fV ad s' c k f) := by
          funext k f
          cases f <;> simp only [fV, h]
        simp only [wE, this]
  obtain ⟨p, l, e0, R, s0, m, args, below, meth, c, Q, cells, slots, nL, A, D, ad, cI, cZ⟩ := X
  intro H locs ls hP hS hl
  rw [e] at hP
  exact k H locs ls hP hS hl
