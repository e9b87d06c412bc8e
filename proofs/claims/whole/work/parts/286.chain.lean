/-! LISTS SORTED ANEW: sets of persons as bits -/
theorem bit_n {M k : Nat} : M / 2 ^ k % 2 = if M.testBit k = true then 1 else 0 := by
  rw [← Nat.toNat_testBit]
  cases M.testBit k <;> rfl
theorem or2_bit {M p j : Nat} : (M ||| 2 ^ p).testBit j = true ↔ M.testBit j = true ∨ j = p := by
  rw [Nat.testBit_or, Nat.testBit_two_pow, Bool.or_eq_true, decide_eq_true_eq]
  exact ⟨fun h => h.imp id Eq.symm, fun h => h.imp id Eq.symm⟩
theorem pc_or {M p : Nat} (h : M.testBit p = false) : ∀ k : Nat, pcF (M ||| 2 ^ p) k = pcF M k + if p < k then 1 else 0
  | 0 => rfl
  | k + 1 => by
    show pcF (M ||| 2 ^ p) k + (M ||| 2 ^ p) / 2 ^ k % 2 = pcF M k + M / 2 ^ k % 2 + _
    rw [pc_or h k, bit_n, bit_n]
    by_cases e : p = k
    · subst e
      rw [if_neg (Nat.lt_irrefl _), if_pos (or2_bit.mpr (Or.inr rfl)), h, if_neg (by decide), if_pos (Nat.lt_succ_self _)]
    · have : ((M ||| 2 ^ p).testBit k = true) ↔ M.testBit k = true := ⟨fun z => (or2_bit.mp z).resolve_right (fun q => e q.symm), fun z => or2_bit.mpr (Or.inl z)⟩
      by_cases z : M.testBit k = true
      · rw [if_pos z, if_pos (this.mpr z)]
        by_cases q : p < k
        · rw [if_pos q, if_pos (by omega)]
        · rw [if_neg q, if_neg (by omega)]
      · rw [if_neg z, if_neg (fun y => z (this.mp y))]
        by_cases q : p < k
        · rw [if_pos q, if_pos (by omega)]
        · rw [if_neg q, if_neg (by omega)]
theorem pc_0 : ∀ k : Nat, pcF 0 k = 0
  | 0 => rfl
  | k + 1 => by
    show pcF 0 k + 0 / 2 ^ k % 2 = 0
    rw [pc_0 k, Nat.zero_div]
theorem or_add {M p : Nat} (hM : M < 2 ^ 31) (hp : p < 31) (h : M.testBit p = false) : M ||| 2 ^ p = M + 2 ^ p := by
  have h2 : 2 ^ p < 2 ^ 31 := Nat.pow_lt_pow_right (by decide) hp
  have e := BitVec.add_eq_or_of_and_eq_zero (BitVec.ofNat 32 M) (BitVec.ofNat 32 (2 ^ p)) (by
    apply BitVec.eq_of_toNat_eq
    rw [BitVec.toNat_and, BitVec.toNat_ofNat, BitVec.toNat_ofNat, Nat.mod_eq_of_lt (by omega), Nat.mod_eq_of_lt (by omega)]
    apply Nat.eq_of_testBit_eq
    intro i
    rw [Nat.testBit_and, Nat.testBit_two_pow]
    by_cases q : p = i
    · subst q; rw [h]; simp
    · simp [q])
  have e2 := congrArg BitVec.toNat e
  rw [BitVec.toNat_add, BitVec.toNat_or, BitVec.toNat_ofNat, BitVec.toNat_ofNat, Nat.mod_eq_of_lt (show M < 2 ^ 32 by omega), Nat.mod_eq_of_lt (show 2 ^ p < 2 ^ 32 by omega), Nat.mod_eq_of_lt (by omega)] at e2
  exact e2.symm
theorem lt_bit {n m : Nat} (i : Nat) (hn : n.testBit i = false) (hm : m.testBit i = true) (h : ∀ j : Nat, i < j → n.testBit j = m.testBit j) : n < m := by
  have e : n / 2 ^ i / 2 = m / 2 ^ i / 2 := by
    apply Nat.eq_of_testBit_eq
    intro j
    rw [Nat.div_div_eq_div_mul, Nat.div_div_eq_div_mul, ← Nat.pow_succ, Nat.testBit_div_two_pow, Nat.testBit_div_two_pow]
    exact h _ (by omega)
  have a := bit_n (M := n) (k := i)
  have b := bit_n (M := m) (k := i)
  rw [hn, if_neg (by decide)] at a
  rw [hm, if_pos rfl] at b
  rcases Nat.lt_or_ge n m with q | q
  · exact q
  · have := Nat.div_le_div_right (c := 2 ^ i) q
    omega
theorem sub_lt {G M p : Nat} (hG : G.testBit p = false) (hM : M.testBit p = true) (hs : ∀ j : Nat, p < j → G.testBit j = true → M.testBit j = true) : ∀ t : Nat, (∀ j : Nat, p + t < j → G.testBit j = M.testBit j) → G < M
  | 0, h => lt_bit p hG hM h
  | t + 1, h => by
    by_cases q : G.testBit (p + (t + 1)) = M.testBit (p + (t + 1))
    · refine sub_lt hG hM hs t (fun j hj => ?_)
      by_cases e : j = p + (t + 1)
      · rw [e]; exact q
      · exact h j (by omega)
    · have hs' := hs (p + (t + 1)) (by omega)
      refine lt_bit (p + (t + 1)) ?_ ?_ h
      · cases hg : G.testBit (p + (t + 1)) with
        | false => rfl
        | true => exact absurd (hg.trans (hs' hg).symm) q
      · cases hm : M.testBit (p + (t + 1)) with
        | true => rfl
        | false =>
          cases hg : G.testBit (p + (t + 1)) with
          | false => exact absurd (hg.trans hm.symm) q
          | true => exact absurd (hs' hg) (by rw [hm]; decide)
theorem bit_big {M n j : Nat} (h : M < 2 ^ n) (hj : n ≤ j) : M.testBit j = false := Nat.testBit_lt_two_pow (Nat.lt_of_lt_of_le h (Nat.pow_le_pow_right (by decide) hj))
theorem bit_lo {M n j : Nat} (h : M < 2 ^ n) (hj : M.testBit j = true) : j < n := by
  rcases Nat.lt_or_ge j n with q | q
  · exact q
  · rw [bit_big h q] at hj; exact absurd hj (by decide)
/-- a bit taken away -/
theorem xclrN {M p : Nat} (hM : M < 2 ^ 20) (hp : p < 20) : ∃ M' : Nat, xand (M : Int) (xxor (xshl 1 (p : Int)) (-1)) = (M' : Int) ∧ M' ≤ M ∧ ∀ j : Nat, M'.testBit j = true ↔ M.testBit j = true ∧ j ≠ p := by
  have h2 : 2 ^ p < 2 ^ 20 := Nat.pow_lt_pow_right (by decide) hp
  have sh1 : xshl 1 (p : Int) = ((2 ^ p : Nat) : Int) := by
    have := xshl_nat (n := 1) (b := p) (by omega) (by omega)
    rw [show ((1 : Nat) : Int) = 1 from rfl, Nat.one_mul] at this
    exact this
  rw [sh1]
  obtain ⟨x, hx⟩ : ∃ x : Int32, x = nI M &&& (nI (2 ^ p) ^^^ (-1)) := ⟨_, rfl⟩
  have xb : x.toBitVec.toNat = M &&& (2 ^ p ^^^ (2 ^ 32 - 1)) := by
    rw [hx, Int32.toBitVec_and, BitVec.toNat_and, Int32.toBitVec_xor, BitVec.toNat_xor, nI_bits (by omega), nI_bits (by omega)]
    rfl
  have le : M &&& (2 ^ p ^^^ (2 ^ 32 - 1)) ≤ M := Nat.and_le_left
  refine ⟨M &&& (2 ^ p ^^^ (2 ^ 32 - 1)), ?_, le, fun j => ?_⟩
  · have e1 : xxor ((2 ^ p : Nat) : Int) (-1) = (nI (2 ^ p) ^^^ (-1)).toInt := by
      unfold xxor
      rw [oI_nat]
      rfl
    rw [e1]
    unfold xand
    rw [oI_nat, Int32.ofInt_toInt, ← hx, nI_ofBits xb, nI_back (by omega)]
  · rw [Nat.testBit_and, Nat.testBit_xor, Nat.testBit_two_pow, Nat.testBit_two_pow_sub_one]
    by_cases q : p = j
    · subst q
      simp
      omega
    · constructor
      · intro z
        rw [Bool.and_eq_true] at z
        exact ⟨z.1, fun e => q e.symm⟩
      · intro z
        have := bit_lo hM z.1
        simp [q, z.1]
        omega
/-- a row of all persons -/
def PM (q : Int → Int) (n : Int) : Prop := (∀ i : Int, 0 ≤ i → i < n → 0 ≤ q i ∧ q i < n) ∧ (∀ i j : Int, 0 ≤ i → i < n → 0 ≤ j → j < n → q i = q j → i = j) ∧ ∀ p : Int, 0 ≤ p → p < n → ∃ i : Int, 0 ≤ i ∧ i < n ∧ q i = p
/-- a set whose order is the same in both lists -/
def CH (q f : Int → Int) (n : Int) (M : Nat) : Prop := M < 2 ^ n.toNat ∧ ∀ i j : Int, 0 ≤ i → i < j → j < n → M.testBit (q i).toNat = true → M.testBit (q j).toNat = true → f (q i) < f (q j)
def LA (q : Int → Int) (n : Int) (M : Nat) (k : Int) : Prop := M.testBit (q k).toNat = true ∧ ∀ i : Int, 0 ≤ i → i < n → M.testBit (q i).toNat = true → i ≤ k
theorem CH.zero {q f : Int → Int} {n : Int} : CH q f n 0 := ⟨Nat.pow_pos (by decide), fun i j _ _ _ z => by rw [Nat.zero_testBit] at z; exact absurd z (by decide)⟩
theorem LA.ex {q : Int → Int} {n : Int} {M : Nat} (hq : PM q n) (h0 : M ≠ 0) (hM : M < 2 ^ n.toNat) : ∃ j : Int, 0 ≤ j ∧ j < n ∧ LA q n M j := by
  obtain ⟨p, hp⟩ := Nat.exists_testBit_of_ne_zero h0
  have pn := bit_lo hM hp
  obtain ⟨i, i0, i1, i2⟩ := hq.2.2 p (by omega) (by omega)
  have key : ∀ m : Nat, (m : Int) ≤ n → (∃ i : Int, 0 ≤ i ∧ i < m ∧ M.testBit (q i).toNat = true) → ∃ j : Int, 0 ≤ j ∧ j < m ∧ M.testBit (q j).toNat = true ∧ ∀ i : Int, 0 ≤ i → i < m → M.testBit (q i).toNat = true → i ≤ j := by
    intro m
    induction m with
    | zero => rintro _ ⟨i, a, b, _⟩; omega
    | succ m ih =>
      rintro hm ⟨i, a, b, c⟩
      by_cases z : M.testBit (q m).toNat = true
      · exact ⟨m, by omega, by omega, z, fun i a b _ => by omega⟩
      · have im : i ≠ m := fun e => z (by rw [← e]; exact c)
        obtain ⟨j, j0, j1, j2, j3⟩ := ih (by omega) ⟨i, a, by omega, c⟩
        refine ⟨j, j0, by omega, j2, fun x x0 x1 x2 => ?_⟩
        by_cases e : x = m
        · rw [e] at x2; exact absurd x2 z
        · exact j3 x x0 (by omega) x2
  obtain ⟨j, j0, j1, j2, j3⟩ := key n.toNat (by omega) ⟨i, i0, by omega, by rw [i2]; exact hp⟩
  exact ⟨j, j0, by omega, j2, fun x x0 x1 => j3 x x0 (by omega)⟩
theorem CH.dec {q f : Int → Int} {n k : Int} {M : Nat} (hq : PM q n) (h : CH q f n M) (hk : 0 ≤ k ∧ k < n) (hl : LA q n M k) : ∃ M' : Nat, M = M' ||| 2 ^ (q k).toNat ∧ M'.testBit (q k).toNat = false ∧ CH q f n M' ∧ (∀ x : Nat, M'.testBit x = true → M.testBit x = true) ∧ (M' = 0 ∨ ∃ j : Int, 0 ≤ j ∧ j < k ∧ LA q n M' j ∧ f (q j) < f (q k)) := by
  have bx : ∀ x : Nat, (M ^^^ 2 ^ (q k).toNat).testBit x = true ↔ M.testBit x = true ∧ x ≠ (q k).toNat := fun x => by
    rw [Nat.testBit_xor, Nat.testBit_two_pow]
    by_cases e : (q k).toNat = x
    · subst e; rw [hl.1]; simp
    · simp [e]; exact fun _ z => e z.symm
  obtain ⟨N, hN⟩ : ∃ N : Nat, N = M ^^^ 2 ^ (q k).toNat := ⟨_, rfl⟩
  rw [← hN] at bx
  have qb := hq.1 k hk.1 hk.2
  have Nlt : N < 2 ^ n.toNat := by
    rw [hN]
    exact Nat.xor_lt_two_pow h.1 (Nat.pow_lt_pow_right (by decide) (by omega))
  have nf : N.testBit (q k).toNat = false := by
    cases hz : N.testBit (q k).toNat with
    | false => rfl
    | true => exact absurd rfl ((bx _).mp hz).2
  have cN : CH q f n N := ⟨Nlt, fun i j i0 ij jn hi hj => h.2 i j i0 ij jn ((bx _).mp hi).1 ((bx _).mp hj).1⟩
  refine ⟨N, ?_, nf, cN, fun x hx => ((bx x).mp hx).1, ?_⟩
  · apply Nat.eq_of_testBit_eq
    intro x
    rw [Bool.eq_iff_iff, or2_bit, bx]
    by_cases e : x = (q k).toNat
    · rw [e]; exact ⟨fun _ => Or.inr rfl, fun _ => hl.1⟩
    · exact ⟨fun z => Or.inl ⟨z, e⟩, fun z => (z.resolve_right e).1⟩
  · by_cases z : N = 0
    · exact Or.inl z
    · obtain ⟨j, j0, j1, j2⟩ := LA.ex hq z Nlt
      have jb := (bx _).mp j2.1
      have jk : j ≤ k := hl.2 j j0 j1 jb.1
      have jne : j ≠ k := fun e => jb.2 (by rw [e])
      exact Or.inr ⟨j, j0, by omega, j2, h.2 j k j0 (by omega) hk.2 jb.1 hl.1⟩
theorem CH.one {q f : Int → Int} {n k : Int} (hq : PM q n) (hk : 0 ≤ k ∧ k < n) : CH q f n (0 ||| 2 ^ (q k).toNat) ∧ LA q n (0 ||| 2 ^ (q k).toNat) k := by
  have qb := hq.1 k hk.1 hk.2
  have on : ∀ i : Int, 0 ≤ i → i < n → (0 ||| 2 ^ (q k).toNat).testBit (q i).toNat = true → i = k := fun i i0 i1 z => by
    have := (or2_bit.mp z).resolve_left (by rw [Nat.zero_testBit]; decide)
    have ib := hq.1 i i0 i1
    exact hq.2.1 i k i0 i1 hk.1 hk.2 (by omega)
  refine ⟨⟨?_, fun i j i0 ij jn hi hj => ?_⟩, or2_bit.mpr (Or.inr rfl), fun i i0 i1 z => by rw [on i i0 i1 z]; exact Int.le_refl _⟩
  · exact Nat.or_lt_two_pow (Nat.pow_pos (by decide)) (Nat.pow_lt_pow_right (by decide) (by omega))
  · have := on i i0 (by omega) hi
    have := on j (by omega) jn hj
    omega
theorem CH.put {q f : Int → Int} {n k j : Int} {M : Nat} (hq : PM q n) (h : CH q f n M) (hk : k < n) (hj : 0 ≤ j ∧ j < k) (hl : LA q n M j) (hf : f (q j) < f (q k)) : M.testBit (q k).toNat = false ∧ CH q f n (M ||| 2 ^ (q k).toNat) ∧ LA q n (M ||| 2 ^ (q k).toNat) k := by
  have qb := hq.1 k (by omega) hk
  have ne : M.testBit (q k).toNat = false := by
    cases hz : M.testBit (q k).toNat with
    | false => rfl
    | true => have := hl.2 k (by omega) hk hz; omega
  have on : ∀ i : Int, 0 ≤ i → i < n → (M ||| 2 ^ (q k).toNat).testBit (q i).toNat = true → (i ≤ j ∧ M.testBit (q i).toNat = true) ∨ i = k := fun i i0 i1 z => by
    rcases or2_bit.mp z with z | z
    · exact Or.inl ⟨hl.2 i i0 i1 z, z⟩
    · have ib := hq.1 i i0 i1
      exact Or.inr (hq.2.1 i k i0 i1 (by omega) hk (by omega))
  refine ⟨ne, ⟨Nat.or_lt_two_pow h.1 (Nat.pow_lt_pow_right (by decide) (by omega)), fun i i' i0 ii i1 hi hi' => ?_⟩, or2_bit.mpr (Or.inr rfl), fun i i0 i1 z => ?_⟩
  · rcases on i' (by omega) i1 hi' with z' | z'
    · rcases on i i0 (by omega) hi with z | z
      · exact h.2 i i' i0 ii i1 z.2 z'.2
      · omega
    · rcases on i i0 (by omega) hi with z | z
      · rw [z']
        by_cases e : i = j
        · rw [e]; exact hf
        · have := h.2 i j i0 (by omega) (by omega) z.2 hl.1
          omega
      · omega
  · rcases on i i0 i1 z with z | z <;> omega
/-- from the one list to the other -/
theorem CH.sym {q f q' f' : Int → Int} {n : Int} {M : Nat} (hq : PM q n) (hq' : PM q' n) (hf : ∀ i : Int, 0 ≤ i → i < n → f (q' i) = i) (hf' : ∀ i : Int, 0 ≤ i → i < n → f' (q i) = i) (h : CH q f n M) : CH q' f' n M := by
  refine ⟨h.1, fun i j i0 ij jn hi hj => ?_⟩
  have a := hq'.1 i i0 (by omega)
  have b := hq'.1 j (by omega) jn
  obtain ⟨x, x0, x1, x2⟩ := hq.2.2 (q' i) a.1 a.2
  obtain ⟨y, y0, y1, y2⟩ := hq.2.2 (q' j) b.1 b.2
  rw [← x2, ← y2, hf' x x0 x1, hf' y y0 y1]
  rcases Int.lt_trichotomy x y with z | z | z
  · exact z
  · rw [z] at x2
    have := hq'.2.1 i j i0 (by omega) (by omega) jn (by rw [← x2, ← y2])
    omega
  · have := h.2 y x y0 z x1 (by rw [y2]; exact hj) (by rw [x2]; exact hi)
    rw [x2, y2, hf i i0 (by omega), hf j (by omega) jn] at this
    omega
theorem CH.congr {q f q' f' : Int → Int} {n : Int} {M : Nat} (h : CH q f n M) (hq : PM q n) (e : ∀ i : Int, 0 ≤ i → i < n → q' i = q i) (ef : ∀ p : Int, 0 ≤ p → p < n → f' p = f p) : CH q' f' n M := by
  refine ⟨h.1, fun i j i0 ij jn hi hj => ?_⟩
  rw [e i i0 (by omega)] at hi ⊢
  rw [e j (by omega) jn] at hj ⊢
  have a := hq.1 i i0 (by omega)
  have b := hq.1 j (by omega) jn
  rw [ef _ a.1 a.2, ef _ b.1 b.2]
  exact h.2 i j i0 ij jn hi hj
/-- the least of the greatest sets -/
def MS (q f : Int → Int) (n : Int) (M : Nat) : Prop := CH q f n M ∧ ∀ N : Nat, CH q f n N → pcF N 20 ≤ pcF M 20 ∧ (pcF N 20 = pcF M 20 → M ≤ N)
theorem MS.uniq {q f : Int → Int} {n : Int} {M N : Nat} (h : MS q f n M) (h' : MS q f n N) : M = N := by
  have a := h.2 N h'.1
  have b := h'.2 M h.1
  have e : pcF N 20 = pcF M 20 := by omega
  have := a.2 e
  have := b.2 e.symm
  omega
/-- the greatest number, in the class -/
def DPc (q f : Int → Int) (n : Int) (A : Nat) (L : Int → Int) (k : Int) : Prop := (A.testBit (q k).toNat = false ∧ L k = 0) ∨ (A.testBit (q k).toNat = true ∧ (1 ≤ L k ∧ L k ≤ k + 1) ∧ (∃ M : Nat, CH q f n M ∧ LA q n M k ∧ (∀ x : Nat, M.testBit x = true → A.testBit x = true) ∧ (pcF M 20 : Int) = L k) ∧ ∀ M : Nat, CH q f n M → LA q n M k → (∀ x : Nat, M.testBit x = true → A.testBit x = true) → (pcF M 20 : Int) ≤ L k)
theorem DPc.bd {q f : Int → Int} {n k : Int} {A : Nat} {L : Int → Int} (h : DPc q f n A L k) (hk : 0 ≤ k) : 0 ≤ L k ∧ L k ≤ k + 1 := by
  rcases h with h | h
  · have := h.2; omega
  · have := h.2.1; omega
theorem DPc.step {q f : Int → Int} {n k v : Int} {A : Nat} {L L' : Int → Int} (hq : PM q n) (n20 : n ≤ 20) (hk : 0 ≤ k ∧ k < n) (h : ∀ j : Int, 0 ≤ j → j < k → DPc q f n A L j) (hA : A.testBit (q k).toNat = true) (v0 : 0 ≤ v ∧ v ≤ k) (v1 : ∀ j : Int, 0 ≤ j → j < k → f (q j) < f (q k) → L j ≤ v) (v2 : v = 0 ∨ ∃ j : Int, 0 ≤ j ∧ j < k ∧ f (q j) < f (q k) ∧ L j = v) (hL : L' k = v + 1) : DPc q f n A L' k := by
  have qb := hq.1 k hk.1 hk.2
  refine Or.inr ⟨hA, by omega, ?_, fun M c1 c2 c3 => ?_⟩
  · rw [hL]
    by_cases z : v = 0
    · obtain ⟨o1, o2⟩ := CH.one (f := f) hq hk
      refine ⟨_, o1, o2, fun x hx => ?_, ?_⟩
      · rw [(or2_bit.mp hx).resolve_left (by rw [Nat.zero_testBit]; decide)]; exact hA
      · rw [pc_or (Nat.zero_testBit _), pc_0, if_pos (by omega)]; omega
    · obtain ⟨j, j0, j1, j2, j3⟩ := v2.resolve_left z
      rcases h j j0 j1 with g | ⟨g1, g2, ⟨M, m1, m2, m3, m4⟩, g4⟩
      · have := g.2; omega
      · obtain ⟨p1, p2, p3⟩ := m1.put hq hk.2 ⟨j0, j1⟩ m2 j2
        refine ⟨_, p2, p3, fun x hx => ?_, ?_⟩
        · rcases or2_bit.mp hx with y | y
          · exact m3 x y
          · rw [y]; exact hA
        · rw [pc_or p1, if_pos (by omega)]; omega
  · obtain ⟨N, d1, d2, d3, d4, d5⟩ := c1.dec hq hk c2
    rw [hL, d1, pc_or d2, if_pos (by omega)]
    rcases d5 with z | ⟨j, j0, j1, j2, j3⟩
    · rw [z, pc_0]; omega
    · have := v1 j j0 j1 j3
      rcases h j j0 j1 with g | ⟨g1, g2, g3, g4⟩
      · have a := c3 _ (d4 _ j2.1)
        rw [g.1] at a
        exact absurd a (by decide)
      · have := g4 N d3 j2 (fun x hx => c3 x (d4 x hx))
        omega
/-- the greatest number and the least set, in the reference -/
def DPr (q f : Int → Int) (n : Int) (C D : Int → Int) (k : Int) : Prop := (1 ≤ C k ∧ C k ≤ k + 1) ∧ ∃ S : Nat, D k = S ∧ S < 1048576 ∧ CH q f n S ∧ LA q n S k ∧ (pcF S 20 : Int) = C k ∧ ∀ M : Nat, CH q f n M → LA q n M k → (pcF M 20 : Int) ≤ C k ∧ ((pcF M 20 : Int) = C k → S ≤ M)
theorem DPr.step {q f : Int → Int} {n k c : Int} {T : Nat} {C D C' D' : Int → Int} (hq : PM q n) (n20 : n ≤ 20) (hk : 0 ≤ k ∧ k < n) (h : ∀ j : Int, 0 ≤ j → j < k → DPr q f n C D j) (v1 : ∀ j : Int, 0 ≤ j → j < k → f (q j) < f (q k) → C j + 1 < c ∨ (C j + 1 = c ∧ (T : Int) ≤ D j)) (v2 : (c = 1 ∧ T = 0) ∨ ∃ j : Int, 0 ≤ j ∧ j < k ∧ f (q j) < f (q k) ∧ c = C j + 1 ∧ (T : Int) = D j) (hC : C' k = c) (hD : D' k = ((T ||| 2 ^ (q k).toNat : Nat) : Int)) : DPr q f n C' D' k := by
  have qb := hq.1 k hk.1 hk.2
  have two : 2 ^ n.toNat ≤ 1048576 := by
    rw [show 1048576 = 2 ^ 20 from rfl]
    exact Nat.pow_le_pow_right (by decide) (by omega)
  have cb : 1 ≤ c ∧ c ≤ k + 1 := by
    rcases v2 with z | ⟨j, j0, j1, _, z, _⟩
    · omega
    · have := (h j j0 j1).1; omega
  have key : T.testBit (q k).toNat = false ∧ CH q f n (T ||| 2 ^ (q k).toNat) ∧ LA q n (T ||| 2 ^ (q k).toNat) k ∧ (pcF T 20 : Int) + 1 = c ∧ T < 2 ^ n.toNat := by
    rcases v2 with z | ⟨j, j0, j1, z1, z2, z3⟩
    · rw [z.2]
      obtain ⟨o1, o2⟩ := CH.one (f := f) hq hk
      exact ⟨Nat.zero_testBit _, o1, o2, by rw [pc_0]; omega, Nat.pow_pos (by decide)⟩
    · obtain ⟨_, S, s1, s2, s3, s4, s5, s6⟩ := h j j0 j1
      have e : T = S := by omega
      rw [e]
      obtain ⟨p1, p2, p3⟩ := s3.put hq hk.2 ⟨j0, j1⟩ s4 z1
      exact ⟨p1, p2, p3, by omega, s3.1⟩
  obtain ⟨k1, k2, k3, k4, k5⟩ := key
  have pcT : (pcF (T ||| 2 ^ (q k).toNat) 20 : Int) = c := by rw [pc_or k1, if_pos (by omega)]; omega
  refine ⟨by rw [hC]; exact cb, _, hD, Nat.lt_of_lt_of_le k2.1 two, k2, k3, by rw [hC]; exact pcT, fun M c1 c2 => ?_⟩
  obtain ⟨N, d1, d2, d3, d4, d5⟩ := c1.dec hq hk c2
  have pN : pcF M 20 = pcF N 20 + 1 := by rw [d1, pc_or d2, if_pos (by omega)]
  have le : T ≤ N → T ||| 2 ^ (q k).toNat ≤ M := fun z => by
    have := d3.1
    rw [d1, or_add (by omega) (by omega) k1, or_add (by omega) (by omega) d2]
    omega
  rw [hC]
  rcases d5 with z | ⟨j, j0, j1, j2, j3⟩
  · rw [z, pc_0] at pN
    refine ⟨by omega, fun e => le ?_⟩
    rcases v2 with y | ⟨j, j0, j1, y1, y2, y3⟩
    · omega
    · have := (h j j0 j1).1; omega
  · obtain ⟨_, S, s1, s2, s3, s4, s5, s6⟩ := h j j0 j1
    have a := s6 N d3 j2
    rcases v1 j j0 j1 j3 with y | y
    · exact ⟨by omega, fun e => by omega⟩
    · refine ⟨by omega, fun e => le ?_⟩
      have := a.2 (by omega)
      omega
