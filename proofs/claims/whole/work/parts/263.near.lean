/-! THE ORDER NEAREST TO ALL: set by set -/
def clr (m l : Nat) : Nat := m &&& (255 ^^^ 2 ^ l)
theorem xclr_all : ∀ l : Fin 8, ∀ m : Fin 256, xand ((m.val : Nat) : Int) (xxor (xshl 1 ((l.val : Nat) : Int)) (-1)) = ((clr m.val l.val : Nat) : Int) := by decide +kernel
theorem clr_all : ∀ l : Fin 8, ∀ m : Fin 256, clr m.val l.val ≤ m.val ∧ (m.val.testBit l.val = true → clr m.val l.val < m.val ∧ pcF (clr m.val l.val) 8 + 1 = pcF m.val 8) := by decide +kernel
theorem clr_bits : ∀ l j : Fin 8, ∀ m : Fin 256, (clr m.val l.val).testBit j.val = (m.val.testBit j.val && decide (j.val ≠ l.val)) := by decide +kernel
theorem pc_full : ∀ K : Fin 9, pcF (2 ^ K.val - 1) 8 = K.val := by decide +kernel
theorem pc_zero : ∀ m : Fin 256, pcF m.val 8 = 0 → m.val = 0 := by decide +kernel
theorem some_bit : ∀ m : Fin 256, m.val ≠ 0 → ∃ l : Fin 8, m.val.testBit l.val = true := by decide +kernel
theorem xclr {m l : Nat} (hm : m < 256) (hl : l < 8) : xand (m : Int) (xxor (xshl 1 (l : Int)) (-1)) = ((clr m l : Nat) : Int) := xclr_all ⟨l, hl⟩ ⟨m, hm⟩
theorem clr_le {m l : Nat} (hm : m < 256) (hl : l < 8) : clr m l ≤ m := (clr_all ⟨l, hl⟩ ⟨m, hm⟩).1
theorem clr_lt {m l : Nat} (hm : m < 256) (hl : l < 8) (h : m.testBit l = true) : clr m l < m ∧ pcF (clr m l) 8 + 1 = pcF m 8 := (clr_all ⟨l, hl⟩ ⟨m, hm⟩).2 h
theorem clr_bit {m l j : Nat} (hm : m < 256) (hl : l < 8) (hj : j < 8) : (clr m l).testBit j = true ↔ m.testBit j = true ∧ j ≠ l := by
  have := clr_bits ⟨l, hl⟩ ⟨j, hj⟩ ⟨m, hm⟩
  simp only at this
  rw [this, Bool.and_eq_true, decide_eq_true_eq]
/-- what is FOR a over all of the set m -/
def sovF (ov : Int → Int → Int) (m : Nat) (a : Int) : Nat → Int
  | 0 => 0
  | k + 1 => sovF ov m a k + if m.testBit k = true then ov a k else 0
theorem sovF_s (ov : Int → Int → Int) (m : Nat) (a : Int) {k : Int} (hk : 0 ≤ k) : sovF ov m a (k + 1).toNat = sovF ov m a k.toNat + if m.testBit k.toNat = true then ov a k else 0 := by
  obtain ⟨n, rfl⟩ := Int.eq_ofNat_of_zero_le hk
  rfl
theorem sovF_bd {ov : Int → Int → Int} {m : Nat} {a K : Int} (h : ∀ b : Int, 0 ≤ b → b < K → 0 ≤ ov a b ∧ ov a b ≤ 108) : ∀ k : Nat, (k : Int) ≤ K → 0 ≤ sovF ov m a k ∧ sovF ov m a k ≤ 108 * k
  | 0, _ => by show (0 : Int) ≤ 0 ∧ (0 : Int) ≤ 108 * ((0 : Nat) : Int); decide
  | k + 1, hk => by
    have ih := sovF_bd (m := m) h k (by omega)
    have b := h k (by omega) (by omega)
    show 0 ≤ sovF ov m a k + (if m.testBit k = true then ov a k else 0) ∧ sovF ov m a k + (if m.testBit k = true then ov a k else 0) ≤ 108 * ((k + 1 : Nat) : Int)
    by_cases q : m.testBit k = true
    · rw [if_pos q]; omega
    · rw [if_neg q]; omega
def scF (ov : Int → Int → Int) (K : Int) (A : Nat → Int) (m l : Nat) : Int := sovF ov (clr m l) l K.toNat + A (clr m l)
def mxF (ov : Int → Int → Int) (K : Int) (A : Nat → Int) (m : Nat) : Nat → Int
  | 0 => -1
  | k + 1 => if m.testBit k = true ∧ mxF ov K A m k < scF ov K A m k then scF ov K A m k else mxF ov K A m k
def fsF (ov : Int → Int → Int) (K : Int) (A : Nat → Int) (m : Nat) : Nat → Int
  | 0 => -1
  | k + 1 => if m.testBit k = true ∧ mxF ov K A m k < scF ov K A m k then (k : Int) else fsF ov K A m k
theorem mxF_congr {ov : Int → Int → Int} {K : Int} {A A' : Nat → Int} {m : Nat} (hm : m < 256) (e : ∀ j : Nat, j < m → A j = A' j) : ∀ k : Nat, k ≤ 8 → mxF ov K A m k = mxF ov K A' m k
  | 0, _ => rfl
  | k + 1, hk => by
    show (if m.testBit k = true ∧ mxF ov K A m k < scF ov K A m k then scF ov K A m k else mxF ov K A m k) = (if m.testBit k = true ∧ mxF ov K A' m k < scF ov K A' m k then scF ov K A' m k else mxF ov K A' m k)
    rw [mxF_congr hm e k (by omega)]
    by_cases q : m.testBit k = true
    · have es : scF ov K A m k = scF ov K A' m k := by
        unfold scF
        rw [e _ (clr_lt hm (by omega) q).1]
      rw [es]
    · rw [if_neg (fun z => q z.1), if_neg (fun z => q z.1)]
/-- the greatest agreement, with so much to go on -/
def agN (ov : Int → Int → Int) (K : Int) : Nat → Nat → Int
  | 0, _ => 0
  | f + 1, m => if m = 0 then 0 else mxF ov K (agN ov K f) m K.toNat
theorem agN_st {ov : Int → Int → Int} {K : Int} (hK : K ≤ 8) : ∀ f m : Nat, m ≤ f → m < 256 → agN ov K f m = agN ov K (f + 1) m
  | 0, m, h, _ => by
    have : m = 0 := by omega
    subst this
    show (0 : Int) = if 0 = 0 then 0 else _
    rw [if_pos rfl]
  | f + 1, m, h, h2 => by
    show (if m = 0 then 0 else mxF ov K (agN ov K f) m K.toNat) = (if m = 0 then 0 else mxF ov K (agN ov K (f + 1)) m K.toNat)
    by_cases q : m = 0
    · rw [if_pos q, if_pos q]
    · rw [if_neg q, if_neg q]
      exact mxF_congr h2 (fun j hj => agN_st hK f j (by omega) (by omega)) _ (by omega)
def agA (ov : Int → Int → Int) (K : Int) : Nat → Int := agN ov K 256
theorem agA_0 (ov : Int → Int → Int) (K : Int) : agA ov K 0 = 0 := by
  unfold agA
  show (if 0 = 0 then 0 else _) = (0 : Int)
  rw [if_pos rfl]
theorem agA_s {ov : Int → Int → Int} {K : Int} (hK : K ≤ 8) {m : Nat} (h0 : m ≠ 0) (hm : m < 256) : agA ov K m = mxF ov K (agA ov K) m K.toNat := by
  unfold agA
  rw [agN_st hK 256 m (by omega) hm]
  show (if m = 0 then 0 else mxF ov K (agN ov K 256) m K.toNat) = _
  rw [if_neg h0]
theorem mxF_bd {ov : Int → Int → Int} {K : Int} {A : Nat → Int} {m : Nat} {B : Int} (hB : 0 ≤ B) (hA : ∀ j : Nat, A j ≤ B) (h : ∀ a b : Int, 0 ≤ a → a < K → 0 ≤ b → b < K → 0 ≤ ov a b ∧ ov a b ≤ 108) (hK : 0 ≤ K ∧ K ≤ 8) : ∀ k : Nat, (k : Int) ≤ K → -1 ≤ mxF ov K A m k ∧ mxF ov K A m k ≤ B + 864
  | 0, _ => by show (-1 : Int) ≤ -1 ∧ (-1 : Int) ≤ B + 864; omega
  | k + 1, hk => by
    have ih := mxF_bd (m := m) hB hA h hK k (by omega)
    show -1 ≤ (if m.testBit k = true ∧ mxF ov K A m k < scF ov K A m k then scF ov K A m k else mxF ov K A m k) ∧ (if m.testBit k = true ∧ mxF ov K A m k < scF ov K A m k then scF ov K A m k else mxF ov K A m k) ≤ B + 864
    by_cases q : m.testBit k = true ∧ mxF ov K A m k < scF ov K A m k
    · rw [if_pos q]
      have b := sovF_bd (m := clr m k) (a := k) (K := K) (ov := ov) (fun b b0 b1 => h k b (by omega) (by omega) b0 b1) K.toNat (by omega)
      have a := hA (clr m k)
      have e : scF ov K A m k = sovF ov (clr m k) k K.toNat + A (clr m k) := rfl
      omega
    · rw [if_neg q]; exact ih
theorem agN_bd {ov : Int → Int → Int} {K : Int} (h : ∀ a b : Int, 0 ≤ a → a < K → 0 ≤ b → b < K → 0 ≤ ov a b ∧ ov a b ≤ 108) (hK : 0 ≤ K ∧ K ≤ 8) : ∀ f m : Nat, -1 ≤ agN ov K f m ∧ agN ov K f m ≤ 864 * f
  | 0, m => by show (-1 : Int) ≤ 0 ∧ (0 : Int) ≤ 864 * ((0 : Nat) : Int); decide
  | f + 1, m => by
    show -1 ≤ (if m = 0 then 0 else mxF ov K (agN ov K f) m K.toNat) ∧ (if m = 0 then 0 else mxF ov K (agN ov K f) m K.toNat) ≤ 864 * ((f + 1 : Nat) : Int)
    by_cases q : m = 0
    · rw [if_pos q]; omega
    · rw [if_neg q]
      have := mxF_bd (m := m) (B := 864 * f) (A := agN ov K f) (by omega) (fun j => (agN_bd h hK f j).2) h hK K.toNat (by omega)
      omega
theorem agA_bd {ov : Int → Int → Int} {K : Int} (h : ∀ a b : Int, 0 ≤ a → a < K → 0 ≤ b → b < K → 0 ≤ ov a b ∧ ov a b ≤ 108) (hK : 0 ≤ K ∧ K ≤ 8) (m : Nat) : -1 ≤ agA ov K m ∧ agA ov K m ≤ 221184 := by
  have := agN_bd h hK 256 m
  unfold agA
  omega
/-- the first LETTER of the nearest ORDER of the set m -/
def fsA (ov : Int → Int → Int) (K : Int) (m : Nat) : Int := fsF ov K (agA ov K) m K.toNat
/-- which LETTER is first: of m, as good as any, and none before it is -/
theorem fsF_is {ov : Int → Int → Int} {K : Int} {A : Nat → Int} {m : Nat} : ∀ k : Nat, (fsF ov K A m k = -1 ∧ mxF ov K A m k = -1 ∧ ∀ j : Nat, j < k → m.testBit j = true → scF ov K A m j ≤ -1) ∨ (∃ l : Nat, l < k ∧ fsF ov K A m k = l ∧ m.testBit l = true ∧ scF ov K A m l = mxF ov K A m k ∧ (∀ j : Nat, j < l → m.testBit j = true → scF ov K A m j < mxF ov K A m k) ∧ ∀ j : Nat, j < k → m.testBit j = true → scF ov K A m j ≤ mxF ov K A m k)
  | 0 => Or.inl ⟨rfl, rfl, fun j hj => absurd hj (by omega)⟩
  | k + 1 => by
    have ih := fsF_is (ov := ov) (K := K) (A := A) (m := m) k
    have ef : fsF ov K A m (k + 1) = if m.testBit k = true ∧ mxF ov K A m k < scF ov K A m k then (k : Int) else fsF ov K A m k := rfl
    have em : mxF ov K A m (k + 1) = if m.testBit k = true ∧ mxF ov K A m k < scF ov K A m k then scF ov K A m k else mxF ov K A m k := rfl
    by_cases q : m.testBit k = true ∧ mxF ov K A m k < scF ov K A m k
    · rw [if_pos q] at ef em
      refine Or.inr ⟨k, by omega, ef, q.1, em.symm, fun j hj hb => ?_, fun j hj hb => ?_⟩
      · rcases ih with ⟨_, i2, i3⟩ | ⟨l, _, _, _, _, _, i6⟩
        · have := i3 j hj hb; omega
        · have := i6 j hj hb; omega
      · by_cases e : j = k
        · subst e; omega
        · rcases ih with ⟨_, i2, i3⟩ | ⟨l, _, _, _, _, _, i6⟩
          · have := i3 j (by omega) hb; omega
          · have := i6 j (by omega) hb; omega
    · rw [if_neg q] at ef em
      rcases ih with ⟨i1, i2, i3⟩ | ⟨l, i1, i2, i3, i4, i5, i6⟩
      · refine Or.inl ⟨by rw [ef, i1], by rw [em, i2], fun j hj hb => ?_⟩
        by_cases e : j = k
        · subst e
          have : ¬ mxF ov K A m j < scF ov K A m j := fun z => q ⟨hb, z⟩
          omega
        · exact i3 j (by omega) hb
      · refine Or.inr ⟨l, by omega, by rw [ef, i2], i3, by rw [em, i4], fun j hj hb => by rw [em]; exact i5 j hj hb, fun j hj hb => ?_⟩
        rw [em]
        by_cases e : j = k
        · subst e
          have : ¬ mxF ov K A m j < scF ov K A m j := fun z => q ⟨hb, z⟩
          omega
        · exact i6 j (by omega) hb
theorem scF_nn {ov : Int → Int → Int} {K : Int} {A : Nat → Int} {m l : Nat} (h : ∀ a b : Int, 0 ≤ a → a < K → 0 ≤ b → b < K → 0 ≤ ov a b ∧ ov a b ≤ 108) (hK : 0 ≤ K) (hl : (l : Int) < K) (hA : 0 ≤ A (clr m l)) : 0 ≤ scF ov K A m l := by
  have := sovF_bd (m := clr m l) (a := l) (K := K) (ov := ov) (fun b b0 b1 => h l b (by omega) hl b0 b1) K.toNat (by omega)
  unfold scF
  omega
/-- LETTERS of a set stand below K -/
theorem bit_lt {m l : Nat} {K : Int} (hm : m < 2 ^ K.toNat) (h : m.testBit l = true) : (l : Int) < K := by
  by_cases q : (l : Int) < K
  · exact q
  · have : (2 : Nat) ^ K.toNat ≤ 2 ^ l := Nat.pow_le_pow_right (by decide) (by omega)
    rw [Nat.testBit_lt_two_pow (by omega)] at h
    exact absurd h (by decide)
theorem pow_256 {K : Int} (hK : K ≤ 8) : 2 ^ K.toNat ≤ 256 := by
  have : (2 : Nat) ^ K.toNat ≤ 2 ^ 8 := Nat.pow_le_pow_right (by decide) (by omega)
  omega
theorem agA_nn {ov : Int → Int → Int} {K : Int} (h : ∀ a b : Int, 0 ≤ a → a < K → 0 ≤ b → b < K → 0 ≤ ov a b ∧ ov a b ≤ 108) (hK : 0 ≤ K ∧ K ≤ 8) : ∀ n m : Nat, m ≤ n → m < 2 ^ K.toNat → 0 ≤ agA ov K m
  | 0, m, hn, _ => by
    have : m = 0 := by omega
    subst this
    rw [agA_0]; decide
  | n + 1, m, hn, hm => by
    by_cases q : m = 0
    · rw [q, agA_0]; decide
    · have p2 := pow_256 hK.2
      rw [agA_s hK.2 q (by omega)]
      obtain ⟨l, hl⟩ := some_bit ⟨m, by omega⟩ q
      simp only at hl
      have lK := bit_lt hm hl
      have lt := (clr_lt (m := m) (l := l.val) (by omega) l.isLt hl).1
      have s0 := scF_nn (A := agA ov K) (m := m) (l := l.val) h hK.1 lK (agA_nn h hK n _ (by omega) (by omega))
      rcases fsF_is (ov := ov) (K := K) (A := agA ov K) (m := m) K.toNat with ⟨_, _, i3⟩ | ⟨_, _, _, _, _, _, i6⟩
      · have := i3 l.val (by omega) hl; omega
      · have := i6 l.val (by omega) hl; omega
theorem fsA_is {ov : Int → Int → Int} {K : Int} (h : ∀ a b : Int, 0 ≤ a → a < K → 0 ≤ b → b < K → 0 ≤ ov a b ∧ ov a b ≤ 108) (hK : 0 ≤ K ∧ K ≤ 8) {m : Nat} (h0 : m ≠ 0) (hm : m < 2 ^ K.toNat) : ∃ l : Nat, (l : Int) < K ∧ fsA ov K m = l ∧ m.testBit l = true ∧ scF ov K (agA ov K) m l = agA ov K m ∧ ∀ j : Nat, j < l → m.testBit j = true → scF ov K (agA ov K) m j ≠ agA ov K m := by
  have p2 := pow_256 hK.2
  have nn := agA_nn h hK m m (Nat.le_refl _) hm
  have es := agA_s (ov := ov) hK.2 h0 (by omega : m < 256)
  rcases fsF_is (ov := ov) (K := K) (A := agA ov K) (m := m) K.toNat with ⟨_, i2, _⟩ | ⟨l, i1, i2, i3, i4, i5, _⟩
  · omega
  · refine ⟨l, by omega, i2, i3, by rw [i4, es], fun j hj hb => ?_⟩
    have := i5 j hj hb
    omega
/-- what is left behind i LETTERS -/
def lfA (ov : Int → Int → Int) (K : Int) (m : Nat) : Nat → Nat
  | 0 => m
  | i + 1 => clr (lfA ov K m i) (fsA ov K (lfA ov K m i)).toNat
/-- the nearest ORDER of the set m -/
def rwA (ov : Int → Int → Int) (K : Int) (m : Nat) (i : Int) : Int := fsA ov K (lfA ov K m i.toNat)
theorem lfA_s (ov : Int → Int → Int) (K : Int) (m : Nat) : ∀ i : Nat, lfA ov K m (i + 1) = lfA ov K (clr m (fsA ov K m).toNat) i
  | 0 => rfl
  | i + 1 => by
    show clr (lfA ov K m (i + 1)) (fsA ov K (lfA ov K m (i + 1))).toNat = clr (lfA ov K (clr m (fsA ov K m).toNat) i) (fsA ov K (lfA ov K (clr m (fsA ov K m).toNat) i)).toNat
    rw [lfA_s ov K m i]
theorem lfA_is {ov : Int → Int → Int} {K : Int} (h : ∀ a b : Int, 0 ≤ a → a < K → 0 ≤ b → b < K → 0 ≤ ov a b ∧ ov a b ≤ 108) (hK : 0 ≤ K ∧ K ≤ 8) {m : Nat} (hm : m < 2 ^ K.toNat) : ∀ i : Nat, i ≤ pcF m 8 → lfA ov K m i < 2 ^ K.toNat ∧ pcF (lfA ov K m i) 8 + i = pcF m 8
  | 0, _ => ⟨hm, rfl⟩
  | i + 1, hi => by
    have p2 := pow_256 hK.2
    obtain ⟨a, b⟩ := lfA_is h hK hm i (by omega)
    have ne : lfA ov K m i ≠ 0 := fun e => by
      rw [e] at b
      have : pcF 0 8 = 0 := by decide
      omega
    obtain ⟨l, l1, l2, l3, _⟩ := fsA_is h hK ne a
    have c := clr_lt (m := lfA ov K m i) (l := l) (by omega) (by omega) l3
    show clr (lfA ov K m i) (fsA ov K (lfA ov K m i)).toNat < 2 ^ K.toNat ∧ pcF (clr (lfA ov K m i) (fsA ov K (lfA ov K m i)).toNat) 8 + (i + 1) = pcF m 8
    rw [l2, show ((l : Nat) : Int).toNat = l by omega]
    omega
theorem lfA_ne {ov : Int → Int → Int} {K : Int} (h : ∀ a b : Int, 0 ≤ a → a < K → 0 ≤ b → b < K → 0 ≤ ov a b ∧ ov a b ≤ 108) (hK : 0 ≤ K ∧ K ≤ 8) {m : Nat} (hm : m < 2 ^ K.toNat) {i : Nat} (hi : i < pcF m 8) : lfA ov K m i ≠ 0 := fun e => by
  have := (lfA_is h hK hm i (by omega)).2
  rw [e] at this
  have z : pcF 0 8 = 0 := by decide
  omega
theorem lfA_bits {ov : Int → Int → Int} {K : Int} (h : ∀ a b : Int, 0 ≤ a → a < K → 0 ≤ b → b < K → 0 ≤ ov a b ∧ ov a b ≤ 108) (hK : 0 ≤ K ∧ K ≤ 8) {m : Nat} (hm : m < 2 ^ K.toNat) {x i : Nat} : ∀ k : Nat, i + 1 + k ≤ pcF m 8 → (lfA ov K m (i + 1 + k)).testBit x = true → x < 8 → (x : Int) ≠ fsA ov K (lfA ov K m i)
  | 0, hk, hx, x8 => by
    have p2 := pow_256 hK.2
    obtain ⟨a, b⟩ := lfA_is h hK hm i (by omega)
    obtain ⟨l, l1, l2, l3, _⟩ := fsA_is h hK (lfA_ne h hK hm (by omega)) a
    have hx' : (clr (lfA ov K m i) (fsA ov K (lfA ov K m i)).toNat).testBit x = true := hx
    rw [l2, show ((l : Nat) : Int).toNat = l by omega, clr_bit (by omega) (by omega) x8] at hx'
    rw [l2]
    have := hx'.2
    omega
  | k + 1, hk, hx, x8 => by
    have p2 := pow_256 hK.2
    obtain ⟨a, b⟩ := lfA_is h hK hm (i + 1 + k) (by omega)
    obtain ⟨l, l1, l2, l3, _⟩ := fsA_is h hK (lfA_ne h hK hm (by omega)) a
    have hx' : (clr (lfA ov K m (i + 1 + k)) (fsA ov K (lfA ov K m (i + 1 + k))).toNat).testBit x = true := hx
    rw [l2, show ((l : Nat) : Int).toNat = l by omega, clr_bit (by omega) (by omega) x8] at hx'
    exact lfA_bits h hK hm k (by omega) hx'.1 x8
theorem rwA_is {ov : Int → Int → Int} {K : Int} (h : ∀ a b : Int, 0 ≤ a → a < K → 0 ≤ b → b < K → 0 ≤ ov a b ∧ ov a b ≤ 108) (hK : 0 ≤ K ∧ K ≤ 8) {m : Nat} (hm : m < 2 ^ K.toNat) {i : Int} (h0 : 0 ≤ i) (h1 : i < pcF m 8) : 0 ≤ rwA ov K m i ∧ rwA ov K m i < K := by
  obtain ⟨a, b⟩ := lfA_is h hK hm i.toNat (by omega)
  obtain ⟨l, l1, l2, l3, _⟩ := fsA_is h hK (lfA_ne h hK hm (by omega)) a
  unfold rwA
  omega
theorem rwA_OdR {ov : Int → Int → Int} {K : Int} (h : ∀ a b : Int, 0 ≤ a → a < K → 0 ≤ b → b < K → 0 ≤ ov a b ∧ ov a b ≤ 108) (hK : 2 ≤ K ∧ K ≤ 8) : OdR K (pq 8 (rwA ov K (2 ^ K.toNat - 1)) K.toNat) (rwA ov K (2 ^ K.toNat - 1)) := by
  have hK' : 0 ≤ K ∧ K ≤ 8 := by omega
  have p0 : 0 < (2 : Nat) ^ K.toNat := Nat.pow_pos (by decide)
  have hm : 2 ^ K.toNat - 1 < 2 ^ K.toNat := by omega
  have pc : pcF (2 ^ K.toNat - 1) 8 = K.toNat := pc_full ⟨K.toNat, by omega⟩
  have lt : ∀ i j : Int, 0 ≤ i → i < j → j < K → rwA ov K (2 ^ K.toNat - 1) i ≠ rwA ov K (2 ^ K.toNat - 1) j := by
    intro i j i0 ij j1 e
    have p2 := pow_256 hK'.2
    obtain ⟨a, b⟩ := lfA_is h hK' hm j.toNat (by omega)
    obtain ⟨l, l1, l2, l3, _⟩ := fsA_is h hK' (lfA_ne h hK' hm (i := j.toNat) (by omega)) a
    have := lfA_bits h hK' hm (x := l) (i := i.toNat) (j.toNat - (i.toNat + 1)) (by omega) (by rw [show i.toNat + 1 + (j.toNat - (i.toNat + 1)) = j.toNat by omega]; exact l3) (by omega)
    unfold rwA at e
    rw [l2] at e
    exact this e.symm
  refine ⟨hK, fun i i0 i1 => rwA_is h hK' hm i0 (by rw [pc]; omega), fun i j i0 i1 j0 j1 e => ?_, rfl⟩
  by_cases q : i < j
  · exact absurd e (lt i j i0 q j1)
  · by_cases q2 : j < i
    · exact absurd e.symm (lt j i j0 q2 i1)
    · omega
