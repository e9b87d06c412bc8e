/-! PACKED rows of digits -/
def pq (B : Int) (f : Int → Int) : Nat → Int
  | 0 => 0
  | n + 1 => B * pq B f n + f n
theorem pq_bd {B : Int} {f : Int → Int} (hB : 0 < B) : ∀ n : Nat, (∀ i : Nat, i < n → 0 ≤ f i ∧ f i < B) → 0 ≤ pq B f n ∧ pq B f n < B ^ n := by
  intro n
  induction n with
  | zero => intro _; exact ⟨Int.le_refl 0, by simp [pq]⟩
  | succ n ih =>
    intro h
    have h1 := ih (fun i hi => h i (by omega))
    have h2 := h n (by omega)
    have e : B ^ (n + 1) = B * B ^ n := by rw [Int.pow_succ, Int.mul_comm]
    refine ⟨?_, ?_⟩
    · have : 0 ≤ B * pq B f n := Int.mul_nonneg (by omega) h1.1
      show 0 ≤ B * pq B f n + f n
      omega
    · show B * pq B f n + f n < B ^ (n + 1)
      rw [e]
      have h3 : B * (pq B f n + 1) ≤ B * B ^ n := Int.mul_le_mul_of_nonneg_left (by omega) (by omega)
      rw [Int.mul_add] at h3
      omega
theorem pq_ext {B : Int} {f g : Int → Int} : ∀ n : Nat, (∀ i : Nat, i < n → f i = g i) → pq B f n = pq B g n := by
  intro n
  induction n with
  | zero => intro _; rfl
  | succ n ih =>
    intro h
    show B * pq B f n + f n = B * pq B g n + g n
    rw [ih (fun i hi => h i (by omega)), h n (by omega)]
theorem pq_div {B : Int} {f : Int → Int} (hB : 0 < B) {n : Nat} (h : ∀ i : Nat, i < n → 0 ≤ f i ∧ f i < B) : ∀ j : Nat, j ≤ n → pq B f n / B ^ j = pq B f (n - j) := by
  intro j
  induction j with
  | zero => intro _; simp
  | succ j ih =>
    intro hj
    have e : n - j = (n - (j + 1)) + 1 := by omega
    have h2 := h (n - (j + 1)) (by omega)
    rw [Int.pow_succ, ← Int.ediv_ediv_of_nonneg (Int.le_of_lt (Int.pow_pos hB)), ih (by omega), e]
    show (B * pq B f (n - (j + 1)) + f (n - (j + 1) : Nat)) / B = pq B f (n - (j + 1))
    rw [Int.add_comm, Int.add_mul_ediv_left _ _ (by omega), Int.ediv_eq_zero_of_lt h2.1 h2.2]
    omega
theorem pq_dig {B : Int} {f : Int → Int} (hB : 0 < B) {n i : Nat} (h : ∀ i : Nat, i < n → 0 ≤ f i ∧ f i < B) (hi : i < n) : pq B f n / B ^ (n - 1 - i) % B = f i := by
  rw [pq_div hB h (n - 1 - i) (by omega), show n - (n - 1 - i) = i + 1 by omega]
  have h2 := h i hi
  show (B * pq B f i + f i) % B = f i
  rw [Int.add_comm, Int.add_mul_emod_self_left, Int.emod_eq_of_lt h2.1 h2.2]
theorem pq_inj {B : Int} {f g : Int → Int} (hB : 0 < B) {n : Nat} (hf : ∀ i : Nat, i < n → 0 ≤ f i ∧ f i < B) (hg : ∀ i : Nat, i < n → 0 ≤ g i ∧ g i < B) (e : pq B f n = pq B g n) : ∀ i : Nat, i < n → f i = g i := by
  intro i hi
  rw [← pq_dig hB hf hi, ← pq_dig hB hg hi, e]
/-- the lesser at the first unlikeness -/
theorem pq_lt {B : Int} {f g : Int → Int} (hB : 0 < B) {n j : Nat} (hf : ∀ i : Nat, i < n → 0 ≤ f i ∧ f i < B) (hg : ∀ i : Nat, i < n → 0 ≤ g i ∧ g i < B) (hj : j < n) (he : ∀ i : Nat, i < j → f i = g i) (hl : f j < g j) : pq B f n < pq B g n := by
  have key : ∀ k : Nat, j + 1 + k ≤ n → pq B f (j + 1 + k) < pq B g (j + 1 + k) := by
    intro k
    induction k with
    | zero =>
      intro _
      show B * pq B f j + f j < B * pq B g j + g j
      rw [pq_ext j he]
      omega
    | succ k ih =>
      intro hk
      have h1 := ih (by omega)
      have h2 := hf (j + 1 + k) (by omega)
      have h3 := hg (j + 1 + k) (by omega)
      show B * pq B f (j + 1 + k) + f (j + 1 + k : Nat) < B * pq B g (j + 1 + k) + g (j + 1 + k : Nat)
      have h4 : B * (pq B f (j + 1 + k) + 1) ≤ B * pq B g (j + 1 + k) := Int.mul_le_mul_of_nonneg_left (by omega) (by omega)
      rw [Int.mul_add] at h4
      omega
  have := key (n - (j + 1)) (by omega)
  rwa [show j + 1 + (n - (j + 1)) = n by omega] at this
/-- a NAME of n letters f, as a packed row of six -/
def ltD (n : Int) (f : Int → Int) : Int → Int := fun k => if k < n then f k + 1 else 0
def NmR (p n : Int) (f : Int → Int) : Prop := (0 ≤ n ∧ n ≤ 6) ∧ (∀ k : Int, 0 ≤ k → k < n → 0 ≤ f k ∧ f k < 26) ∧ p = pq 32 (ltD n f) 6
/-- an ORDER of K letters f, packed -/
def OdR (K o : Int) (f : Int → Int) : Prop := (2 ≤ K ∧ K ≤ 8) ∧ (∀ i : Int, 0 ≤ i → i < K → 0 ≤ f i ∧ f i < K) ∧ (∀ i j : Int, 0 ≤ i → i < K → 0 ≤ j → j < K → f i = f j → i = j) ∧ o = pq 8 f K.toNat
theorem ltD_bd {n : Int} {f : Int → Int} (h : ∀ k : Int, 0 ≤ k → k < n → 0 ≤ f k ∧ f k < 26) : ∀ i : Nat, i < 6 → 0 ≤ ltD n f i ∧ ltD n f i < 32 := by
  intro i hi
  unfold ltD
  by_cases q : (i : Int) < n
  · rw [if_pos q]; have := h i (by omega) q; omega
  · rw [if_neg q]; omega
theorem NmR.bd {p n : Int} {f : Int → Int} (h : NmR p n f) : 0 ≤ p ∧ p < 1073741824 := by
  have := pq_bd (B := 32) (by decide) 6 (ltD_bd h.2.1)
  rw [h.2.2]
  exact this
theorem nl_eq {p i : Int} (hp : 0 ≤ p ∧ p < 1073741824) (hi : 0 ≤ i ∧ i < 6) : xand (xshr p (5 * (5 - i))) 31 - 1 = p / 32 ^ (5 - i).toNat % 32 - 1 := by
  have hs : xshr p (5 * (5 - i)) = p / 2 ^ (5 * (5 - i)).toNat := xshr_int hp.1 (by omega) (by omega) (by omega)
  have e : (2 : Int) ^ (5 * (5 - i)).toNat = 32 ^ (5 - i).toNat := by
    have : i = 0 ∨ i = 1 ∨ i = 2 ∨ i = 3 ∨ i = 4 ∨ i = 5 := by omega
    rcases this with rfl | rfl | rfl | rfl | rfl | rfl <;> decide
  have h0 : 0 ≤ p / 32 ^ (5 - i).toNat := Int.ediv_nonneg hp.1 (Int.le_of_lt (Int.pow_pos (by decide)))
  have h1 : p / 32 ^ (5 - i).toNat ≤ p := Int.ediv_le_self _ hp.1
  rw [hs, e, xand31 h0 (by omega)]
theorem NmR.letter {p n i : Int} {f : Int → Int} (h : NmR p n f) (hi : 0 ≤ i ∧ i < 6) : xand (xshr p (5 * (5 - i))) 31 - 1 = if i < n then f i else -1 := by
  rw [nl_eq h.bd hi, h.2.2]
  obtain ⟨k, rfl⟩ := Int.eq_ofNat_of_zero_le hi.1
  have hk : k < 6 := by have := hi.2; omega
  have hd := pq_dig (B := 32) (by decide) (ltD_bd h.2.1) hk
  rw [show (5 - ((k : Nat) : Int)).toNat = 6 - 1 - k by omega]
  rw [hd]
  show (if ((k : Nat) : Int) < n then f k + 1 else 0) - 1 = _
  by_cases q : ((k : Nat) : Int) < n
  · rw [if_pos q, if_pos q]; omega
  · rw [if_neg q, if_neg q]; omega
theorem OdR.bd {K o : Int} {f : Int → Int} (h : OdR K o f) : 0 ≤ o ∧ o < 16777216 := by
  have hb := pq_bd (B := 8) (by decide) K.toNat (f := f) (fun i hi => by have := h.2.1 i (by omega) (by omega); have := h.1; omega)
  rw [h.2.2.2]
  refine ⟨hb.1, Int.lt_of_lt_of_le hb.2 ?_⟩
  have : K.toNat = 2 ∨ K.toNat = 3 ∨ K.toNat = 4 ∨ K.toNat = 5 ∨ K.toNat = 6 ∨ K.toNat = 7 ∨ K.toNat = 8 := by have := h.1; omega
  rcases this with e | e | e | e | e | e | e <;> rw [e] <;> decide
theorem ol_eq {o j : Int} (ho : 0 ≤ o ∧ o < 16777216) (hj : 0 ≤ j ∧ j < 8) : xand (xshr o (3 * j)) 7 = o / 8 ^ j.toNat % 8 := by
  have hs : xshr o (3 * j) = o / 2 ^ (3 * j).toNat := xshr_int ho.1 (by omega) (by omega) (by omega)
  have e : (2 : Int) ^ (3 * j).toNat = 8 ^ j.toNat := by
    have : j = 0 ∨ j = 1 ∨ j = 2 ∨ j = 3 ∨ j = 4 ∨ j = 5 ∨ j = 6 ∨ j = 7 := by omega
    rcases this with rfl | rfl | rfl | rfl | rfl | rfl | rfl | rfl <;> decide
  have h0 : 0 ≤ o / 8 ^ j.toNat := Int.ediv_nonneg ho.1 (Int.le_of_lt (Int.pow_pos (by decide)))
  have h1 : o / 8 ^ j.toNat ≤ o := Int.ediv_le_self _ ho.1
  rw [hs, e, xand7 h0 (by omega)]
theorem OdR.letter {K o i : Int} {f : Int → Int} (h : OdR K o f) (hi : 0 ≤ i ∧ i < K) : xand (xshr o (3 * (K - 1 - i))) 7 = f i := by
  have hK := h.1
  rw [ol_eq h.bd ⟨by omega, by omega⟩]
  have hd := pq_dig (B := 8) (f := f) (n := K.toNat) (i := i.toNat) (by decide) (fun i hi => by have := h.2.1 i (by omega) (by omega); have := h.1; omega) (by omega)
  rw [h.2.2.2, show (K - 1 - i).toNat = K.toNat - 1 - i.toNat by omega, hd, Int.toNat_of_nonneg hi.1]
