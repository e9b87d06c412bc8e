/-! TEXT: TOKENS of the TAPE -/
def isLt (c : Int) : Prop := (97 ≤ c ∧ c ≤ 122) ∨ (65 ≤ c ∧ c ≤ 90)
def isDg (c : Int) : Prop := 48 ≤ c ∧ c ≤ 57
def isBk (c : Int) : Prop := c = 32 ∨ c = 10
/-- only blanks from j to k, and none at k -/
def SKp (b : Int → Int) (n j k : Int) : Prop := j ≤ k ∧ k ≤ n ∧ (∀ x : Int, j ≤ x → x < k → isBk (b x)) ∧ (k < n → ¬ isBk (b k))
/-- a TOKEN from i to e -/
def RNp (b : Int → Int) (n i e : Int) : Prop := (i < e ∧ e ≤ n) ∧ ((isLt (b i) ∧ (∀ x : Int, i ≤ x → x < e → isLt (b x)) ∧ (e < n → ¬ isLt (b e))) ∨ (isDg (b i) ∧ (∀ x : Int, i ≤ x → x < e → isDg (b x)) ∧ (e < n → ¬ isDg (b e))) ∨ (¬ isLt (b i) ∧ ¬ isDg (b i) ∧ e = i + 1))
theorem RNp.uniq {b : Int → Int} {n i e e' : Int} (h : RNp b n i e) (h' : RNp b n i e') : e' = e := by
  obtain ⟨⟨a1, a2⟩, h⟩ := h
  obtain ⟨⟨b1, b2⟩, h'⟩ := h'
  have ld : ∀ c : Int, isLt c → isDg c → False := fun c x y => by unfold isLt at x; unfold isDg at y; omega
  rcases h with ⟨p1, p2, p3⟩ | ⟨p1, p2, p3⟩ | ⟨p1, p2, p3⟩
  · rcases h' with ⟨q1, q2, q3⟩ | ⟨q1, _⟩ | ⟨q1, _⟩
    · rcases Int.lt_trichotomy e e' with z | z | z
      · exact absurd (q2 e (by omega) z) (p3 (by omega))
      · exact z.symm
      · exact absurd (p2 e' (by omega) z) (q3 (by omega))
    · exact absurd q1 (fun z => ld _ p1 z)
    · exact absurd p1 q1
  · rcases h' with ⟨q1, _⟩ | ⟨q1, q2, q3⟩ | ⟨_, q1, _⟩
    · exact absurd q1 (fun z => ld _ z p1)
    · rcases Int.lt_trichotomy e e' with z | z | z
      · exact absurd (q2 e (by omega) z) (p3 (by omega))
      · exact z.symm
      · exact absurd (p2 e' (by omega) z) (q3 (by omega))
    · exact absurd p1 q1
  · rcases h' with ⟨q1, _⟩ | ⟨q1, _⟩ | ⟨_, _, q1⟩
    · exact absurd q1 p1
    · exact absurd q1 p2
    · omega
def numF (b : Int → Int) (i : Int) : Nat → Int
  | 0 => 0
  | k + 1 => 10 * numF b i k + b (i + k) - 48
theorem numF_s (b : Int → Int) (i : Int) {k : Int} (hk : 0 ≤ k) : numF b i (k + 1).toNat = 10 * numF b i k.toNat + b (i + k) - 48 := by
  obtain ⟨n, rfl⟩ := Int.eq_ofNat_of_zero_le hk
  rfl
theorem numF_bd {b : Int → Int} {i e : Int} (h : ∀ x : Int, i ≤ x → x < e → isDg (b x)) : ∀ k : Nat, i + (k : Int) ≤ e → k ≤ 4 → 0 ≤ numF b i k ∧ numF b i k < 10 ^ k
  | 0, _, _ => by show (0 : Int) ≤ 0 ∧ (0 : Int) < 10 ^ 0; decide
  | k + 1, hk, h4 => by
    have ih := numF_bd h k (by omega) (by omega)
    have d := h (i + k) (by omega) (by omega)
    unfold isDg at d
    show 0 ≤ 10 * numF b i k + b (i + k) - 48 ∧ 10 * numF b i k + b (i + k) - 48 < 10 ^ (k + 1)
    rw [Int.pow_succ]
    omega
/-- which TOKEN it is -/
def tokR (b : Int → Int) (i e t : Int) : Prop := (isLt (b i) ∧ t = if wdF b i e 16 = -1 then 10201 else 10000 + wdF b i e 16) ∨ (isDg (b i) ∧ ((4 < e - i ∧ t = 10201) ∨ (e - i ≤ 4 ∧ t = numF b i (e - i).toNat))) ∨ (¬ isLt (b i) ∧ ¬ isDg (b i) ∧ t = if sgF (b i) 10 < 0 then 10201 else 10100 + sgF (b i) 10)
theorem sg_bd : ∀ c : Fin 256, -1 ≤ sgF (c.val : Int) 10 ∧ sgF (c.val : Int) 10 < 10 := by decide +kernel
theorem tokR.bd {b : Int → Int} {n i e t : Int} (h : tokR b i e t) (r : RNp b n i e) (hb : 0 ≤ b i ∧ b i < 256) : 0 ≤ t ∧ t ≤ 10201 ∧ t ≠ 10200 := by
  rcases h with ⟨_, h⟩ | ⟨h1, h⟩ | ⟨_, _, h⟩
  · have := wdF_bd b i e 16 (by decide)
    rw [h]
    split <;> omega
  · rcases h with ⟨_, h⟩ | ⟨h4, h⟩
    · omega
    · obtain ⟨r0, r1 | ⟨_, r1, _⟩ | ⟨_, r1, _⟩⟩ := r
      · exact absurd h1 (fun z => by have := r1.1; unfold isLt at this; unfold isDg at z; omega)
      · have := numF_bd r1 (e - i).toNat (by omega) (by omega)
        have : (10 : Int) ^ (e - i).toNat ≤ 10 ^ 4 := by
          have q : (10 : Nat) ^ (e - i).toNat ≤ 10 ^ 4 := Nat.pow_le_pow_right (by decide) (by omega)
          have e1 : ((10 ^ (e - i).toNat : Nat) : Int) = 10 ^ (e - i).toNat := by rw [Int.natCast_pow]; rfl
          omega
        omega
      · exact absurd h1 r1
  · have := sg_bd ⟨(b i).toNat, by omega⟩
    simp only [Int.toNat_of_nonneg hb.1] at this
    rw [h]
    split <;> omega
def TKS (b : Int → Int) (n : Int) (T pl en : Nat → Int) (N : Nat) : Prop := T N = 10200 ∧ pl N = n ∧ en N = n ∧ SKp b n 0 (pl 0) ∧ ∀ k : Nat, k < N → (0 ≤ pl k ∧ pl k < n) ∧ RNp b n (pl k) (en k) ∧ tokR b (pl k) (en k) (T k) ∧ SKp b n (en k) (pl (k + 1))
/-! in the class -/
set_option maxHeartbeats 4000000 in
theorem t_X8_runEnd {s : Sto} {n i : Int} (hn : s 1 1 = n) (h : 0 ≤ i ∧ i < n ∧ n ≤ 400) (hb : ∀ x : Int, 0 ≤ x → x < n → 0 ≤ s 2 x ∧ s 2 x < 256) : ClI LY 2 MX8_runEnd [.inr 1, .inl i] s (fun r s' => s' = s ∧ RNp (s 2) n i r) := by
  have bi := hb i h.1 h.2.1
  have rb : ∀ x : Int, 0 ≤ x → x < n → rg (s 2 x) := fun x x0 x1 => by have := hb x x0 x1; exact ⟨by omega, by omega⟩
  refine ClI.intro (by decide) rfl (Nat.le_of_ble_eq_true rfl) (fun X C r => ?_)
  refine kb_X8_runEnd_0 C r ⟨⟨by omega, by omega⟩, 1, _, by decide, t_X9_isLetter (rb i h.1 h.2.1), ?_⟩
  rintro w y ⟨hy, w1, w2⟩
  rw [hy]
  refine ⟨⟨by omega, by omega⟩, 0, _, by decide, t_X9_isDigit (rb i h.1 h.2.1), ?_⟩
  rintro g y' ⟨hy', g1, g2⟩
  rw [hy']
  have wL : w = 1 ↔ isLt (s 2 i) := w2
  have gD : g = 1 ↔ isDg (s 2 i) := g2
  have ld : isLt (s 2 i) → ¬ isDg (s 2 i) := fun x y => by unfold isLt at x; unfold isDg at y; omega
  have rw_ : rg w := ⟨by omega, by omega⟩
  have rg_ : rg g := ⟨by omega, by omega⟩
  have main : (i + 1 ≤ n ∧ ∀ x : Int, i ≤ x → x < i + 1 → (w = 1 → isLt (s 2 x)) ∧ (g = 1 → isDg (s 2 x))) → ((w = 0 ∧ g = 0) → i + 1 = i + 1) → G LY X 25 [rv 1, iv i, iv w, iv g, iv (i + 1)] [] s := by
    refine downI (P := fun k => (k ≤ n ∧ ∀ x : Int, i ≤ x → x < k → (w = 1 → isLt (s 2 x)) ∧ (g = 1 → isDg (s 2 x))) → ((w = 0 ∧ g = 0) → k = i + 1) → G LY X 25 [rv 1, iv i, iv w, iv g, iv k] [] s) (a := i + 1) (b := n) (by omega) ?_ ?_
    · rintro ⟨k1, k2⟩ k3
      refine kb_X8_runEnd_25 C r ?_
      rw [hn]
      refine ⟨⟨⟨by omega, by omega⟩, ⟨by omega, by omega⟩⟩, fun _ => ⟨rfl, ⟨by omega, by omega⟩, ?_⟩, fun z => absurd z (by omega)⟩
      by_cases c1 : w = 1
      · exact Or.inl ⟨wL.mp c1, fun x x0 x1 => (k2 x x0 x1).1 c1, fun z => absurd z (by omega)⟩
      · by_cases c2 : g = 1
        · exact Or.inr (Or.inl ⟨gD.mp c2, fun x x0 x1 => (k2 x x0 x1).2 c2, fun z => absurd z (by omega)⟩)
        · exact Or.inr (Or.inr ⟨fun z => c1 (wL.mpr z), fun z => c2 (gD.mpr z), k3 (by omega)⟩)
    · rintro k k0 kn ih ⟨k1, k2⟩ k3
      have rk := rb k (by omega) kn
      have done : (w = 1 → ¬ isLt (s 2 k)) → (g = 1 → ¬ isDg (s 2 k)) → s = s ∧ RNp (s 2) n i k := fun d1 d2 => by
        refine ⟨rfl, ⟨by omega, by omega⟩, ?_⟩
        by_cases c1 : w = 1
        · exact Or.inl ⟨wL.mp c1, fun x x0 x1 => (k2 x x0 x1).1 c1, fun _ => d1 c1⟩
        · by_cases c2 : g = 1
          · exact Or.inr (Or.inl ⟨gD.mp c2, fun x x0 x1 => (k2 x x0 x1).2 c2, fun _ => d2 c2⟩)
          · exact Or.inr (Or.inr ⟨fun z => c1 (wL.mpr z), fun z => c2 (gD.mpr z), k3 (by omega)⟩)
      have goon : (w = 1 → isLt (s 2 k)) → (g = 1 → isDg (s 2 k)) → ¬ (w = 0 ∧ g = 0) → G LY X 25 [rv 1, iv i, iv w, iv g, iv (k + 1)] [] s := fun d1 d2 d3 => by
        refine ih ⟨by omega, fun x x0 x1 => ?_⟩ (fun z => absurd z d3)
        by_cases e : x = k
        · rw [e]; exact ⟨d1, d2⟩
        · exact k2 x x0 (by omega)
      refine kb_X8_runEnd_25 C r ?_
      rw [hn]
      refine ⟨⟨⟨by omega, by omega⟩, ⟨by omega, by omega⟩⟩, fun z => absurd z (by omega), fun _ => ⟨rw_, fun z => ⟨rg_, fun z2 => done (by omega) (by omega), fun z2 => ⟨⟨by omega, by omega⟩, 0, _, by decide, t_X9_isDigit rk, ?_⟩⟩, fun z => ⟨⟨by omega, by omega⟩, 1, _, by decide, t_X9_isLetter rk, ?_⟩⟩⟩
      · rintro x y ⟨hy, x1, x2⟩
        rw [hy]
        exact ⟨⟨by omega, by omega⟩, fun z3 => done (by omega) (fun _ q => by have := x2.mpr q; omega), fun z3 => goon (by omega) (fun _ => x2.mp (by omega)) (by omega)⟩
      · rintro x y ⟨hy, x1, x2⟩
        rw [hy]
        have g0 : g = 0 := by
          rcases g1 with q | q
          · exact q
          · exact absurd (gD.mp q) (ld (wL.mp (by omega)))
        exact ⟨⟨by omega, by omega⟩, fun z3 => goon (fun _ => x2.mp (by omega)) (by omega) (by omega), fun z3 => ⟨rg_, fun _ => done (fun _ q => by have := x2.mpr q; omega) (by omega), fun z4 => absurd g0 z4⟩⟩
  refine main ⟨by omega, fun x x0 x1 => ?_⟩ (fun _ => rfl)
  have : x = i := by omega
  rw [this]
  exact ⟨wL.mp, gD.mp⟩
theorem t_X8_numberOf {s : Sto} {i e : Int} (h : 0 ≤ i ∧ i < e ∧ e ≤ 400) : ClI LY 0 MX8_numberOf [.inr 1, .inl i, .inl e] s (fun r s' => s' = s ∧ ((4 < e - i ∧ r = 10201) ∨ (e - i ≤ 4 ∧ r = numF (s 2) i (e - i).toNat))) := by
  refine ClI.intro (by decide) rfl (Nat.le_of_ble_eq_true rfl) (fun X C r => ?_)
  refine kb_X8_numberOf_0 C r ⟨⟨by omega, by omega⟩, fun z => ?_, fun z => ⟨rfl, Or.inl ⟨z, rfl⟩⟩⟩
  have main : G LY X 16 [rv 1, iv i, iv e, iv (numF (s 2) i (i - i).toNat), iv i] [] s := by
    refine downI (P := fun k => G LY X 16 [rv 1, iv i, iv e, iv (numF (s 2) i (k - i).toNat), iv k] [] s) (a := i) (b := e) (by omega) ?_ ?_
    · exact kb_X8_numberOf_16 C r ⟨⟨⟨by omega, by omega⟩, ⟨by omega, by omega⟩⟩, fun _ => ⟨rfl, Or.inr ⟨z, rfl⟩⟩, fun q => absurd q (by omega)⟩
    · intro k k0 k1 ih
      have es : numF (s 2) i (k + 1 - i).toNat = 10 * numF (s 2) i (k - i).toNat + s 2 k - 48 := by
        rw [show k + 1 - i = (k - i) + 1 by omega, numF_s _ _ (by omega), show i + (k - i) = k by omega]
      rw [es] at ih
      exact kb_X8_numberOf_16 C r ⟨⟨⟨by omega, by omega⟩, ⟨by omega, by omega⟩⟩, fun q => absurd q (by omega), fun _ => ⟨⟨by omega, by omega⟩, ih⟩⟩
  rw [show (i - i).toNat = 0 by omega] at main
  exact main
theorem xi2c_all : ∀ c : Fin 256, xi2c (c.val : Int) = (c.val : Int) := by decide +kernel
theorem t_X8_tokenOf {s : Sto} {n i e : Int} (h : 0 ≤ i ∧ n ≤ 400) (hb : ∀ x : Int, 0 ≤ x → x < n → 0 ≤ s 2 x ∧ s 2 x < 256) (r0 : RNp (s 2) n i e) : ClI LY 6 MX8_tokenOf [.inr 1, .inl i, .inl e] s (fun r s' => s' = s ∧ tokR (s 2) i e r) := by
  have ie := r0.1
  have bi := hb i h.1 (by omega)
  have ri : rg (s 2 i) := ⟨by omega, by omega⟩
  refine ClI.intro (by decide) rfl (Nat.le_of_ble_eq_true rfl) (fun X C r => ?_)
  refine kb_X8_tokenOf_0 C r ⟨⟨by omega, by omega⟩, 1, _, by decide, t_X9_isLetter ri, ?_⟩
  rintro w y ⟨hy, w1, w2⟩
  rw [hy]
  refine ⟨⟨by omega, by omega⟩, fun z => ⟨0, _, by decide, t_X9_isDigit ri, ?_⟩, fun z => ⟨5, _, by decide, t_X8_wordOf ⟨h.1, by omega, by omega⟩ (fun x x0 x1 => by have := hb x (by omega) (by omega); exact ⟨by omega, by omega⟩), ?_⟩⟩
  · have nl : ¬ isLt (s 2 i) := fun q => by have := w2.mpr q; omega
    rintro g y' ⟨hy', g1, g2⟩
    rw [hy']
    refine ⟨⟨by omega, by omega⟩, fun z2 => ?_, fun z2 => ⟨0, _, by decide, t_X8_numberOf ⟨h.1, by omega, by omega⟩, ?_⟩⟩
    · have nd : ¬ isDg (s 2 i) := fun q => by have := g2.mpr q; omega
      have ec : xi2c (s 2 i) = s 2 i := by
        have := xi2c_all ⟨(s 2 i).toNat, by omega⟩
        simp only [Int.toNat_of_nonneg bi.1] at this
        exact this
      rw [ec]
      refine ⟨3, _, by decide, t_J0_indexOf bi, ?_⟩
      rintro x y2 ⟨hy2, hx⟩
      have sb := sg_bd ⟨(s 2 i).toNat, by omega⟩
      simp only [Int.toNat_of_nonneg bi.1] at sb
      rw [hy2, hx]
      exact ⟨⟨by omega, by omega⟩, fun q => ⟨rfl, Or.inr (Or.inr ⟨nl, nd, by rw [if_neg (by omega)]⟩)⟩, fun q => ⟨rfl, Or.inr (Or.inr ⟨nl, nd, by rw [if_pos q]⟩)⟩⟩
    · rintro x y2 ⟨hy2, hx⟩
      exact ⟨hy2, Or.inr (Or.inl ⟨g2.mp (by omega), hx⟩)⟩
  · rintro x y2 ⟨hy2, hx⟩
    exact ⟨hy2, Or.inl ⟨w2.mp (by omega), hx⟩⟩
