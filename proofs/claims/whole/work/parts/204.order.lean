/-! CONTRACTS: ORDERS out of the TAPE; letters and lengths of NAMES; places in ORDERS -/
def seenF (b : Int → Int) : Nat → Int
  | 0 => 0
  | n + 1 => xor_ (seenF b n) (xshl 1 (b n - 97))
/-- the TAPE is an ORDER of K LETTERS -/
def isOd (K n : Int) (b : Int → Int) : Prop := n = K ∧ ∀ i : Nat, (i : Int) < n → (0 ≤ b i - 97 ∧ b i - 97 < K) ∧ xand (xshr (seenF b i) (b i - 97)) 1 ≠ 1
theorem seen_bits {b : Int → Int} {K : Int} (hK : K ≤ 8) : ∀ n : Nat, (∀ i : Nat, i < n → 0 ≤ b i - 97 ∧ b i - 97 < K) → ∃ S : Nat, seenF b n = (S : Int) ∧ S < 256 ∧ ∀ i : Nat, i < n → S.testBit (b i - 97).toNat = true := by
  intro n
  induction n with
  | zero => intro _; exact ⟨0, rfl, by decide, fun i hi => absurd hi (by omega)⟩
  | succ n ih =>
    intro h
    obtain ⟨S, e, hS, hb⟩ := ih (fun i hi => h i (by omega))
    have hn := h n (by omega)
    have hl : (b n - 97).toNat < 8 := by omega
    have e2 : xshl 1 (b n - 97) = ((2 ^ (b n - 97).toNat : Nat) : Int) := by
      have := xshl_nat (n := 1) (b := (b n - 97).toNat) (by
        have : (2 : Nat) ^ (b n - 97).toNat ≤ 2 ^ 7 := Nat.pow_le_pow_right (by decide) (by omega)
        omega) (by omega)
      rw [Int.toNat_of_nonneg hn.1] at this
      rw [Nat.one_mul] at this
      exact this
    have hp : (2 : Nat) ^ (b n - 97).toNat < 2 ^ 8 := Nat.pow_lt_pow_right (by decide) hl
    refine ⟨S ||| 2 ^ (b n - 97).toNat, ?_, Nat.or_lt_two_pow (n := 8) hS hp, fun i hi => ?_⟩
    · show xor_ (seenF b n) (xshl 1 (b n - 97)) = _
      rw [e, e2, xor_nat (by omega) (by omega)]
    · rw [Nat.testBit_or]
      by_cases hin : i = n
      · subst hin
        rw [Nat.testBit_two_pow_self, Bool.or_true]
      · rw [hb i (by omega), Bool.true_or]
theorem od_inj {K n : Int} {b : Int → Int} (hK : K ≤ 8) (h : isOd K n b) : ∀ i j : Nat, i < j → (j : Int) < n → b i ≠ b j := by
  intro i j hij hj e
  obtain ⟨S, e1, hS, hb⟩ := seen_bits (b := b) hK j (fun q hq => (h.2 q (by omega)).1)
  have hq := h.2 j hj
  have h2 := hb i hij
  rw [e] at h2
  rw [Nat.testBit_eq_decide_div_mod_eq, decide_eq_true_eq] at h2
  apply hq.2
  have e3 : xshr (S : Int) ((b j - 97).toNat : Int) = ((S / 2 ^ (b j - 97).toNat : Nat) : Int) := xshr_nat (by omega) (by omega)
  rw [Int.toNat_of_nonneg hq.1.1] at e3
  have h5 : S / 2 ^ (b j - 97).toNat ≤ S := Nat.div_le_self _ _
  rw [e1, e3]
  generalize S / 2 ^ (b j - 97).toNat = Q at h2 h5 ⊢
  rw [xand1 (by omega) (by omega)]
  omega
theorem seen_rg {b : Int → Int} {K : Int} (hK : K ≤ 8) (n : Nat) (h : ∀ i : Nat, i < n → 0 ≤ b i - 97 ∧ b i - 97 < K) : 0 ≤ seenF b n ∧ seenF b n < 256 := by
  obtain ⟨S, e, h1, -⟩ := seen_bits hK n h
  rw [e]; omega
theorem od_step {b : Int → Int} {i : Nat} (hi : i < 8) (hb : ∀ j : Nat, j < i + 1 → 0 ≤ b j - 97 ∧ b j - 97 < 8) : xor_ (xshl (pq 8 (fun j => b j - 97) i) 3) (b i - 97) = pq 8 (fun j => b j - 97) (i + 1) := by
  have hbd := pq_bd (B := 8) (f := fun j => b j - 97) (by decide) i (fun j hj => hb j (by omega))
  have hbi := hb i (by omega)
  have h2 : (8 : Int) ^ i ≤ 2097152 := by
    have : i = 0 ∨ i = 1 ∨ i = 2 ∨ i = 3 ∨ i = 4 ∨ i = 5 ∨ i = 6 ∨ i = 7 := by omega
    rcases this with rfl | rfl | rfl | rfl | rfl | rfl | rfl | rfl <;> decide
  have hs : xshl (pq 8 (fun j => b j - 97) i) 3 = pq 8 (fun j => b j - 97) i * 8 := xshl_int (b := 3) hbd.1 (by decide) (by decide) (by show _ * 8 ≤ _; omega)
  rw [hs, xor_add 3 (by omega) (by omega) (by show _ % 8 = 0; omega) hbi.1 (by show _ < 8; exact hbi.2) (by omega)]
  show _ = 8 * pq 8 (fun j => b j - 97) i + (b i - 97)
  omega
theorem od_end {K n : Int} {b : Int → Int} (hK : 2 ≤ K ∧ K ≤ 8) (h : isOd K n b) : OdR K (pq 8 (fun j => b j - 97) n.toNat) (fun i => b i - 97) := by
  refine ⟨hK, fun i h1 h2 => ?_, fun i j h1 h2 h3 h4 e => ?_, by rw [h.1]⟩
  · have := (h.2 i.toNat (by have := h.1; omega)).1
    rw [Int.toNat_of_nonneg h1] at this
    exact this
  · have e : b i = b j := by simp only at e; omega
    rcases Int.lt_trichotomy i j with q | q | q
    · have := od_inj hK.2 h i.toNat j.toNat (by omega) (by have := h.1; omega)
      rw [Int.toNat_of_nonneg h1, Int.toNat_of_nonneg h3] at this
      exact absurd e this
    · exact q
    · have := od_inj hK.2 h j.toNat i.toNat (by omega) (by have := h.1; omega)
      rw [Int.toNat_of_nonneg h1, Int.toNat_of_nonneg h3] at this
      exact absurd e.symm this
set_option maxHeartbeats 2000000 in
theorem t_X9_orderOnce {s : Sto} {K : Int} {t : Int → Int} (hT : TapeR (s 1 1) (s 2) t) (hK : 2 ≤ K ∧ K ≤ 8) : ClI LY 0 MX9_orderOnce [.inr 1, .inl K] s (fun r s' => s' = up s 1 1 0 ∧ rg r ∧ ((isOd K (s 1 1) (s 2) ∧ OdR K r (fun i => s 2 i - 97)) ∨ (¬ isOd K (s 1 1) (s 2) ∧ r = -1))) := by
  refine ClI.intro (by decide) rfl (Nat.le_of_ble_eq_true rfl) (fun X C r => ?_)
  refine kb_X9_orderOnce_0 C r ?_
  rintro s1 rfl
  obtain ⟨hT0, hT1, hT2⟩ := hT
  refine ⟨⟨⟨by omega, by omega⟩, ⟨by omega, by omega⟩⟩, fun q => ?_, fun q => ?_⟩
  · suffices H : ∀ k : Int, 0 ≤ k → k ≤ s 1 1 → (∀ i : Nat, (i : Int) < k → (0 ≤ s 2 i - 97 ∧ s 2 i - 97 < K) ∧ xand (xshr (seenF (s 2) i) (s 2 i - 97)) 1 ≠ 1) → G LY X 25 [rv 1, iv K, iv (s 1 1), iv (pq 8 (fun j => s 2 j - 97) k.toNat), iv (seenF (s 2) k.toNat), iv k, none] [] (up s 1 1 0) by
      exact H 0 (by omega) hT0 (fun i h1 => absurd h1 (by omega))
    intro k hk0 hk1
    refine downI (P := fun k => (∀ i : Nat, (i : Int) < k → (0 ≤ s 2 i - 97 ∧ s 2 i - 97 < K) ∧ xand (xshr (seenF (s 2) i) (s 2 i - 97)) 1 ≠ 1) → G LY X 25 [rv 1, iv K, iv (s 1 1), iv (pq 8 (fun j => s 2 j - 97) k.toNat), iv (seenF (s 2) k.toNat), iv k, none] [] (up s 1 1 0)) (b := s 1 1) hk1 ?_ ?_
    · intro hl
      refine kb_X9_orderOnce_25 C r ⟨⟨⟨by omega, by omega⟩, ⟨by omega, by omega⟩⟩, fun _ => ?_, fun q => absurd q (by omega)⟩
      have hn : isOd K (s 1 1) (s 2) := ⟨q, hl⟩
      have hr := od_end hK hn
      exact ⟨rfl, ⟨by have := hr.bd; omega, by have := hr.bd; omega⟩, Or.inl ⟨hn, hr⟩⟩
    · intro j h1 h2 ih hl
      have hb := hT2 j (by omega) h2
      have hj : ((j.toNat : Nat) : Int) = j := Int.toNat_of_nonneg (by omega)
      have er : (up s 1 1 0) 2 j = s 2 j := by rw [up_row (by decide)]
      refine kb_X9_orderOnce_25 C r ⟨⟨⟨by omega, by omega⟩, ⟨by omega, by omega⟩⟩, fun q => absurd q (by omega), fun _ => ⟨⟨by omega, by omega⟩, ?_⟩⟩
      rw [er]
      have bad : ¬ ((0 ≤ s 2 j - 97 ∧ s 2 j - 97 < K) ∧ xand (xshr (seenF (s 2) j.toNat) (s 2 j - 97)) 1 ≠ 1) → (fun r s' => s' = up s 1 1 0 ∧ rg r ∧ ((isOd K (s 1 1) (s 2) ∧ OdR K r (fun i => s 2 i - 97)) ∨ (¬ isOd K (s 1 1) (s 2) ∧ r = -1))) (-1) (up s 1 1 0) := by
        intro hbad
        refine ⟨rfl, by decide, Or.inr ⟨fun z => hbad ?_, rfl⟩⟩
        have := z.2 j.toNat (by omega)
        rw [hj] at this
        exact this
      refine ⟨⟨by omega, by omega⟩, fun q1 => bad (fun z => by omega), fun q1 => ⟨⟨⟨by omega, by omega⟩, ⟨by omega, by omega⟩⟩, fun q2 => bad (fun z => by omega), fun q2 => ⟨fun q3 => ?_, fun q3 => bad (fun z => z.2 q3)⟩⟩⟩
      have hl2 : ∀ i : Nat, (i : Int) < j + 1 → (0 ≤ s 2 i - 97 ∧ s 2 i - 97 < K) ∧ xand (xshr (seenF (s 2) i) (s 2 i - 97)) 1 ≠ 1 := fun i g => by
        by_cases g2 : (i : Int) = j
        · rw [show i = j.toNat by omega, hj]; exact ⟨⟨q1, q2⟩, q3⟩
        · exact hl i (by omega)
      have e1 := od_step (b := s 2) (i := j.toNat) (by omega) (fun i hi => by have := (hl2 i (by omega)).1; omega)
      rw [hj] at e1
      have e2 : xor_ (seenF (s 2) j.toNat) (xshl 1 (s 2 j - 97)) = seenF (s 2) (j + 1).toNat := by
        rw [show (j + 1).toNat = j.toNat + 1 by omega]
        show _ = xor_ (seenF (s 2) j.toNat) (xshl 1 (s 2 (j.toNat : Nat) - 97))
        rw [hj]
      rw [e1, e2, show j.toNat + 1 = (j + 1).toNat by omega]
      exact ih hl2
  · exact ⟨rfl, by decide, Or.inr ⟨fun z => absurd z.1 q, rfl⟩⟩
theorem begS_row {s : Sto} {c : Nat} (h1 : c ≠ 75) (h2 : c ≠ 81) : begS s c = s c := by
  unfold begS
  by_cases q : s 75 22 = 0
  · rw [if_pos q, fillR_row h2, up_row h1]
  · rw [if_neg q]
theorem begS_75 {s : Sto} {i : Int} (h : i ≠ 22) : begS s 75 i = s 75 i := by
  unfold begS
  by_cases q : s 75 22 = 0
  · rw [if_pos q, fillR_row (by decide), up_idx h]
  · rw [if_neg q]
set_option maxHeartbeats 2000000 in
theorem t_X12_takesOrder {s : Sto} {b : Int → Int} (hT : TapeR (s 75 24) b (s 91)) (hK : 2 ≤ s 75 9 ∧ s 75 9 ≤ 8) (hb : s 75 22 = 0 ∨ s 75 22 = 1) : ClI LY 1 MX12_takesOrder [.inr 75] s (fun r s' => (r = 1 ∧ isOd (s 75 9) (s 75 24) (s 91) ∧ s' = fillR (up (begS s) 75 24 0) 81 152 (s 75 24) (fun k => s 91 k - 97)) ∨ (r = 0 ∧ ¬ isOd (s 75 9) (s 75 24) (s 91) ∧ s' = up (begS s) 75 24 0)) := by
  refine ClI.introZ (by decide) rfl (Nat.le_of_ble_eq_true rfl) (fun X C r => ?_)
  refine kb_X12_takesOrder_0 C r ?_
  refine ⟨0, _, by decide, t_X12_begins hb, ?_⟩
  rintro s0 rfl
  rintro s1 rfl
  obtain ⟨hT0, hT1, hT2⟩ := hT
  have hA : ∀ i : Int, 0 ≤ i → i < s 75 24 → 0 ≤ s 91 i ∧ s 91 i ≤ 255 := fun i h1 h2 => by have := hT2 i h1 h2; omega
  have e24 : begS s 75 24 = s 75 24 := begS_75 (by decide)
  have e9 : up (begS s) 75 24 0 75 9 = s 75 9 := by rw [up_idx (by decide), begS_75 (by decide)]
  have er : ∀ j : Int, up (begS s) 75 24 0 91 j = s 91 j := fun j => by rw [up_row (by decide), begS_row (by decide) (by decide)]
  rw [e24, e9]
  generalize hu : up (begS s) 75 24 0 = u at e9 er
  generalize hK9 : s 75 9 = K at hK e9
  generalize hN : s 75 24 = n at hT0 hT1 hA
  generalize hB : s 91 = t at hA er
  refine ⟨⟨⟨by omega, by omega⟩, ⟨by omega, by omega⟩⟩, fun q => ?_, fun q => ?_⟩
  · suffices H : ∀ k : Int, 0 ≤ k → k ≤ n → (∀ i : Nat, (i : Int) < k → (0 ≤ t i - 97 ∧ t i - 97 < K) ∧ xand (xshr (seenF t i) (t i - 97)) 1 ≠ 1) → G LY X 28 [rv 75, iv n, iv (seenF t k.toNat), iv k, none] [] u by
      exact H 0 (by omega) hT0 (fun i h1 => absurd h1 (by omega))
    intro k hk0 hk1
    refine downI (P := fun k => (∀ i : Nat, (i : Int) < k → (0 ≤ t i - 97 ∧ t i - 97 < K) ∧ xand (xshr (seenF t i) (t i - 97)) 1 ≠ 1) → G LY X 28 [rv 75, iv n, iv (seenF t k.toNat), iv k, none] [] u) (b := n) hk1 ?_ ?_
    · intro hl
      refine kb_X12_takesOrder_28 C r ⟨⟨⟨by omega, by omega⟩, ⟨by omega, by omega⟩⟩, fun _ => ?_, fun q => absurd q (by omega)⟩
      rw [← fillR_0 u 81 152 (fun k => t k - 97)]
      refine downI (P := fun k => G LY X 85 [rv 75, iv n, iv (seenF t n.toNat), iv k, none] [] (fillR u 81 152 k (fun k => t k - 97))) (b := n) hT0 ?_ ?_
      · refine kb_X12_takesOrder_85 C r ⟨⟨⟨by omega, by omega⟩, ⟨by omega, by omega⟩⟩, fun _ => ?_, fun q => absurd q (by omega)⟩
        exact Or.inl ⟨rfl, by rw [hK9, hN, hB]; exact ⟨q, hl⟩, by rw [hN, hB, hu]⟩
      · intro j h1 h2 ih
        refine kb_X12_takesOrder_85 C r ⟨⟨⟨by omega, by omega⟩, ⟨by omega, by omega⟩⟩, fun q => absurd q (by omega), fun _ => ⟨⟨by omega, by omega⟩, ⟨by omega, by omega⟩, ?_⟩⟩
        rintro s2 rfl
        rw [fillR_row (by decide), er, fillR_s (by omega) (by omega) rfl]
        exact ih
    · intro j h1 h2 ih hl
      have hb := hA j (by omega) h2
      have hj : ((j.toNat : Nat) : Int) = j := Int.toNat_of_nonneg (by omega)
      refine kb_X12_takesOrder_28 C r ⟨⟨⟨by omega, by omega⟩, ⟨by omega, by omega⟩⟩, fun q => absurd q (by omega), fun _ => ⟨⟨by omega, by omega⟩, ?_⟩⟩
      rw [er, e9]
      have bad : ¬ ((0 ≤ t j - 97 ∧ t j - 97 < K) ∧ xand (xshr (seenF t j.toNat) (t j - 97)) 1 ≠ 1) → ¬ isOd K n t := by
        intro hbad z
        have := z.2 j.toNat (by omega)
        rw [hj] at this
        exact hbad this
      refine ⟨⟨by omega, by omega⟩, fun q1 => Or.inr ⟨rfl, by rw [hK9, hN, hB]; exact bad (fun z => by omega), hu.symm⟩, fun q1 => ⟨⟨⟨by omega, by omega⟩, ⟨by omega, by omega⟩⟩, fun q2 => Or.inr ⟨rfl, by rw [hK9, hN, hB]; exact bad (fun z => by omega), hu.symm⟩, fun q2 => ⟨fun q3 => ?_, fun q3 => Or.inr ⟨rfl, by rw [hK9, hN, hB]; exact bad (fun z => z.2 q3), hu.symm⟩⟩⟩⟩
      have e2 : xor_ (seenF t j.toNat) (xshl 1 (t j - 97)) = seenF t (j + 1).toNat := by
        rw [show (j + 1).toNat = j.toNat + 1 by omega]
        show _ = xor_ (seenF t j.toNat) (xshl 1 (t (j.toNat : Nat) - 97))
        rw [hj]
      rw [e2]
      exact ih (fun i g => by
        by_cases g2 : (i : Int) = j
        · rw [show i = j.toNat by omega, hj]; exact ⟨⟨q1, q2⟩, q3⟩
        · exact hl i (by omega))
  · exact Or.inr ⟨rfl, fun z => absurd z.1 q, rfl⟩
set_option maxHeartbeats 2000000 in
theorem t_X5_nameLength {p n : Int} {f : Int → Int} {s : Sto} (h : NmR p n f) : ClI LY 1 MX5_nameLength [.inl p] s (fun r s' => s' = s ∧ r = n) := by
  refine ClI.intro (by decide) rfl (Nat.le_of_ble_eq_true rfl) (fun X C r => ?_)
  refine kb_X5_nameLength_0 C r ?_
  have hn := h.1
  refine downI (P := fun k => G LY X 2 [iv p, iv k] [] s) (b := n) hn.1 ?_ ?_
  · refine kb_X5_nameLength_2 C r ⟨⟨by omega, by omega⟩, fun _ => ⟨rfl, rfl⟩, fun q => ?_⟩
    refine ⟨0, _, by decide, t_X5_nameLetter, ?_⟩
    rintro r1 s1 ⟨rfl, e⟩
    rw [h.letter ⟨by omega, by omega⟩, if_neg (by omega)] at e
    exact ⟨by omega, fun _ => ⟨rfl, rfl⟩, fun q => absurd e q⟩
  · intro k h1 h2 ih
    refine kb_X5_nameLength_2 C r ⟨⟨by omega, by omega⟩, fun q => absurd q (by omega), fun q => ?_⟩
    refine ⟨0, _, by decide, t_X5_nameLetter, ?_⟩
    rintro r1 s1 ⟨rfl, e⟩
    rw [h.letter ⟨by omega, by omega⟩, if_pos h2] at e
    have := h.2.1 k h1 h2
    exact ⟨by omega, fun q => absurd q (by omega), fun _ => ih⟩
set_option maxHeartbeats 2000000 in
theorem t_X5_orderPlace {K o l : Int} {f : Int → Int} {s : Sto} (h : OdR K o f) (hl : rg l) : ClI LY 0 MX5_orderPlace [.inl o, .inl K, .inl l] s (fun r s' => s' = s ∧ 0 ≤ r ∧ r ≤ K ∧ (∀ j : Int, 0 ≤ j → j < r → f j ≠ l) ∧ (r < K → f r = l)) := by
  refine ClI.intro (by decide) rfl (Nat.le_of_ble_eq_true rfl) (fun X C r => ?_)
  refine kb_X5_orderPlace_0 C r ?_
  have hK := h.1
  suffices H : ∀ k : Int, 0 ≤ k → k ≤ K → (∀ j : Int, 0 ≤ j → j < k → f j ≠ l) → G LY X 2 [iv o, iv K, iv l, iv k] [] s from H 0 (by omega) (by omega) (fun j h1 h2 => by omega)
  intro k hk0 hk1
  refine downI (P := fun k => (∀ j : Int, 0 ≤ j → j < k → f j ≠ l) → G LY X 2 [iv o, iv K, iv l, iv k] [] s) (b := K) hk1 ?_ ?_
  · intro hj
    refine kb_X5_orderPlace_2 C r ⟨⟨⟨by omega, by omega⟩, ⟨by omega, by omega⟩⟩, fun _ => ⟨rfl, by omega, by omega, hj, fun q => absurd q (by omega)⟩, fun q => absurd q (by omega)⟩
  · intro i h1 h2 ih hj
    refine kb_X5_orderPlace_2 C r ⟨⟨⟨by omega, by omega⟩, ⟨by omega, by omega⟩⟩, fun q => absurd q (by omega), fun _ => ⟨hl, ?_⟩⟩
    rw [h.letter ⟨by omega, by omega⟩]
    refine ⟨fun q => ih (fun j g1 g2 => ?_), fun q => ⟨rfl, by omega, by omega, hj, fun _ => q⟩⟩
    by_cases g : j = i
    · rw [g]; exact q
    · exact hj j g1 (by omega)
set_option maxHeartbeats 2000000 in
theorem t_X5_plainOrder {K : Int} {s : Sto} (hK : 2 ≤ K ∧ K ≤ 8) : ClI LY 0 MX5_plainOrder [.inl K] s (fun r s' => s' = s ∧ OdR K r (fun i => i)) := by
  refine ClI.intro (by decide) rfl (Nat.le_of_ble_eq_true rfl) (fun X C r => ?_)
  refine kb_X5_plainOrder_0 C r ?_
  refine (show G LY X 4 [iv K, iv (pq 8 (fun i => i) (0 : Int).toNat), iv 0] [] s from downI (P := fun k => G LY X 4 [iv K, iv (pq 8 (fun i => i) k.toNat), iv k] [] s) (a := 0) (b := K) (by omega) ?_ ?_)
  · refine kb_X5_plainOrder_4 C r ⟨⟨⟨by omega, by omega⟩, ⟨by omega, by omega⟩⟩, fun _ => ⟨rfl, hK, fun i h1 h2 => ⟨h1, h2⟩, fun i j _ _ _ _ e => e, rfl⟩, fun q => absurd q (by omega)⟩
  · intro k h1 h2 ih
    refine kb_X5_plainOrder_4 C r ⟨⟨⟨by omega, by omega⟩, ⟨by omega, by omega⟩⟩, fun q => absurd q (by omega), fun _ => ?_⟩
    have e := od_step (b := fun i => i + 97) (i := k.toNat) (by omega) (fun j hj => by constructor <;> omega)
    have e0 : (fun j : Int => j + 97 - 97) = fun j => j := by funext j; omega
    simp only [e0] at e
    rw [Int.toNat_of_nonneg h1, show k + 97 - 97 = k by omega] at e
    rw [e, show k.toNat + 1 = (k + 1).toNat by omega]
    exact ih
