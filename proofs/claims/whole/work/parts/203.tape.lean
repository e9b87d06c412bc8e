/-! CONTRACTS: the TAPE, NAMES and ORDERS out of it -/
theorem downI {P : Int → Prop} {a b : Int} (hab : a ≤ b) (h : P b) (st : ∀ k, a ≤ k → k < b → P (k + 1) → P k) : P a := by
  have key : ∀ j : Nat, (j : Int) ≤ b - a → P (b - j) := by
    intro j
    induction j with
    | zero => intro _; simpa using h
    | succ j ih =>
      intro hj
      refine st (b - (j + 1 : Nat)) (by omega) (by omega) ?_
      rw [show b - ((j + 1 : Nat) : Int) + 1 = b - j by omega]
      exact ih (by omega)
  have := key (b - a).toNat (by omega)
  rwa [show b - ((b - a).toNat : Int) = a by omega] at this
def begS (s : Sto) : Sto := if s 75 22 = 0 then fillR (up s 75 22 1) 81 0 8 (fun i => i) else s
set_option maxHeartbeats 2000000 in
theorem t_X12_begins {s : Sto} (hb : s 75 22 = 0 ∨ s 75 22 = 1) : ClV LY 0 MX12_begins [.inr 75] s (fun s' => s' = begS s) := by
  refine ClV.intro (by decide) rfl (Nat.le_of_ble_eq_true rfl) (fun X C r => ?_)
  refine kb_X12_begins_0 C r ?_
  refine ⟨⟨by omega, by omega⟩, fun q => ?_, fun q => ?_⟩
  · rintro s1 rfl
    rw [← fillR_0 (up s 75 22 1) 81 0 (fun i => i)]
    refine downI (P := fun k => G LY X 15 [rv 75, iv k] [] (fillR (up s 75 22 1) 81 0 k (fun i => i))) (b := 8) (by decide) ?_ ?_
    · refine kb_X12_begins_15 C r ⟨by decide, fun _ => ?_, fun q => absurd q (by decide)⟩
      show _ = begS s
      rw [begS, if_pos q]
    · intro k h1 h2 ih
      refine kb_X12_begins_15 C r ⟨⟨by omega, by omega⟩, fun q => absurd q (by omega), fun _ => ⟨⟨by omega, by omega⟩, ?_⟩⟩
      rintro s2 rfl
      rw [fillR_s (by omega) (by omega) rfl]
      exact ih
  · show _ = begS s
    rw [begS, if_neg q]
set_option maxHeartbeats 2000000 in
theorem t_X12_movesOrder {a b : Int} {s : Sto} (ha : 0 ≤ a ∧ a < 21) (hb : 0 ≤ b ∧ b < 21) (hab : a ≠ b) : ClV LY 0 MX12_movesOrder [.inr 75, .inl a, .inl b] s (fun s' => s' = fillR s 81 (8 * b) 8 (fun i => s 81 (8 * a + i))) := by
  refine ClV.intro (by decide) rfl (Nat.le_of_ble_eq_true rfl) (fun X C r => ?_)
  refine kb_X12_movesOrder_0 C r ?_
  rw [← fillR_0 s 81 (8 * b) (fun i => s 81 (8 * a + i))]
  refine downI (P := fun k => G LY X 2 [rv 75, iv a, iv b, iv k] [] (fillR s 81 (8 * b) k (fun i => s 81 (8 * a + i)))) (b := 8) (by decide) ?_ ?_
  · exact kb_X12_movesOrder_2 C r ⟨by decide, fun _ => rfl, fun q => absurd q (by decide)⟩
  · intro k h1 h2 ih
    refine kb_X12_movesOrder_2 C r ⟨⟨by omega, by omega⟩, fun q => absurd q (by omega), fun _ => ⟨⟨by omega, by omega⟩, ⟨by omega, by omega⟩, ?_⟩⟩
    rintro s2 rfl
    rw [fillR_out (by omega), fillR_s (by omega) (by omega) rfl]
    exact ih
set_option maxHeartbeats 2000000 in
theorem t_X12_movesName {a b : Int} {s : Sto} (ha : 0 ≤ a ∧ a < 51) (hb : 0 ≤ b ∧ b < 51) (hab : a ≠ b) : ClV LY 0 MX12_movesName [.inr 75, .inl a, .inl b] s (fun s' => s' = fillR (up s 76 b (s 76 a)) 77 (6 * b) 6 (fun i => s 77 (6 * a + i))) := by
  refine ClV.intro (by decide) rfl (Nat.le_of_ble_eq_true rfl) (fun X C r => ?_)
  refine kb_X12_movesName_0 C r ?_
  refine ⟨ha, hb, ?_⟩
  rintro s1 rfl
  rw [← fillR_0 (up s 76 b (s 76 a)) 77 (6 * b) (fun i => s 77 (6 * a + i))]
  refine downI (P := fun k => G LY X 14 [rv 75, iv a, iv b, iv k] [] (fillR (up s 76 b (s 76 a)) 77 (6 * b) k (fun i => s 77 (6 * a + i)))) (b := 6) (by decide) ?_ ?_
  · exact kb_X12_movesName_14 C r ⟨by decide, fun _ => rfl, fun q => absurd q (by decide)⟩
  · intro k h1 h2 ih
    refine kb_X12_movesName_14 C r ⟨⟨by omega, by omega⟩, fun q => absurd q (by omega), fun _ => ⟨⟨by omega, by omega⟩, ⟨by omega, by omega⟩, ?_⟩⟩
    rintro s2 rfl
    rw [fillR_out (by omega), up_row (by decide), fillR_s (by omega) (by omega) rfl]
    exact ih
/-- the TAPE is a NAME -/
def isNm (n : Int) (b : Int → Int) : Prop := n ≤ 6 ∧ ∀ i : Int, 0 ≤ i → i < n → 97 ≤ b i ∧ b i ≤ 122
theorem pq_tail {B : Int} {f : Int → Int} (n : Nat) : ∀ k : Nat, (∀ j : Nat, n ≤ j → j < n + k → f j = 0) → pq B f (n + k) = pq B f n * B ^ k := by
  intro k
  induction k with
  | zero => intro _; simp
  | succ k ih =>
    intro h
    show B * pq B f (n + k) + f (n + k : Nat) = _
    rw [ih (fun j h1 h2 => h j h1 (by omega)), h (n + k) (by omega) (by omega), Int.pow_succ, Int.add_zero, Int.mul_comm B, Int.mul_assoc]
theorem nm_step {b : Int → Int} {i : Int} (hi : 0 ≤ i ∧ i < 6) (hb : ∀ j : Nat, (j : Int) < i + 1 → 97 ≤ b j ∧ b j ≤ 122) : xor_ (pq 32 (fun j => b j - 96) i.toNat * 32 ^ (6 - i.toNat)) (xshl (b i - 97 + 1) (5 * (5 - i))) = pq 32 (fun j => b j - 96) (i + 1).toNat * 32 ^ (6 - (i + 1).toNat) := by
  have hbd := pq_bd (B := 32) (f := fun j => b j - 96) (by decide) i.toNat (fun j hj => by have := hb j (by omega); constructor <;> omega)
  have hbi := hb i.toNat (by omega)
  rw [Int.toNat_of_nonneg hi.1] at hbi
  have e : pq 32 (fun j => b j - 96) (i + 1).toNat = 32 * pq 32 (fun j => b j - 96) i.toNat + (b i - 96) := by
    rw [show (i + 1).toNat = i.toNat + 1 by omega]
    show 32 * pq 32 (fun j => b j - 96) i.toNat + (b (i.toNat : Nat) - 96) = _
    rw [Int.toNat_of_nonneg hi.1]
  rw [e]
  generalize pq 32 (fun j => b j - 96) i.toNat = A at hbd ⊢
  generalize b i = B at hbi ⊢
  have : i = 0 ∨ i = 1 ∨ i = 2 ∨ i = 3 ∨ i = 4 ∨ i = 5 := by omega
  rcases this with rfl | rfl | rfl | rfl | rfl | rfl
  · have h : A < 1 := hbd.2
    have hs : xshl (B - 97 + 1) 25 = (B - 97 + 1) * 33554432 := xshl_int (b := 25) (by omega) (by decide) (by decide) (by show (B - 97 + 1) * 33554432 ≤ _; omega)
    show xor_ (A * 1073741824) (xshl (B - 97 + 1) 25) = (32 * A + (B - 96)) * 33554432
    rw [hs, xor_add 30 (by omega) (by omega) (by show _ % 1073741824 = 0; omega) (by omega) (by show _ < 1073741824; omega) (by omega)]
    omega
  · have h : A < 32 := hbd.2
    have hs : xshl (B - 97 + 1) 20 = (B - 97 + 1) * 1048576 := xshl_int (b := 20) (by omega) (by decide) (by decide) (by show (B - 97 + 1) * 1048576 ≤ _; omega)
    show xor_ (A * 33554432) (xshl (B - 97 + 1) 20) = (32 * A + (B - 96)) * 1048576
    rw [hs, xor_add 25 (by omega) (by omega) (by show _ % 33554432 = 0; omega) (by omega) (by show _ < 33554432; omega) (by omega)]
    omega
  · have h : A < 1024 := hbd.2
    have hs : xshl (B - 97 + 1) 15 = (B - 97 + 1) * 32768 := xshl_int (b := 15) (by omega) (by decide) (by decide) (by show (B - 97 + 1) * 32768 ≤ _; omega)
    show xor_ (A * 1048576) (xshl (B - 97 + 1) 15) = (32 * A + (B - 96)) * 32768
    rw [hs, xor_add 20 (by omega) (by omega) (by show _ % 1048576 = 0; omega) (by omega) (by show _ < 1048576; omega) (by omega)]
    omega
  · have h : A < 32768 := hbd.2
    have hs : xshl (B - 97 + 1) 10 = (B - 97 + 1) * 1024 := xshl_int (b := 10) (by omega) (by decide) (by decide) (by show (B - 97 + 1) * 1024 ≤ _; omega)
    show xor_ (A * 32768) (xshl (B - 97 + 1) 10) = (32 * A + (B - 96)) * 1024
    rw [hs, xor_add 15 (by omega) (by omega) (by show _ % 32768 = 0; omega) (by omega) (by show _ < 32768; omega) (by omega)]
    omega
  · have h : A < 1048576 := hbd.2
    have hs : xshl (B - 97 + 1) 5 = (B - 97 + 1) * 32 := xshl_int (b := 5) (by omega) (by decide) (by decide) (by show (B - 97 + 1) * 32 ≤ _; omega)
    show xor_ (A * 1024) (xshl (B - 97 + 1) 5) = (32 * A + (B - 96)) * 32
    rw [hs, xor_add 10 (by omega) (by omega) (by show _ % 1024 = 0; omega) (by omega) (by show _ < 1024; omega) (by omega)]
    omega
  · have h : A < 33554432 := hbd.2
    have hs : xshl (B - 97 + 1) 0 = (B - 97 + 1) * 1 := xshl_int (b := 0) (by omega) (by decide) (by decide) (by show (B - 97 + 1) * 1 ≤ _; omega)
    show xor_ (A * 32) (xshl (B - 97 + 1) 0) = (32 * A + (B - 96)) * 1
    rw [hs, xor_add 5 (by omega) (by omega) (by show _ % 32 = 0; omega) (by omega) (by show _ < 32; omega) (by omega)]
    omega
theorem nm_end {b : Int → Int} {n : Int} (h0 : 0 ≤ n) (h : isNm n b) : NmR (pq 32 (fun j => b j - 96) n.toNat * 32 ^ (6 - n.toNat)) n (fun i => b i - 97) := by
  refine ⟨⟨h0, h.1⟩, fun k h1 h2 => by have := h.2 k h1 h2; constructor <;> simp only <;> omega, ?_⟩
  have e := pq_tail (B := 32) (f := ltD n (fun i => b i - 97)) n.toNat (6 - n.toNat) (fun j h1 h2 => by
    unfold ltD
    rw [if_neg (by omega)])
  rw [show n.toNat + (6 - n.toNat) = 6 by have := h.1; omega] at e
  rw [e, pq_ext (B := 32) (f := ltD n (fun i => b i - 97)) (g := fun j => b j - 96) n.toNat (fun i hi => by
    unfold ltD
    rw [if_pos (by omega)]
    simp only
    omega)]
set_option maxHeartbeats 2000000 in
theorem t_X9_nameOnce {s : Sto} {t : Int → Int} (hT : TapeR (s 1 1) (s 2) t) : ClI LY 1 MX9_nameOnce [.inr 1] s (fun r s' => s' = up s 1 1 0 ∧ rg r ∧ ((isNm (s 1 1) (s 2) ∧ NmR r (s 1 1) (fun i => s 2 i - 97)) ∨ (¬ isNm (s 1 1) (s 2) ∧ r = -1))) := by
  refine ClI.intro (by decide) rfl (Nat.le_of_ble_eq_true rfl) (fun X C r => ?_)
  refine kb_X9_nameOnce_0 C r ?_
  rintro s1 rfl
  obtain ⟨hT0, hT1, hT2⟩ := hT
  refine ⟨⟨by omega, by omega⟩, fun q => ?_, fun q => ?_⟩
  · suffices H : ∀ k : Int, 0 ≤ k → k ≤ s 1 1 → (∀ i : Int, 0 ≤ i → i < k → 97 ≤ s 2 i ∧ s 2 i ≤ 122) → G LY X 22 [rv 1, iv (s 1 1), iv (pq 32 (fun j => s 2 j - 96) k.toNat * 32 ^ (6 - k.toNat)), iv k] [] (up s 1 1 0) by
      exact H 0 (by omega) hT0 (fun i h1 h2 => by omega)
    intro k hk0 hk1
    refine downI (P := fun k => (∀ i : Int, 0 ≤ i → i < k → 97 ≤ s 2 i ∧ s 2 i ≤ 122) → G LY X 22 [rv 1, iv (s 1 1), iv (pq 32 (fun j => s 2 j - 96) k.toNat * 32 ^ (6 - k.toNat)), iv k] [] (up s 1 1 0)) (b := s 1 1) hk1 ?_ ?_
    · intro hl
      refine kb_X9_nameOnce_22 C r ⟨⟨⟨by omega, by omega⟩, ⟨by omega, by omega⟩⟩, fun _ => ?_, fun q => absurd q (by omega)⟩
      have hn : isNm (s 1 1) (s 2) := ⟨q, hl⟩
      have hr := nm_end hT0 hn
      exact ⟨rfl, ⟨by have := hr.bd; omega, by have := hr.bd; omega⟩, Or.inl ⟨hn, hr⟩⟩
    · intro j h1 h2 ih hl
      have hb := hT2 j (by omega) h2
      refine kb_X9_nameOnce_22 C r ⟨⟨⟨by omega, by omega⟩, ⟨by omega, by omega⟩⟩, fun q => absurd q (by omega), fun _ => ⟨⟨by omega, by omega⟩, ?_⟩⟩
      refine ⟨0, _, by decide, t_X9_isSmallLetter (by rw [up_row (by decide)]; constructor <;> omega), ?_⟩
      rintro r1 s1 ⟨rfl, h3, h4⟩
      rw [up_row (by decide)] at h4
      refine ⟨by omega, fun q1 => ⟨⟨by omega, by omega⟩, ?_⟩, fun q1 => ?_⟩
      · refine ⟨0, _, by decide, t_X5_nameGroup, ?_⟩
        rintro r2 s2 ⟨rfl, rfl⟩
        have hj : 97 ≤ s 2 j ∧ s 2 j ≤ 122 := h4.mp (by omega)
        have hl2 : ∀ i : Int, 0 ≤ i → i < j + 1 → 97 ≤ s 2 i ∧ s 2 i ≤ 122 := fun i g1 g2 => by
          by_cases g : i = j
          · rw [g]; exact hj
          · exact hl i g1 (by omega)
        have e := nm_step (b := s 2) (i := j) ⟨by omega, by omega⟩ (fun i hi => hl2 i (by omega) hi)
        rw [up_row (by decide), e]
        exact ih hl2
      · refine ⟨rfl, by decide, Or.inr ⟨fun z => ?_, rfl⟩⟩
        have := z.2 j (by omega) h2
        omega
  · exact ⟨rfl, by decide, Or.inr ⟨fun z => absurd z.1 (by omega), rfl⟩⟩
set_option maxHeartbeats 2000000 in
theorem t_X12_takesName {s : Sto} {b : Int → Int} (hT : TapeR (s 75 24) b (s 91)) : ClI LY 1 MX12_takesName [.inr 75] s (fun r s' => (r = 1 ∧ isNm (s 75 24) (s 91) ∧ s' = fillR (up (up s 75 24 0) 76 30 (s 75 24)) 77 180 (s 75 24) (fun k => s 91 k - 97)) ∨ (r = 0 ∧ ¬ isNm (s 75 24) (s 91) ∧ s' = up s 75 24 0)) := by
  refine ClI.introZ (by decide) rfl (Nat.le_of_ble_eq_true rfl) (fun X C r => ?_)
  refine kb_X12_takesName_0 C r ?_
  rintro s1 rfl
  obtain ⟨hT0, hT1, hT2⟩ := hT
  have hA : ∀ i : Int, 0 ≤ i → i < s 75 24 → 0 ≤ s 91 i ∧ s 91 i ≤ 255 := fun i h1 h2 => by have := hT2 i h1 h2; omega
  refine ⟨⟨by omega, by omega⟩, fun q => ?_, fun q => ?_⟩
  · suffices H : ∀ k : Int, 0 ≤ k → k ≤ s 75 24 → (∀ i : Int, 0 ≤ i → i < k → 97 ≤ s 91 i ∧ s 91 i ≤ 122) → G LY X 20 [rv 75, iv (s 75 24), iv k] [] (up s 75 24 0) by
      exact H 0 (by omega) hT0 (fun i h1 h2 => by omega)
    intro k hk0 hk1
    refine downI (P := fun k => (∀ i : Int, 0 ≤ i → i < k → 97 ≤ s 91 i ∧ s 91 i ≤ 122) → G LY X 20 [rv 75, iv (s 75 24), iv k] [] (up s 75 24 0)) (b := s 75 24) hk1 ?_ ?_
    · intro hl
      refine kb_X12_takesName_20 C r ⟨⟨⟨by omega, by omega⟩, ⟨by omega, by omega⟩⟩, fun _ => ?_, fun q => absurd q (by omega)⟩
      rintro s2 rfl
      rw [← fillR_0 (up (up s 75 24 0) 76 30 (s 75 24)) 77 180 (fun k => s 91 k - 97)]
      refine downI (P := fun k => G LY X 60 [rv 75, iv (s 75 24), iv k] [] (fillR (up (up s 75 24 0) 76 30 (s 75 24)) 77 180 k (fun k => s 91 k - 97))) (b := s 75 24) hT0 ?_ ?_
      · refine kb_X12_takesName_60 C r ⟨⟨⟨by omega, by omega⟩, ⟨by omega, by omega⟩⟩, fun _ => ?_, fun q => absurd q (by omega)⟩
        exact Or.inl ⟨rfl, ⟨q, hl⟩, rfl⟩
      · intro j h1 h2 ih
        refine kb_X12_takesName_60 C r ⟨⟨⟨by omega, by omega⟩, ⟨by omega, by omega⟩⟩, fun q => absurd q (by omega), fun _ => ⟨⟨by omega, by omega⟩, ⟨by omega, by omega⟩, ?_⟩⟩
        rintro s2 rfl
        rw [fillR_row (by decide), up_row (by decide), up_row (by decide), fillR_s (by omega) (by omega) rfl]
        exact ih
    · intro j h1 h2 ih hl
      have hb := hA j (by omega) h2
      refine kb_X12_takesName_20 C r ⟨⟨⟨by omega, by omega⟩, ⟨by omega, by omega⟩⟩, fun q => absurd q (by omega), fun _ => ⟨⟨by omega, by omega⟩, ?_⟩⟩
      refine ⟨0, _, by decide, t_X12_isIn (by rw [up_row (by decide)]; constructor <;> omega) (by decide) (by decide), ?_⟩
      rintro r1 s1 ⟨rfl, h3, h4⟩
      rw [up_row (by decide)] at h4
      refine ⟨by omega, fun q1 => ?_, fun q1 => ?_⟩
      · have hj : 97 ≤ s 91 j ∧ s 91 j ≤ 122 := h4.mp (by omega)
        exact ih (fun i g1 g2 => by
          by_cases g : i = j
          · rw [g]; exact hj
          · exact hl i g1 (by omega))
      · refine Or.inr ⟨rfl, fun z => ?_, rfl⟩
        have := z.2 j (by omega) h2
        omega
  · exact Or.inr ⟨rfl, fun z => absurd z.1 (by omega), rfl⟩
