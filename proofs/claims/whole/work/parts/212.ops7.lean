/-! OPERATIONS: letters, look -/
set_option maxHeartbeats 2000000 in
theorem t_X2_beginAnew {k : Int} {s : Sto} (hk : 2 ≤ k ∧ k ≤ 8) : ClV LY 1 MX2_beginAnew [.inr 3, .inl k] s (fun s' => (∀ c : Nat, c ≠ 3 → c ≠ 4 → c ≠ 5 → c ≠ 10 → c ≠ 11 → c ≠ 12 → c ≠ 17 → s' c = s c) ∧ s' 3 0 = k ∧ s' 3 1 = s 3 1 ∧ OdR k (s' 3 2) (fun i => i) ∧ s' 3 3 = 0 ∧ s' 3 9 = 0 ∧ s' 3 11 = 0 ∧ s' 5 0 = 0 ∧ s' 17 0 = 0 ∧ s' 17 1 = 0 ∧ (∀ i : Int, 0 ≤ i → i < 7 → s' 4 i = stA 502 i) ∧ (∀ i : Int, 0 ≤ i → i < 24 → s' 10 i = 0) ∧ ∀ i : Int, 0 ≤ i → i < 6 → s' 11 i = -1 ∧ s' 12 i = 0) := by
  refine ClV.intro (by decide) rfl (Nat.le_of_ble_eq_true rfl) (fun X C r => ?_)
  refine kb_X2_beginAnew_0 C r (by omega) ?_
  rintro s1 rfl
  refine ⟨0, _, by decide, t_X5_plainOrder hk, ?_⟩
  rintro o s2 ⟨rfl, ho⟩
  rintro s3 rfl
  rintro s4 rfl
  rintro s5 rfl
  rintro s6 rfl
  rintro s7 rfl
  refine ⟨0, _, by decide, t_X4_clear, ?_⟩
  rintro s8 rfl
  rintro s9 rfl
  generalize hu : cpyF (up (up (up (up (up (up (up (up s 3 0 k) 3 2 o) 3 3 0) 5 0 0) 3 9 0) 3 11 0) 17 0 0) 17 1 0) 4 = u
  have cr : ∀ (t : Sto) (c : Nat), c ≠ 4 → cpyF t 4 c = t c := fun t c g => by funext i; exact if_neg (fun z => g z.1)
  have f0 : ∀ c : Nat, c ≠ 3 → c ≠ 4 → c ≠ 5 → c ≠ 17 → u c = s c := fun c g1 g2 g3 g4 => by rw [← hu, cr _ _ g2, up_row g4, up_row g4, up_row g1, up_row g1, up_row g3, up_row g1, up_row g1, up_row g1]
  have f3 : ∀ i : Int, u 3 i = if i = 11 then 0 else if i = 9 then 0 else if i = 3 then 0 else if i = 2 then o else if i = 0 then k else s 3 i := fun i => by
    rw [← hu, cr _ _ (by decide), up_row (by decide), up_row (by decide), up_if, up_if, up_row (by decide), up_if, up_if, up_if]
  have f5 : u 5 0 = 0 := by rw [← hu, cr _ _ (by decide), up_row (by decide), up_row (by decide), up_row (by decide), up_row (by decide), up_at]
  have f170 : u 17 0 = 0 := by rw [← hu, cr _ _ (by decide), up_idx (by decide), up_at]
  have f171 : u 17 1 = 0 := by rw [← hu, cr _ _ (by decide), up_at]
  have f4 : ∀ i : Int, 0 ≤ i → i < 7 → u 4 i = stA 502 i := fun i g1 g2 => by rw [← hu]; exact if_pos ⟨rfl, g1, g2⟩
  clear hu
  rw [← fillR_0 u 10 0 (fun _ => 0)]
  refine downI (P := fun j => G LY X 59 [rv 3, iv k, iv j] [] (fillR u 10 0 j (fun _ => 0))) (b := 24) (by decide) ?_ ?_
  · refine kb_X2_beginAnew_59 C r ⟨by decide, fun _ => ?_, fun q => absurd q (by decide)⟩
    suffices H : ∀ S : Sto, ((∀ c : Nat, c ≠ 10 → c ≠ 11 → c ≠ 12 → S c = u c) ∧ (∀ i : Int, 0 ≤ i → i < 24 → S 10 i = 0) ∧ ∀ i : Int, 0 ≤ i → i < 0 → S 11 i = -1 ∧ S 12 i = 0) → G LY X 83 [rv 3, iv k, iv 0] [] S by
      refine H _ ⟨fun c g1 _ _ => fillR_row g1, fun i g1 g2 => fillR_in (by omega), fun i g1 g2 => absurd g2 (by omega)⟩
    refine downI (P := fun j => ∀ S : Sto, ((∀ c : Nat, c ≠ 10 → c ≠ 11 → c ≠ 12 → S c = u c) ∧ (∀ i : Int, 0 ≤ i → i < 24 → S 10 i = 0) ∧ ∀ i : Int, 0 ≤ i → i < j → S 11 i = -1 ∧ S 12 i = 0) → G LY X 83 [rv 3, iv k, iv j] [] S) (a := 0) (b := 6) (by decide) ?_ ?_
    · rintro S ⟨h1, h2, h3⟩
      refine kb_X2_beginAnew_83 C r ⟨by decide, fun _ => ?_, fun q => absurd q (by decide)⟩
      have g3 := h1 3 (by decide) (by decide) (by decide)
      have g17 := h1 17 (by decide) (by decide) (by decide)
      refine ⟨fun c c3 c4 c5 c10 c11 c12 c17 => by rw [h1 c c10 c11 c12, f0 c c3 c4 c5 c17], ?_, ?_, ?_, ?_, ?_, ?_, ?_, ?_, ?_, fun i i1 i2 => by rw [h1 4 (by decide) (by decide) (by decide), f4 i i1 i2], h2, h3⟩
      · rw [g3, f3]; simp
      · rw [g3, f3]; simp
      · rw [g3, f3]; simpa using ho
      · rw [g3, f3]; simp
      · rw [g3, f3]; simp
      · rw [g3, f3]; simp
      · rw [h1 5 (by decide) (by decide) (by decide), f5]
      · rw [g17, f170]
      · rw [g17, f171]
    · rintro j g1 g2 ih S ⟨h1, h2, h3⟩
      refine kb_X2_beginAnew_83 C r ⟨⟨by omega, by omega⟩, fun q => absurd q (by omega), fun _ => ⟨⟨g1, g2⟩, ?_⟩⟩
      rintro s1 rfl
      refine ⟨⟨g1, g2⟩, ?_⟩
      rintro s2 rfl
      refine ih _ ⟨fun c c10 c11 c12 => by rw [up_row c12, up_row c11, h1 c c10 c11 c12], fun i i1 i2 => by rw [up_row (by decide), up_row (by decide), h2 i i1 i2], fun i i1 i2 => ?_⟩
      rw [up_row (c' := 11) (by decide), up_if, up_if]
      by_cases g : i = j
      · rw [if_pos g, if_pos g]; exact ⟨rfl, rfl⟩
      · rw [if_neg g, if_neg g, up_row (by decide)]; exact h3 i i1 (by omega)
  · intro j g1 g2 ih
    refine kb_X2_beginAnew_59 C r ⟨⟨by omega, by omega⟩, fun q => absurd q (by omega), fun _ => ⟨⟨g1, g2⟩, ?_⟩⟩
    rintro s1 rfl
    rw [fillR_s (by omega) (by omega) rfl]
    exact ih
set_option maxHeartbeats 2000000 in
theorem t_X11_letters {k : Int} {s : Sto} (hk : rg k) : ClI LY 2 MX11_letters [.inr 0, .inl k] s (fun r s' => ((2 ≤ k ∧ k ≤ 8) ∧ r = 1 ∧ (∀ c : Nat, c ≠ 3 → c ≠ 4 → c ≠ 5 → c ≠ 10 → c ≠ 11 → c ≠ 12 → c ≠ 17 → s' c = s c) ∧ s' 3 0 = k ∧ s' 3 1 = s 3 1 ∧ OdR k (s' 3 2) (fun i => i) ∧ s' 3 3 = 0 ∧ s' 3 9 = 0 ∧ s' 3 11 = 0 ∧ s' 5 0 = 0 ∧ s' 17 0 = 0 ∧ s' 17 1 = 0 ∧ (∀ i : Int, 0 ≤ i → i < 7 → s' 4 i = stA 502 i) ∧ (∀ i : Int, 0 ≤ i → i < 24 → s' 10 i = 0) ∧ ∀ i : Int, 0 ≤ i → i < 6 → s' 11 i = -1 ∧ s' 12 i = 0) ∨ (¬ (2 ≤ k ∧ k ≤ 8) ∧ r = 0 ∧ s' = s)) := by
  refine ClI.introZ (by decide) rfl (Nat.le_of_ble_eq_true rfl) (fun X C r => ?_)
  refine kb_X11_letters_0 C r ?_
  refine ⟨hk, fun q => Or.inr ⟨by omega, rfl, rfl⟩, fun q1 => ⟨hk, fun q2 => ?_, fun q => Or.inr ⟨by omega, rfl, rfl⟩⟩⟩
  refine ⟨1, _, by decide, t_X2_beginAnew ⟨q1, q2⟩, ?_⟩
  intro s1 h
  exact Or.inl ⟨⟨q1, q2⟩, rfl, h⟩
set_option maxHeartbeats 2000000 in
theorem t_X12_letters {k : Int} {s : Sto} (hk : rg k) : ClI LY 1 MX12_letters [.inr 75, .inl k] s (fun r s' => ((2 ≤ k ∧ k ≤ 8) ∧ r = 1 ∧ (∀ c : Nat, c ≠ 75 → c ≠ 81 → ¬ (82 ≤ c ∧ c ≤ 88) → s' c = s c) ∧ (∀ i : Int, s' 75 i = if i = 30 then 0 else if i = 21 then 0 else if i = 18 then 0 else if i = 8 then 0 else if i = 4 then 0 else if i = 9 then k else if i = 22 then 1 else if i = 0 then 0 else s 75 i) ∧ (∀ i : Int, 0 ≤ i → i < 8 → s' 81 i = i) ∧ (∀ i : Int, 0 ≤ i → i < 7 → s' 82 i = stA 502 i) ∧ ∀ i : Int, 0 ≤ i → i < 6 → (s' 83 i = 0 ∧ s' 84 i = 0 ∧ s' 85 i = 0) ∧ s' 86 i = 0 ∧ s' 87 i = 0 ∧ s' 88 i = 0) ∨ (¬ (2 ≤ k ∧ k ≤ 8) ∧ r = 0 ∧ s' = up s 75 0 0)) := by
  refine ClI.introZ (by decide) rfl (Nat.le_of_ble_eq_true rfl) (fun X C r => ?_)
  refine kb_X12_letters_0 C r ?_
  rintro s1 rfl
  refine ⟨0, _, by decide, t_X12_isIn hk (by decide) (by decide), ?_⟩
  rintro r1 s1 ⟨rfl, h1, h2⟩
  refine ⟨by omega, fun q => ?_, fun q => Or.inr ⟨by omega, rfl, rfl⟩⟩
  rintro s2 rfl
  refine ⟨0, _, by decide, t_X12_begins (Or.inl (up_at _ _ _ _)), ?_⟩
  rintro s3 rfl
  rintro s4 rfl
  rintro s5 rfl
  rintro s6 rfl
  rintro s7 rfl
  rintro s8 rfl
  rintro s9 rfl
  have eb : begS (up (up s 75 0 0) 75 22 0) = fillR (up (up (up s 75 0 0) 75 22 0) 75 22 1) 81 0 8 (fun i => i) := by
    unfold begS; rw [if_pos (up_at _ _ _ _)]
  rw [eb]
  generalize hu : up (up (up (up (up (up (fillR (up (up (up s 75 0 0) 75 22 0) 75 22 1) 81 0 8 (fun i => i)) 75 9 k) 75 4 0) 75 8 0) 75 18 0) 75 21 0) 75 30 0 = u
  have f0 : ∀ c : Nat, c ≠ 75 → c ≠ 81 → u c = s c := fun c g1 g2 => by rw [← hu, up_row g1, up_row g1, up_row g1, up_row g1, up_row g1, up_row g1, fillR_row g2, up_row g1, up_row g1, up_row g1]
  have f75 : ∀ i : Int, u 75 i = if i = 30 then 0 else if i = 21 then 0 else if i = 18 then 0 else if i = 8 then 0 else if i = 4 then 0 else if i = 9 then k else if i = 22 then 1 else if i = 0 then 0 else s 75 i := fun i => by
    rw [← hu, up_if, up_if, up_if, up_if, up_if, up_if, fillR_row (by decide), up_up, up_if, up_if]
  have f81 : ∀ i : Int, 0 ≤ i → i < 8 → u 81 i = i := fun i g1 g2 => by
    rw [← hu, up_row (by decide), up_row (by decide), up_row (by decide), up_row (by decide), up_row (by decide), up_row (by decide), fillR_in (by omega)]; omega
  clear hu eb
  suffices H : ∀ S : Sto, ((∀ c : Nat, c ≠ 82 → S c = u c) ∧ ∀ i : Int, 0 ≤ i → i < 0 → S 82 i = stA 502 i) → G LY X 59 [rv 75, iv k, iv 0] [] S from H u ⟨fun _ _ => rfl, fun i g1 g2 => absurd g2 (by omega)⟩
  refine downI (P := fun j => ∀ S : Sto, ((∀ c : Nat, c ≠ 82 → S c = u c) ∧ ∀ i : Int, 0 ≤ i → i < j → S 82 i = stA 502 i) → G LY X 59 [rv 75, iv k, iv j] [] S) (a := 0) (b := 7) (by decide) ?_ ?_
  · rintro S ⟨g1, g2⟩
    refine kb_X12_letters_59 C r ⟨by decide, fun _ => ?_, fun q => absurd q (by decide)⟩
    suffices H : ∀ S2 : Sto, ((∀ c : Nat, ¬ (83 ≤ c ∧ c ≤ 88) → S2 c = S c) ∧ ∀ i : Int, 0 ≤ i → i < 0 → (S2 83 i = 0 ∧ S2 84 i = 0 ∧ S2 85 i = 0) ∧ S2 86 i = 0 ∧ S2 87 i = 0 ∧ S2 88 i = 0) → G LY X 95 [rv 75, iv k, iv 0] [] S2 from H S ⟨fun _ _ => rfl, fun i g1 g2 => absurd g2 (by omega)⟩
    refine downI (P := fun j => ∀ S2 : Sto, ((∀ c : Nat, ¬ (83 ≤ c ∧ c ≤ 88) → S2 c = S c) ∧ ∀ i : Int, 0 ≤ i → i < j → (S2 83 i = 0 ∧ S2 84 i = 0 ∧ S2 85 i = 0) ∧ S2 86 i = 0 ∧ S2 87 i = 0 ∧ S2 88 i = 0) → G LY X 95 [rv 75, iv k, iv j] [] S2) (a := 0) (b := 6) (by decide) ?_ ?_
    · rintro S2 ⟨k1, k2⟩
      refine kb_X12_letters_95 C r ⟨by decide, fun _ => Or.inl ⟨by omega, rfl, fun c c1 c2 c3 => ?_, fun i => ?_, fun i i1 i2 => ?_, fun i i1 i2 => ?_, k2⟩, fun q => absurd q (by decide)⟩
      · rw [k1 c (by omega), g1 c (by omega), f0 c c1 c2]
      · rw [k1 75 (by decide), g1 75 (by decide), f75]
      · rw [k1 81 (by decide), g1 81 (by decide), f81 i i1 i2]
      · rw [k1 82 (by decide), g2 i i1 i2]
    · rintro j j1 j2 ih S2 ⟨k1, k2⟩
      refine kb_X12_letters_95 C r ⟨⟨by omega, by omega⟩, fun q => absurd q (by omega), fun _ => ⟨⟨j1, j2⟩, ?_⟩⟩
      rintro t1 rfl
      refine ⟨⟨j1, j2⟩, ?_⟩
      rintro t2 rfl
      refine ⟨⟨j1, j2⟩, ?_⟩
      rintro t3 rfl
      refine ⟨⟨j1, j2⟩, ?_⟩
      rintro t4 rfl
      refine ⟨⟨j1, j2⟩, ?_⟩
      rintro t5 rfl
      refine ⟨⟨j1, j2⟩, ?_⟩
      rintro t6 rfl
      refine ih _ ⟨fun c c1 => by rw [up_row (by omega), up_row (by omega), up_row (by omega), up_row (by omega), up_row (by omega), up_row (by omega), k1 c c1], fun i i1 i2 => ?_⟩
      simp (disch := decide) only [up_row, up_if]
      by_cases g : i = j
      · simp only [if_pos g, and_self]
      · simp only [if_neg g]; exact k2 i i1 (by omega)
  · rintro j j1 j2 ih S ⟨g1, g2⟩
    have fin : ∀ v : Int, v = stA 502 j → G LY X 59 [rv 75, iv k, iv (j + 1)] [] (up S 82 j v) := by
      intro v hv
      refine ih _ ⟨fun c c1 => by rw [up_row c1, g1 c c1], fun i i1 i2 => ?_⟩
      rw [up_if]
      by_cases g : i = j
      · rw [if_pos g, g, hv]
      · rw [if_neg g]; exact g2 i i1 (by omega)
    have hst : stA 502 j = if 2 ≤ j ∧ j ≤ 5 then 1 else 0 := by simp [stA]
    refine kb_X12_letters_59 C r ⟨⟨by omega, by omega⟩, fun q => absurd q (by omega), fun _ => ⟨⟨by omega, by omega⟩, fun q1 => ⟨⟨j1, j2⟩, ?_⟩, fun q1 => ⟨⟨by omega, by omega⟩, fun q2 => ⟨⟨j1, j2⟩, ?_⟩, fun q2 => ⟨⟨j1, j2⟩, ?_⟩⟩⟩⟩
    · rintro t1 rfl
      exact fin 0 (by rw [hst, if_neg (by omega)])
    · rintro t1 rfl
      exact fin 0 (by rw [hst, if_neg (by omega)])
    · rintro t1 rfl
      exact fin 1 (by rw [hst, if_pos (by omega)])
theorem st_bd {i : Int} (h1 : 0 ≤ i) (h2 : i < 7) : stA 500 i ≤ stA 502 i ∧ stA 502 i ≤ stA 501 i := by
  have : i = 0 ∨ i = 1 ∨ i = 2 ∨ i = 3 ∨ i = 4 ∨ i = 5 ∨ i = 6 := by omega
  rcases this with rfl | rfl | rfl | rfl | rfl | rfl | rfl <;> decide
theorem op_letters [Inhabited YT] {s : Sto} (h : Inv s) {k : Int} (hk : rg k) : OpI MX11_letters MX12_letters [.inl k] s := by
  obtain ⟨a1, a2, a3⟩ := h.2.1
  refine ⟨2, 1, _, by decide, by decide, t_X11_letters hk, ?_⟩
  rintro r1 s1 (⟨q, rfl, c0, c1, c2, c3, c4, c5, c6, c7, c8, c9, c10, c11, c12⟩ | ⟨q, rfl, rfl⟩)
  · refine ⟨by decide, (t_X12_letters hk).mono ?_⟩
    rintro r2 z (⟨q2, rfl, m0, m75, m81, m82, m83⟩ | ⟨q2, rfl, rfl⟩)
    · have e75 : s1 75 = s 75 := c0 75 (by decide) (by decide) (by decide) (by decide) (by decide) (by decide) (by decide)
      have z3 : z 3 = s1 3 := m0 3 (by decide) (by decide) (by decide)
      have z4 : z 4 = s1 4 := m0 4 (by decide) (by decide) (by decide)
      have z5 : z 5 = s1 5 := m0 5 (by decide) (by decide) (by decide)
      have z10 : z 10 = s1 10 := m0 10 (by decide) (by decide) (by decide)
      have z11 : z 11 = s1 11 := m0 11 (by decide) (by decide) (by decide)
      have z12 : z 12 = s1 12 := m0 12 (by decide) (by decide) (by decide)
      have z17 : z 17 = s1 17 := m0 17 (by decide) (by decide) (by decide)
      refine ⟨rfl, h.land ?_ (by rw [m75]; simp) (fun x i g1 g2 g3 => ?_)⟩
      · refine ⟨⟨?_, ?_, ?_⟩, ⟨?_, ?_⟩, ?_, ⟨?_, ?_⟩, ?_, ⟨?_, ?_, ?_⟩, ?_, ?_, ?_, ?_, ⟨?_, ?_, ?_⟩, ?_, ⟨?_, ?_, ?_⟩, ?_, ?_, ?_⟩
        · rw [z3, c1, m75]; simp
        · rw [z3, c1]; exact q.1
        · rw [z3, c1]; exact q.2
        · rw [z3, c2, m75, e75]; simpa using a2.1
        · rw [z3, c2]; exact a2.2
        · rw [z3, c1, m75]
          refine c3.congr (fun i i1 i2 => ?_)
          unfold alM
          rw [if_neg (by simp), m81 i i1 (by omega)]
        · rw [z3, c4, m75]; simp
        · rw [z3, c4]
          have y4 := h.2.1.2.2.2.1.2
          omega
        · intro i i1 i2
          show z 4 i = z 82 i ∧ stA 500 i ≤ z 4 i ∧ z 4 i ≤ stA 501 i
          rw [z4, c10 i i1 i2, m82 i i1 i2]
          exact ⟨rfl, st_bd i1 i2⟩
        · show z 5 0 = _
          rw [z5, c7, m75]; simp
        · show 0 ≤ z 5 0
          rw [z5, c7]; decide
        · show z 5 0 ≤ 20
          rw [z5, c7]; decide
        · show NamesR (z 5 0) _ _ _ _
          rw [z5, c7]; intro p p1 p2; exact absurd p2 (by omega)
        · show PeopleR (z 5 0) _ _ _ _ _ _
          rw [z5, c7]; intro p p1 p2; exact absurd p2 (by omega)
        · intro j j1 j2
          obtain ⟨⟨k1, k2, k3⟩, k4, k5, k6⟩ := m83 j j1 j2
          show (z 10 _ = _ ∧ _) ∧ (z 10 _ = _ ∧ _) ∧ (z 10 _ = _ ∧ _) ∧ (z 10 _ = _ ∧ _)
          rw [z10, c11 _ (by omega) (by omega), c11 _ (by omega) (by omega), c11 _ (by omega) (by omega), c11 _ (by omega) (by omega), k1, k2, k3, k4]
          decide
        · intro j j1 j2
          obtain ⟨-, k4, k5, k6⟩ := m83 j j1 j2
          show (z 12 j = _ ∧ 0 ≤ z 12 j ∧ z 12 j ≤ 99) ∧ ((_ ∧ z 11 j = -1) ∨ _)
          rw [z11, z12, (c12 j j1 j2).1, (c12 j j1 j2).2, k5, k6]
          exact ⟨by decide, Or.inl ⟨rfl, rfl⟩⟩
        · rw [z3, c5, m75]; simp
        · rw [z3, c5]; decide
        · rw [z3, c5]; decide
        · rw [z3, c5]; intro p p1 p2; exact absurd p2 (by omega)
        · rw [z3, c6, m75]; simp
        · rw [z3, c6]; decide
        · rw [z3, c6]; decide
        · rw [z3, c6]; intro p p1 p2; exact absurd p2 (by omega)
        · show z 17 0 = _
          rw [z17, c8, m75]; simp
        · show NamingR (z 17 0) (z 17 1) _ _ _ _ _ _ _ _
          rw [z17, c8, c9]
          exact ⟨by decide, by decide, fun i i1 i2 => absurd i2 (by omega), fun _ => rfl, fun l l1 l2 => absurd l2 (by omega)⟩
      · by_cases g75 : x = 75
        · subst g75
          rw [m75, e75]
          unfold pers perM at *
          rw [if_neg (by omega), if_neg (by omega), if_neg (by omega), if_neg (by omega), if_neg (by omega), if_neg (by omega), if_neg (by omega), if_neg (by omega)]
        · unfold pers perM at *
          rw [m0 x g75 (by omega) (by omega), c0 x (by omega) (by omega) (by omega) (by omega) (by omega) (by omega) (by omega)]
    · exact absurd q q2
  · refine ⟨by decide, (t_X12_letters hk).mono ?_⟩
    rintro r2 z (⟨q2, rfl, -⟩ | ⟨q2, rfl, rfl⟩)
    · exact absurd q2 q
    · exact ⟨rfl, h.told 0⟩
