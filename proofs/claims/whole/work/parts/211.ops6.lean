/-! OPERATIONS: chance, voter -/
set_option maxHeartbeats 2000000 in
theorem t_X11_chance {i w : Int} {s : Sto} {t : Int → Int} (hT : TapeR (s 1 1) (s 2) t) (hK : 2 ≤ s 3 0 ∧ s 3 0 ≤ 8) (hi : rg i) (hw : rg w) : ClI LY 1 MX11_chance [.inr 0, .inl i, .inl w] s (fun r s' => ((isOd (s 3 0) (s 1 1) (s 2) ∧ (0 ≤ i ∧ i ≤ 5) ∧ 0 ≤ w ∧ w ≤ 99) ∧ r = 1 ∧ ∃ o, OdR (s 3 0) o (fun i => s 2 i - 97) ∧ s' = up (up (up s 1 1 0) 11 i o) 12 i w) ∨ (¬ (isOd (s 3 0) (s 1 1) (s 2) ∧ (0 ≤ i ∧ i ≤ 5) ∧ 0 ≤ w ∧ w ≤ 99) ∧ r = 0 ∧ s' = up s 1 1 0)) := by
  refine ClI.introZ (by decide) rfl (Nat.le_of_ble_eq_true rfl) (fun X C r => ?_)
  refine kb_X11_chance_0 C r ?_
  refine ⟨0, _, by decide, t_X9_orderOnce hT hK, ?_⟩
  rintro r1 s1 ⟨rfl, hr, hn⟩
  refine ⟨hr, fun q => ?_, fun q => ?_⟩
  · rcases hn with ⟨h1, h2⟩ | ⟨h1, h2⟩
    · exact absurd h2.bd.1 (by omega)
    · exact Or.inr ⟨fun z => h1 z.1, rfl, rfl⟩
  · rcases hn with ⟨h1, h2⟩ | ⟨h1, h2⟩
    · refine ⟨hi, fun z => Or.inr ⟨by omega, rfl, rfl⟩, fun q1 => ⟨hi, fun z => Or.inr ⟨by omega, rfl, rfl⟩, fun q2 => ⟨hw, fun z => Or.inr ⟨by omega, rfl, rfl⟩, fun q3 => ⟨hw, fun q4 => ⟨by omega, ?_⟩, fun z => Or.inr ⟨by omega, rfl, rfl⟩⟩⟩⟩⟩
      rintro s2 rfl
      refine ⟨by omega, ?_⟩
      rintro s3 rfl
      exact Or.inl ⟨⟨h1, by omega⟩, rfl, r1, h2, rfl⟩
    · exact absurd h2 q
set_option maxHeartbeats 2000000 in
theorem t_X12_chance {i w : Int} {s : Sto} {t : Int → Int} (hT : TapeR (s 75 24) t (s 91)) (hK : 2 ≤ s 75 9 ∧ s 75 9 ≤ 8) (hb : s 75 22 = 0 ∨ s 75 22 = 1) (hi : rg i) (hw : rg w) : ClI LY 2 MX12_chance [.inr 75, .inl i, .inl w] s (fun r s' => ((isOd (s 75 9) (s 75 24) (s 91) ∧ (0 ≤ i ∧ i ≤ 5) ∧ 0 ≤ w ∧ w ≤ 99) ∧ r = 1 ∧ s' = up (up (ordTo (up s 75 0 0) (1 + i)) 87 i w) 88 i 1) ∨ (¬ (isOd (s 75 9) (s 75 24) (s 91) ∧ (0 ≤ i ∧ i ≤ 5) ∧ 0 ≤ w ∧ w ≤ 99) ∧ r = 0 ∧ agr s' (up (begS (up s 75 0 0)) 75 24 0))) := by
  refine ClI.introZ (by decide) rfl (Nat.le_of_ble_eq_true rfl) (fun X C r => ?_)
  refine kb_X12_chance_0 C r ?_
  rintro s0 rfl
  have e24 : up s 75 0 0 75 24 = s 75 24 := up_idx (by decide)
  have e9 : up s 75 0 0 75 9 = s 75 9 := up_idx (by decide)
  have e22 : up s 75 0 0 75 22 = s 75 22 := up_idx (by decide)
  have e18 : up s 75 0 0 75 18 = s 75 18 := up_idx (by decide)
  have e91 : up s 75 0 0 91 = s 91 := up_row (by decide)
  generalize up s 75 0 0 = u at e24 e9 e22 e18 e91 ⊢
  rw [← e24, ← e91] at hT
  rw [← e9] at hK
  rw [← e22] at hb
  rw [← e24, ← e9, ← e91]
  refine ⟨1, _, by decide, t_X12_takesOrder hT hK hb, ?_⟩
  rintro r1 s1 (⟨rfl, hn, rfl⟩ | ⟨rfl, hn, rfl⟩)
  · refine ⟨by decide, fun z => absurd z (by decide), fun _ => ?_⟩
    refine ⟨0, _, by decide, t_X12_isIn hi (by decide) (by decide), ?_⟩
    rintro r2 s2 ⟨rfl, h1, h2⟩
    refine ⟨by omega, fun z => Or.inr ⟨by omega, rfl, agr_ou⟩, fun q1 => ?_⟩
    refine ⟨0, _, by decide, t_X12_isIn hw (by decide) (by decide), ?_⟩
    rintro r3 s3 ⟨rfl, h3, h4⟩
    refine ⟨by omega, fun q2 => ?_, fun z => Or.inr ⟨by omega, rfl, agr_ou⟩⟩
    refine ⟨0, _, by decide, t_X12_movesOrder (by decide) (by omega) (by omega), ?_⟩
    rintro s5 rfl
    refine ⟨by omega, ?_⟩
    rintro s6 rfl
    refine ⟨by omega, ?_⟩
    rintro s7 rfl
    exact Or.inl ⟨⟨hn, by omega, by omega⟩, rfl, rfl⟩
  · exact ⟨by decide, fun _ => Or.inr ⟨fun z => hn z.1, rfl, fun _ _ _ => rfl⟩, fun z => absurd rfl z⟩
theorem op_chance [Inhabited YT] {s : Sto} (h : Inv s) {i w : Int} (hi : rg i) (hw : rg w) : OpI MX11_chance MX12_chance [.inl i, .inl w] s := by
  obtain ⟨a1, a2, a3, a4, a5, a6, a7, a8, a9, a10, a11, a12, a13, a14, a15⟩ := h.2.1
  obtain ⟨b3, b10, b14⟩ := landB h
  have hT := h.1
  have hB := h.2.2.2.2.1
  have hK : 2 ≤ s 3 0 ∧ s 3 0 ≤ 8 := a1.2
  have h9 : s 3 0 = s 75 9 := a1.1
  have hV : 0 ≤ s 3 11 ∧ s 3 11 ≤ 12 := a13.2
  have h18 : s 3 11 = s 75 18 := a13.1
  refine ⟨1, 2, _, by decide, by decide, t_X11_chance hT.2 hK hi hw, ?_⟩
  rintro r1 s1 (⟨q, rfl, o, ho, rfl⟩ | ⟨q, rfl, rfl⟩)
  · generalize hu : up (up (up s 1 1 0) 11 i o) 12 i w = u
    have er : ∀ x : Nat, x ≠ 1 → x ≠ 11 → x ≠ 12 → u x = s x := fun x g1 g11 g12 => by rw [← hu, up_row g12, up_row g11, up_row g1]
    have e75 := er 75 (by decide) (by decide) (by decide)
    have e91 := er 91 (by decide) (by decide) (by decide)
    refine ⟨by decide, (t_X12_chance (by rw [e75, e91, ← hT.1]; exact hT.2) (by rw [e75]; omega) (by rw [e75]; exact hB) hi hw).mono ?_⟩
    rw [e75, e91]
    rintro r2 s2 (⟨q2, rfl, rfl⟩ | ⟨q2, rfl, hag⟩)
    · have v22 : up u 75 0 0 75 22 = 0 ∨ up u 75 0 0 75 22 = 1 := by rw [up_idx (by decide), e75]; exact hB
      have v24 : up u 75 0 0 75 24 = s 75 24 := by rw [up_idx (by decide), e75]
      have v91 : up u 75 0 0 91 = s 91 := by rw [up_row (by decide), e91]
      have hn : s 75 24 = s 3 0 := by rw [← hT.1]; exact q.1.1
      have wx : ∀ x : Nat, x ≠ 75 → x ≠ 81 → x ≠ 87 → x ≠ 88 → up (up (ordTo (up u 75 0 0) (1 + i)) 87 i w) 88 i 1 x = u x := fun x g75 g81 g87 g88 => by rw [up_row g88, up_row g87, ordTo_row g75 g81, up_row g75]
      have w75 : ∀ i_1 : Int, i_1 ≠ 22 → i_1 ≠ 24 → i_1 ≠ 0 → up (up (ordTo (up u 75 0 0) (1 + i)) 87 i w) 88 i 1 75 i_1 = s 75 i_1 := fun i_1 g1 g2 g3 => by rw [up_row (by decide), up_row (by decide), ordTo_75 g1 g2, up_idx g3, e75]
      have w22 : up (up (ordTo (up u 75 0 0) (1 + i)) 87 i w) 88 i 1 75 22 = 1 := by rw [up_row (by decide), up_row (by decide), ordTo_22 v22]
      have w24 : up (up (ordTo (up u 75 0 0) (1 + i)) 87 i w) 88 i 1 75 24 = 0 := by rw [up_row (by decide), up_row (by decide), ordTo_24]
      have w81 : ∀ j : Int, j < 152 → ¬ (8 * (1 + i) ≤ j ∧ j < 8 * (1 + i) + 8) → up (up (ordTo (up u 75 0 0) (1 + i)) 87 i w) 88 i 1 81 j = begS s 81 j := fun j g1 g2 => by rw [up_row (by decide), up_row (by decide), ordTo_81 g1 g2, begS_81 (s := s) (by rw [up_idx (by decide), e75]) (by rw [up_row (by decide), er 81 (by decide) (by decide) (by decide)])]
      have w81q : ∀ j : Int, 0 ≤ j → j < s 3 0 → up (up (ordTo (up u 75 0 0) (1 + i)) 87 i w) 88 i 1 81 (8 * (1 + i) + j) = s 91 j - 97 := fun j g1 g2 => by rw [up_row (by decide), up_row (by decide), ordTo_81q (by omega) (by rw [v24]; omega), v91]
      have w87 : ∀ j : Int, up (up (ordTo (up u 75 0 0) (1 + i)) 87 i w) 88 i 1 87 j = if j = i then w else s 87 j := fun j => by rw [up_row (by decide), up_if, ordTo_row (by decide) (by decide), up_row (by decide), er 87 (by decide) (by decide) (by decide)]
      have w88 : ∀ j : Int, up (up (ordTo (up u 75 0 0) (1 + i)) 87 i w) 88 i 1 88 j = if j = i then 1 else s 88 j := fun j => by rw [up_if, up_row (by decide), ordTo_row (by decide) (by decide), up_row (by decide), er 88 (by decide) (by decide) (by decide)]
      generalize up (up (ordTo (up u 75 0 0) (1 + i)) 87 i w) 88 i 1 = z at wx w75 w22 w24 w81 w81q w87 w88 ⊢
      refine ⟨rfl, h.empB'.land ?_ (Or.inr w22) (fun x i_1 g1 g2 g3 => ?_)⟩
      · have u11 : ∀ j : Int, z 11 j = if j = i then o else s 11 j := fun j => by rw [wx 11 (by decide) (by decide) (by decide) (by decide), ← hu, up_row (by decide), up_if, up_row (by decide)]
        have u12 : ∀ j : Int, z 12 j = if j = i then w else s 12 j := fun j => by rw [wx 12 (by decide) (by decide) (by decide) (by decide), ← hu, up_if, up_row (by decide), up_row (by decide)]
        have ks : ∀ x : Nat, (3 ≤ x ∧ x ≤ 20) → x ≠ 11 → x ≠ 12 → z x = s x := fun x g g2 g3 => by rw [wx x (by omega) (by omega) (by omega) (by omega), er x (by omega) g2 g3]
        have km : ∀ x : Nat, (76 ≤ x ∧ x ≤ 97) → x ≠ 81 → x ≠ 87 → x ≠ 88 → z x = s x := fun x g g2 g3 g4 => by rw [wx x (by omega) g2 g3 g4, er x (by omega) (by omega) (by omega)]
        unfold LandR
        rw [ks 3 (by omega) (by omega) (by omega), ks (3 + 1) (by omega) (by omega) (by omega), ks (3 + 2) (by omega) (by omega) (by omega), ks (3 + 3) (by omega) (by omega) (by omega), ks (3 + 4) (by omega) (by omega) (by omega), ks (3 + 5) (by omega) (by omega) (by omega), ks (3 + 6) (by omega) (by omega) (by omega), ks (3 + 7) (by omega) (by omega) (by omega), ks (3 + 10) (by omega) (by omega) (by omega), ks (3 + 11) (by omega) (by omega) (by omega), ks (3 + 12) (by omega) (by omega) (by omega), ks (3 + 13) (by omega) (by omega) (by omega), ks (3 + 14) (by omega) (by omega) (by omega), ks (3 + 15) (by omega) (by omega) (by omega), ks (3 + 16) (by omega) (by omega) (by omega), ks (3 + 17) (by omega) (by omega) (by omega)]
        rw [km 76 (by omega) (by omega) (by omega) (by omega), km 77 (by omega) (by omega) (by omega) (by omega), km 78 (by omega) (by omega) (by omega) (by omega), km 79 (by omega) (by omega) (by omega) (by omega), km 80 (by omega) (by omega) (by omega) (by omega), km 82 (by omega) (by omega) (by omega) (by omega), km 83 (by omega) (by omega) (by omega) (by omega), km 84 (by omega) (by omega) (by omega) (by omega), km 85 (by omega) (by omega) (by omega) (by omega), km 86 (by omega) (by omega) (by omega) (by omega), km 89 (by omega) (by omega) (by omega) (by omega), km 90 (by omega) (by omega) (by omega) (by omega), km 93 (by omega) (by omega) (by omega) (by omega), km 94 (by omega) (by omega) (by omega) (by omega), km 95 (by omega) (by omega) (by omega) (by omega), km 96 (by omega) (by omega) (by omega) (by omega), km 97 (by omega) (by omega) (by omega) (by omega)]
        rw [w75 1 (by decide) (by decide) (by decide), w75 4 (by decide) (by decide) (by decide), w75 8 (by decide) (by decide) (by decide), w75 9 (by decide) (by decide) (by decide), w75 18 (by decide) (by decide) (by decide), w75 21 (by decide) (by decide) (by decide), w22, w75 30 (by decide) (by decide) (by decide)]
        refine ⟨a1, a2, ?_, a4, a5, a6, a7, a8, a9, ?_, a11, a12, a13, ?_, a15⟩
        · refine b3.congr (fun j j1 j2 => ?_)
          unfold alM
          rw [if_neg (by decide), w81 j (by omega) (by omega)]
        · intro j g1 g2
          show (z 12 j = z 87 j ∧ _) ∧ _
          rw [w87, w88]
          show (z 12 j = _ ∧ 0 ≤ z 12 j ∧ z 12 j ≤ 99) ∧ ((_ ∧ z 11 j = -1) ∨ (_ ∧ OdR (s 3 0) (z 11 j) _))
          rw [u11, u12]
          by_cases g : j = i
          · rw [if_pos g, if_pos g, if_pos g, if_pos g]
            refine ⟨⟨rfl, by omega⟩, Or.inr ⟨rfl, ho.congr (fun k k1 k2 => ?_)⟩⟩
            show z 81 (8 * (1 + j) + k) = _
            rw [g, w81q k k1 k2, ← (hT.2.2.2 k k1 (by have := q.1.1; omega)).1]
          · rw [if_neg g, if_neg g, if_neg g, if_neg g]
            obtain ⟨k1, k2⟩ := b10 j g1 g2
            refine ⟨k1, ?_⟩
            rcases k2 with k | ⟨k, k3⟩
            · exact Or.inl k
            · exact Or.inr ⟨k, k3.congr (fun x x1 x2 => w81 _ (by omega) (by omega))⟩
        · intro v g1 g2
          obtain ⟨k1, k2⟩ := b14 v g1 g2
          exact ⟨k1.congr (fun x x1 x2 => w81 _ (by omega) (by omega)), k2⟩
      · unfold empB emptd
        by_cases g75 : x = 75
        · subst g75
          by_cases g24 : i_1 = 24
          · subst g24; rw [w24, up_at]
          · have g22 : i_1 ≠ 22 := fun e => g3 (by unfold perM; omega)
            rw [w75 i_1 g22 g24 (by unfold pers perM at *; omega), up_idx g24, up_row (by decide), begS_75 g22]
        · have g81 : x ≠ 81 := fun e => by unfold pers perM at *; omega
          have hc : x ≠ 11 ∧ x ≠ 12 := by omega
          rw [wx x g75 g81 (by unfold pers perM at *; omega) (by unfold pers perM at *; omega), up_row g75, ← hu, up_row hc.2, up_row hc.1]
          by_cases g1 : x = 1
          · subst g1
            by_cases g : i_1 = 1
            · rw [g, up_at, up_at]
            · rw [up_idx g, up_idx g, begS_row (by decide) (by decide)]
          · rw [up_row g1, up_row g1, begS_row g75 g81]
    · exact absurd ⟨by rw [← hT.1, ← h9]; exact (isOd_eq hT.2).mp q.1, q.2⟩ q2
  · have e75 : up s 1 1 0 75 = s 75 := up_row (by decide)
    have e91 : up s 1 1 0 91 = s 91 := up_row (by decide)
    refine ⟨by decide, (t_X12_chance (by rw [e75, e91, ← hT.1]; exact hT.2) (by rw [e75]; omega) (by rw [e75]; exact hB) hi hw).mono ?_⟩
    rw [e75, e91]
    rintro r2 s2 (⟨q2, rfl, rfl⟩ | ⟨q2, rfl, hag⟩)
    · exact absurd ⟨(isOd_eq hT.2).mpr (by rw [h9, hT.1]; exact q2.1), q2.2⟩ q
    · exact ⟨rfl, h.empB'.agr (agr_empB (u := up s 1 1 0) hag (fun c g => up_row g) rfl)⟩
set_option maxHeartbeats 2000000 in
theorem t_X2_addVoter {o w p : Int} {s : Sto} (h : 0 ≤ s 3 11 ∧ s 3 11 ≤ 12) : ClI LY 0 MX2_addVoter [.inr 3, .inl o, .inl w, .inl p] s (fun r s' => (s 3 11 < 12 ∧ r = s 3 11 ∧ s' = up (up (up (up s 14 (s 3 11) o) 15 (s 3 11) w) 16 (s 3 11) p) 3 11 (s 3 11 + 1)) ∨ (¬ s 3 11 < 12 ∧ r = -1 ∧ s' = s)) := by
  refine ClI.intro (by decide) rfl (Nat.le_of_ble_eq_true rfl) (fun X C r => ?_)
  refine kb_X2_addVoter_0 C r ?_
  refine ⟨⟨by omega, by omega⟩, fun q => ⟨by omega, ?_⟩, fun q => Or.inr ⟨by omega, rfl, rfl⟩⟩
  rintro s1 rfl
  rw [up_row (c' := 3) (by decide)]
  refine ⟨by omega, ?_⟩
  rintro s2 rfl
  rw [up_row (c' := 3) (by decide), up_row (c' := 3) (by decide)]
  refine ⟨by omega, ?_⟩
  rintro s3 rfl
  rw [up_row (c' := 3) (by decide), up_row (c' := 3) (by decide), up_row (c' := 3) (by decide)]
  rintro s4 rfl
  rw [up_at]
  exact Or.inl ⟨q, by omega, rfl⟩
set_option maxHeartbeats 2000000 in
theorem t_X11_voter {w p : Int} {s : Sto} {t : Int → Int} (hT : TapeR (s 1 1) (s 2) t) (hK : 2 ≤ s 3 0 ∧ s 3 0 ≤ 8) (hw : rg w) (hp : rg p) (h : 0 ≤ s 3 11 ∧ s 3 11 ≤ 12) : ClI LY 1 MX11_voter [.inr 0, .inl w, .inl p] s (fun r s' => ((isOd (s 3 0) (s 1 1) (s 2) ∧ ((1 ≤ w ∧ w ≤ 9) ∧ 0 ≤ p ∧ p ≤ 999) ∧ s 3 11 < 12) ∧ r = s 3 11 ∧ ∃ o, OdR (s 3 0) o (fun i => s 2 i - 97) ∧ s' = up (up (up (up (up s 1 1 0) 14 (s 3 11) o) 15 (s 3 11) w) 16 (s 3 11) p) 3 11 (s 3 11 + 1)) ∨ (¬ (isOd (s 3 0) (s 1 1) (s 2) ∧ ((1 ≤ w ∧ w ≤ 9) ∧ 0 ≤ p ∧ p ≤ 999) ∧ s 3 11 < 12) ∧ r = -1 ∧ s' = up s 1 1 0)) := by
  refine ClI.intro (by decide) rfl (Nat.le_of_ble_eq_true rfl) (fun X C r => ?_)
  refine kb_X11_voter_0 C r ?_
  refine ⟨0, _, by decide, t_X9_orderOnce hT hK, ?_⟩
  rintro r1 s1 ⟨rfl, hr, hn⟩
  refine ⟨hr, fun q => ?_, fun q => ?_⟩
  · rcases hn with ⟨h1, h2⟩ | ⟨h1, h2⟩
    · exact absurd h2.bd.1 (by omega)
    · exact Or.inr ⟨fun z => h1 z.1, rfl, rfl⟩
  · rcases hn with ⟨h1, h2⟩ | ⟨h1, h2⟩
    · refine ⟨hw, fun z => Or.inr ⟨by omega, rfl, rfl⟩, fun q1 => ⟨hw, fun z => Or.inr ⟨by omega, rfl, rfl⟩, fun q2 => ⟨hp, fun z => Or.inr ⟨by omega, rfl, rfl⟩, fun q3 => ⟨hp, fun q4 => ?_, fun z => Or.inr ⟨by omega, rfl, rfl⟩⟩⟩⟩⟩
      have e3 : up s 1 1 0 3 = s 3 := up_row (by decide)
      refine ⟨0, _, by decide, t_X2_addVoter (by rw [e3]; exact h), ?_⟩
      rw [e3]
      rintro r2 s2 (⟨g1, rfl, rfl⟩ | ⟨g1, rfl, rfl⟩)
      · exact Or.inl ⟨⟨h1, by omega, g1⟩, rfl, r1, h2, rfl⟩
      · exact Or.inr ⟨fun z => g1 z.2.2, rfl, rfl⟩
    · exact absurd h2 q
set_option maxHeartbeats 2000000 in
theorem t_X12_voter {w p : Int} {s : Sto} {t : Int → Int} (hT : TapeR (s 75 24) t (s 91)) (hK : 2 ≤ s 75 9 ∧ s 75 9 ≤ 8) (hb : s 75 22 = 0 ∨ s 75 22 = 1) (hw : rg w) (hp : rg p) (h : 0 ≤ s 75 18 ∧ s 75 18 ≤ 12) : ClI LY 2 MX12_voter [.inr 75, .inl w, .inl p] s (fun r s' => ((isOd (s 75 9) (s 75 24) (s 91) ∧ ((1 ≤ w ∧ w ≤ 9) ∧ 0 ≤ p ∧ p ≤ 999) ∧ s 75 18 < 12) ∧ r = s 75 18 ∧ s' = up (up (up (ordTo (up s 75 0 0) (7 + s 75 18)) 89 (s 75 18) w) 90 (s 75 18) p) 75 18 (s 75 18 + 1)) ∨ (¬ (isOd (s 75 9) (s 75 24) (s 91) ∧ ((1 ≤ w ∧ w ≤ 9) ∧ 0 ≤ p ∧ p ≤ 999) ∧ s 75 18 < 12) ∧ r = -1 ∧ agr s' (up (begS (up s 75 0 0)) 75 24 0))) := by
  refine ClI.intro (by decide) rfl (Nat.le_of_ble_eq_true rfl) (fun X C r => ?_)
  refine kb_X12_voter_0 C r ?_
  rintro s0 rfl
  have e24 : up s 75 0 0 75 24 = s 75 24 := up_idx (by decide)
  have e9 : up s 75 0 0 75 9 = s 75 9 := up_idx (by decide)
  have e22 : up s 75 0 0 75 22 = s 75 22 := up_idx (by decide)
  have e18 : up s 75 0 0 75 18 = s 75 18 := up_idx (by decide)
  have e91 : up s 75 0 0 91 = s 91 := up_row (by decide)
  generalize up s 75 0 0 = u at e24 e9 e22 e18 e91 ⊢
  rw [← e24, ← e91] at hT
  rw [← e9] at hK
  rw [← e22] at hb
  rw [← e18] at h
  rw [← e18]
  rw [← e24, ← e9, ← e91]
  refine ⟨1, _, by decide, t_X12_takesOrder hT hK hb, ?_⟩
  rintro r1 s1 (⟨rfl, hn, rfl⟩ | ⟨rfl, hn, rfl⟩)
  · refine ⟨by decide, fun z => absurd z (by decide), fun _ => ?_⟩
    refine ⟨0, _, by decide, t_X12_isIn hw (by decide) (by decide), ?_⟩
    rintro r2 s2 ⟨rfl, h1, h2⟩
    refine ⟨by omega, fun z => Or.inr ⟨by omega, rfl, agr_ou⟩, fun q1 => ?_⟩
    refine ⟨0, _, by decide, t_X12_isIn hp (by decide) (by decide), ?_⟩
    rintro r3 s3 ⟨rfl, h3, h4⟩
    refine ⟨by omega, fun z => Or.inr ⟨by omega, rfl, agr_ou⟩, fun q2 => ?_⟩
    have f18 : ordU u 75 18 = u 75 18 := ordU_75 (by decide) (by decide)
    have f18' : (fillR (up (begS u) 75 24 0) 81 152 (u 75 24) (fun k => u 91 k - 97)) 75 18 = u 75 18 := f18
    rw [f18']
    refine ⟨⟨by omega, by omega⟩, fun q3 => ?_, fun z => Or.inr ⟨by omega, rfl, agr_ou⟩⟩
    refine ⟨0, _, by decide, t_X12_movesOrder (by decide) (by omega) (by omega), ?_⟩
    rintro s5 rfl
    have g18 : ordTo u (7 + u 75 18) 75 18 = u 75 18 := ordTo_75 (by decide) (by decide)
    show (0 ≤ ordTo u (7 + u 75 18) 75 18 ∧ ordTo u (7 + u 75 18) 75 18 < 12) ∧ ∀ s1 : Sto, s1 = up (ordTo u (7 + u 75 18)) 89 (ordTo u (7 + u 75 18) 75 18) w → _
    rw [g18]
    refine ⟨by omega, ?_⟩
    rintro s6 rfl
    rw [up_row (c' := 75) (by decide), g18]
    refine ⟨by omega, ?_⟩
    rintro s7 rfl
    rw [up_row (c' := 75) (by decide), up_row (c' := 75) (by decide), g18]
    rintro s8 rfl
    rw [up_at]
    exact Or.inl ⟨⟨hn, by omega, by omega⟩, by omega, rfl⟩
  · exact ⟨by decide, fun _ => Or.inr ⟨fun z => hn z.1, rfl, fun _ _ _ => rfl⟩, fun z => absurd rfl z⟩
theorem op_voter [Inhabited YT] {s : Sto} (h : Inv s) {w p : Int} (hw : rg w) (hp : rg p) : OpI MX11_voter MX12_voter [.inl w, .inl p] s := by
  obtain ⟨a1, a2, a3, a4, a5, a6, a7, a8, a9, a10, a11, a12, a13, a14, a15⟩ := h.2.1
  obtain ⟨b3, b10, b14⟩ := landB h
  have hT := h.1
  have hB := h.2.2.2.2.1
  have hK : 2 ≤ s 3 0 ∧ s 3 0 ≤ 8 := a1.2
  have h9 : s 3 0 = s 75 9 := a1.1
  have hV : 0 ≤ s 3 11 ∧ s 3 11 ≤ 12 := a13.2
  have h18 : s 3 11 = s 75 18 := a13.1
  refine ⟨1, 2, _, by decide, by decide, t_X11_voter hT.2 hK hw hp hV, ?_⟩
  rintro r1 s1 (⟨q, rfl, o, ho, rfl⟩ | ⟨q, rfl, rfl⟩)
  · generalize hu : up (up (up (up (up s 1 1 0) 14 (s 3 11) o) 15 (s 3 11) w) 16 (s 3 11) p) 3 11 (s 3 11 + 1) = u
    have er : ∀ x : Nat, x ≠ 1 → x ≠ 14 → x ≠ 15 → x ≠ 16 → x ≠ 3 → u x = s x := fun x g1 g14 g15 g16 g3 => by rw [← hu, up_row g3, up_row g16, up_row g15, up_row g14, up_row g1]
    have e75 := er 75 (by decide) (by decide) (by decide) (by decide) (by decide)
    have e91 := er 91 (by decide) (by decide) (by decide) (by decide) (by decide)
    refine ⟨⟨by omega, by omega⟩, (t_X12_voter (by rw [e75, e91, ← hT.1]; exact hT.2) (by rw [e75]; omega) (by rw [e75]; exact hB) hw hp (by rw [e75]; omega)).mono ?_⟩
    rw [e75, e91]
    rintro r2 s2 (⟨q2, rfl, rfl⟩ | ⟨q2, rfl, hag⟩)
    · have v22 : up u 75 0 0 75 22 = 0 ∨ up u 75 0 0 75 22 = 1 := by rw [up_idx (by decide), e75]; exact hB
      have v24 : up u 75 0 0 75 24 = s 75 24 := by rw [up_idx (by decide), e75]
      have v91 : up u 75 0 0 91 = s 91 := by rw [up_row (by decide), e91]
      have hn : s 75 24 = s 3 0 := by rw [← hT.1]; exact q.1.1
      have wx : ∀ x : Nat, x ≠ 75 → x ≠ 81 → x ≠ 89 → x ≠ 90 → up (up (up (ordTo (up u 75 0 0) (7 + s 75 18)) 89 (s 75 18) w) 90 (s 75 18) p) 75 18 (s 75 18 + 1) x = u x := fun x g75 g81 g89 g90 => by rw [up_row g75, up_row g90, up_row g89, ordTo_row g75 g81, up_row g75]
      have w75 : ∀ i_1 : Int, i_1 ≠ 22 → i_1 ≠ 24 → i_1 ≠ 0 → i_1 ≠ 18 → up (up (up (ordTo (up u 75 0 0) (7 + s 75 18)) 89 (s 75 18) w) 90 (s 75 18) p) 75 18 (s 75 18 + 1) 75 i_1 = s 75 i_1 := fun i_1 g1 g2 g3 g18 => by rw [up_idx g18, up_row (by decide), up_row (by decide), ordTo_75 g1 g2, up_idx g3, e75]
      have w22 : up (up (up (ordTo (up u 75 0 0) (7 + s 75 18)) 89 (s 75 18) w) 90 (s 75 18) p) 75 18 (s 75 18 + 1) 75 22 = 1 := by rw [up_idx (by decide), up_row (by decide), up_row (by decide), ordTo_22 v22]
      have w24 : up (up (up (ordTo (up u 75 0 0) (7 + s 75 18)) 89 (s 75 18) w) 90 (s 75 18) p) 75 18 (s 75 18 + 1) 75 24 = 0 := by rw [up_idx (by decide), up_row (by decide), up_row (by decide), ordTo_24]
      have w81 : ∀ j : Int, j < 152 → ¬ (8 * (7 + s 75 18) ≤ j ∧ j < 8 * (7 + s 75 18) + 8) → up (up (up (ordTo (up u 75 0 0) (7 + s 75 18)) 89 (s 75 18) w) 90 (s 75 18) p) 75 18 (s 75 18 + 1) 81 j = begS s 81 j := fun j g1 g2 => by rw [up_row (by decide), up_row (by decide), up_row (by decide), ordTo_81 g1 g2, begS_81 (s := s) (by rw [up_idx (by decide), e75]) (by rw [up_row (by decide), er 81 (by decide) (by decide) (by decide) (by decide) (by decide)])]
      have w81q : ∀ j : Int, 0 ≤ j → j < s 3 0 → up (up (up (ordTo (up u 75 0 0) (7 + s 75 18)) 89 (s 75 18) w) 90 (s 75 18) p) 75 18 (s 75 18 + 1) 81 (8 * (7 + s 75 18) + j) = s 91 j - 97 := fun j g1 g2 => by rw [up_row (by decide), up_row (by decide), up_row (by decide), ordTo_81q (by omega) (by rw [v24]; omega), v91]
      have w18 : up (up (up (ordTo (up u 75 0 0) (7 + s 75 18)) 89 (s 75 18) w) 90 (s 75 18) p) 75 18 (s 75 18 + 1) 75 18 = s 75 18 + 1 := up_at _ _ _ _
      have w89 : ∀ j : Int, up (up (up (ordTo (up u 75 0 0) (7 + s 75 18)) 89 (s 75 18) w) 90 (s 75 18) p) 75 18 (s 75 18 + 1) 89 j = if j = s 75 18 then w else s 89 j := fun j => by rw [up_row (by decide), up_row (by decide), up_if, ordTo_row (by decide) (by decide), up_row (by decide), er 89 (by decide) (by decide) (by decide) (by decide) (by decide)]
      have w90 : ∀ j : Int, up (up (up (ordTo (up u 75 0 0) (7 + s 75 18)) 89 (s 75 18) w) 90 (s 75 18) p) 75 18 (s 75 18 + 1) 90 j = if j = s 75 18 then p else s 90 j := fun j => by rw [up_row (by decide), up_if, up_row (by decide), ordTo_row (by decide) (by decide), up_row (by decide), er 90 (by decide) (by decide) (by decide) (by decide) (by decide)]
      generalize up (up (up (ordTo (up u 75 0 0) (7 + s 75 18)) 89 (s 75 18) w) 90 (s 75 18) p) 75 18 (s 75 18 + 1) = z at wx w75 w22 w24 w81 w81q w18 w89 w90 ⊢
      refine ⟨h18.symm, h.empB'.land ?_ (Or.inr w22) (fun x i_1 g1 g2 g3 => ?_)⟩
      · have u14 : ∀ j : Int, z 14 j = if j = s 3 11 then o else s 14 j := fun j => by rw [wx 14 (by decide) (by decide) (by decide) (by decide), ← hu, up_row (by decide), up_row (by decide), up_row (by decide), up_if, up_row (by decide)]
        have u15 : ∀ j : Int, z 15 j = if j = s 3 11 then w else s 15 j := fun j => by rw [wx 15 (by decide) (by decide) (by decide) (by decide), ← hu, up_row (by decide), up_row (by decide), up_if, up_row (by decide), up_row (by decide)]
        have u16 : ∀ j : Int, z 16 j = if j = s 3 11 then p else s 16 j := fun j => by rw [wx 16 (by decide) (by decide) (by decide) (by decide), ← hu, up_row (by decide), up_if, up_row (by decide), up_row (by decide), up_row (by decide)]
        have u311 : z 3 11 = s 3 11 + 1 := by rw [wx 3 (by decide) (by decide) (by decide) (by decide), ← hu, up_at]
        have u3 : ∀ j : Int, j ≠ 11 → z 3 j = s 3 j := fun j g => by rw [wx 3 (by decide) (by decide) (by decide) (by decide), ← hu, up_idx g, up_row (by decide), up_row (by decide), up_row (by decide), up_row (by decide)]
        have ks : ∀ x : Nat, (4 ≤ x ∧ x ≤ 20) → x ≠ 14 → x ≠ 15 → x ≠ 16 → z x = s x := fun x g g2 g3 g4 => by rw [wx x (by omega) (by omega) (by omega) (by omega), er x (by omega) g2 g3 g4 (by omega)]
        have km : ∀ x : Nat, (76 ≤ x ∧ x ≤ 97) → x ≠ 81 → x ≠ 89 → x ≠ 90 → z x = s x := fun x g g2 g3 g4 => by rw [wx x (by omega) g2 g3 g4, er x (by omega) (by omega) (by omega) (by omega) (by omega)]
        unfold LandR
        rw [u3 0 (by decide), u3 1 (by decide), u3 2 (by decide), u3 3 (by decide), u3 9 (by decide), u311, ks (3 + 1) (by omega) (by omega) (by omega) (by omega), ks (3 + 2) (by omega) (by omega) (by omega) (by omega), ks (3 + 3) (by omega) (by omega) (by omega) (by omega), ks (3 + 4) (by omega) (by omega) (by omega) (by omega), ks (3 + 5) (by omega) (by omega) (by omega) (by omega), ks (3 + 6) (by omega) (by omega) (by omega) (by omega), ks (3 + 7) (by omega) (by omega) (by omega) (by omega), ks (3 + 8) (by omega) (by omega) (by omega) (by omega), ks (3 + 9) (by omega) (by omega) (by omega) (by omega), ks (3 + 10) (by omega) (by omega) (by omega) (by omega), ks (3 + 14) (by omega) (by omega) (by omega) (by omega), ks (3 + 15) (by omega) (by omega) (by omega) (by omega), ks (3 + 16) (by omega) (by omega) (by omega) (by omega), ks (3 + 17) (by omega) (by omega) (by omega) (by omega)]
        rw [km 76 (by omega) (by omega) (by omega) (by omega), km 77 (by omega) (by omega) (by omega) (by omega), km 78 (by omega) (by omega) (by omega) (by omega), km 79 (by omega) (by omega) (by omega) (by omega), km 80 (by omega) (by omega) (by omega) (by omega), km 82 (by omega) (by omega) (by omega) (by omega), km 83 (by omega) (by omega) (by omega) (by omega), km 84 (by omega) (by omega) (by omega) (by omega), km 85 (by omega) (by omega) (by omega) (by omega), km 86 (by omega) (by omega) (by omega) (by omega), km 87 (by omega) (by omega) (by omega) (by omega), km 88 (by omega) (by omega) (by omega) (by omega), km 93 (by omega) (by omega) (by omega) (by omega), km 94 (by omega) (by omega) (by omega) (by omega), km 95 (by omega) (by omega) (by omega) (by omega), km 96 (by omega) (by omega) (by omega) (by omega), km 97 (by omega) (by omega) (by omega) (by omega)]
        rw [w75 1 (by decide) (by decide) (by decide) (by decide), w75 4 (by decide) (by decide) (by decide) (by decide), w75 8 (by decide) (by decide) (by decide) (by decide), w75 9 (by decide) (by decide) (by decide) (by decide), w18, w75 21 (by decide) (by decide) (by decide) (by decide), w22, w75 30 (by decide) (by decide) (by decide) (by decide)]
        refine ⟨a1, a2, ?_, a4, a5, a6, a7, a8, a9, ?_, a11, a12, ⟨by omega, by omega, by omega⟩, ?_, a15⟩
        · refine b3.congr (fun j j1 j2 => ?_)
          unfold alM
          rw [if_neg (by decide), w81 j (by omega) (by omega)]
        · intro j g1 g2
          obtain ⟨k1, k2⟩ := b10 j g1 g2
          refine ⟨k1, ?_⟩
          rcases k2 with k | ⟨k, k3⟩
          · exact Or.inl k
          · exact Or.inr ⟨k, k3.congr (fun x x1 x2 => w81 _ (by omega) (by omega))⟩
        · intro v g1 g2
          show OdR (s 3 0) (z 14 v) _ ∧ (z 15 v = z 89 v ∧ 1 ≤ z 15 v ∧ z 15 v ≤ 9) ∧ (z 16 v = z 90 v ∧ 0 ≤ z 16 v ∧ z 16 v ≤ 999)
          rw [u14, u15, u16, w89, w90, ← h18]
          by_cases g : v = s 3 11
          · rw [if_pos g, if_pos g, if_pos g, if_pos g, if_pos g]
            refine ⟨ho.congr (fun k k1 k2 => ?_), ⟨rfl, by omega⟩, ⟨rfl, by omega⟩⟩
            show z 81 (8 * (7 + v) + k) = _
            rw [g, h18, w81q k k1 k2, ← (hT.2.2.2 k k1 (by have := q.1.1; omega)).1]
          · rw [if_neg g, if_neg g, if_neg g, if_neg g, if_neg g]
            obtain ⟨k1, k2⟩ := b14 v g1 (by omega)
            exact ⟨k1.congr (fun x x1 x2 => w81 _ (by omega) (by omega)), k2⟩
      · unfold empB emptd
        by_cases g75 : x = 75
        · subst g75
          by_cases g24 : i_1 = 24
          · subst g24; rw [w24, up_at]
          · have g22 : i_1 ≠ 22 := fun e => g3 (by unfold perM; omega)
            rw [w75 i_1 g22 g24 (by unfold pers perM at *; omega) (by unfold pers perM at *; omega), up_idx g24, up_row (by decide), begS_75 g22]
        · have g81 : x ≠ 81 := fun e => by unfold pers perM at *; omega
          have hc : x ≠ 14 ∧ x ≠ 15 ∧ x ≠ 16 ∧ x ≠ 3 := by omega
          rw [wx x g75 g81 (by unfold pers perM at *; omega) (by unfold pers perM at *; omega), up_row g75, ← hu, up_row hc.2.2.2, up_row hc.2.2.1, up_row hc.2.1, up_row hc.1]
          by_cases g1 : x = 1
          · subst g1
            by_cases g : i_1 = 1
            · rw [g, up_at, up_at]
            · rw [up_idx g, up_idx g, begS_row (by decide) (by decide)]
          · rw [up_row g1, up_row g1, begS_row g75 g81]
    · exact absurd ⟨by rw [← hT.1, ← h9]; exact (isOd_eq hT.2).mp q.1, q.2.1, by omega⟩ q2
  · have e75 : up s 1 1 0 75 = s 75 := up_row (by decide)
    have e91 : up s 1 1 0 91 = s 91 := up_row (by decide)
    refine ⟨by decide, (t_X12_voter (by rw [e75, e91, ← hT.1]; exact hT.2) (by rw [e75]; omega) (by rw [e75]; exact hB) hw hp (by rw [e75]; omega)).mono ?_⟩
    rw [e75, e91]
    rintro r2 s2 (⟨q2, rfl, rfl⟩ | ⟨q2, rfl, hag⟩)
    · exact absurd ⟨(isOd_eq hT.2).mpr (by rw [h9, hT.1]; exact q2.1), q2.2.1, by omega⟩ q
    · exact ⟨rfl, h.empB'.agr (agr_empB (u := up s 1 1 0) hag (fun c g => up_row g) rfl)⟩
