/-! OPERATIONS: alphabet, chance, voter -/
def ordU (s : Sto) : Sto := fillR (up (begS s) 75 24 0) 81 152 (s 75 24) (fun k => s 91 k - 97)
def ordTo (s : Sto) (q : Int) : Sto := fillR (ordU s) 81 (8 * q) 8 (fun i => ordU s 81 (8 * 19 + i))
theorem begS_22 {s : Sto} (h : s 75 22 = 0 ∨ s 75 22 = 1) : begS s 75 22 = 1 := by
  unfold begS
  by_cases q : s 75 22 = 0
  · rw [if_pos q, fillR_row (by decide), up_at]
  · rw [if_neg q]; omega
theorem begS_81 {s t : Sto} (h1 : t 75 22 = s 75 22) (h2 : t 81 = s 81) : begS t 81 = begS s 81 := by
  unfold begS
  rw [h1]
  by_cases q : s 75 22 = 0
  · rw [if_pos q, if_pos q]
    funext i
    by_cases g : 0 ≤ i ∧ i < 0 + 8
    · rw [fillR_in g, fillR_in g]
    · rw [fillR_out g, fillR_out g, up_row (by decide), up_row (by decide), h2]
  · rw [if_neg q, if_neg q, h2]
theorem ordU_row {s : Sto} {c : Nat} (h1 : c ≠ 75) (h2 : c ≠ 81) : ordU s c = s c := by unfold ordU; rw [fillR_row h2, up_row h1, begS_row h1 h2]
theorem ordU_75 {s : Sto} {i : Int} (h1 : i ≠ 22) (h2 : i ≠ 24) : ordU s 75 i = s 75 i := by unfold ordU; rw [fillR_row (by decide), up_idx h2, begS_75 h1]
theorem ordU_24 {s : Sto} : ordU s 75 24 = 0 := by unfold ordU; rw [fillR_row (by decide), up_at]
theorem ordU_22 {s : Sto} (h : s 75 22 = 0 ∨ s 75 22 = 1) : ordU s 75 22 = 1 := by unfold ordU; rw [fillR_row (by decide), up_idx (by decide), begS_22 h]
theorem ordU_81 {s : Sto} {i : Int} (h : i < 152) : ordU s 81 i = begS s 81 i := by unfold ordU; rw [fillR_out (by omega), up_row (by decide)]
theorem ordTo_row {s : Sto} {q : Int} {c : Nat} (h1 : c ≠ 75) (h2 : c ≠ 81) : ordTo s q c = s c := by unfold ordTo; rw [fillR_row h2, ordU_row h1 h2]
theorem ordTo_75 {s : Sto} {q i : Int} (h1 : i ≠ 22) (h2 : i ≠ 24) : ordTo s q 75 i = s 75 i := by unfold ordTo; rw [fillR_row (by decide), ordU_75 h1 h2]
theorem ordTo_24 {s : Sto} {q : Int} : ordTo s q 75 24 = 0 := by unfold ordTo; rw [fillR_row (by decide), ordU_24]
theorem ordTo_22 {s : Sto} {q : Int} (h : s 75 22 = 0 ∨ s 75 22 = 1) : ordTo s q 75 22 = 1 := by unfold ordTo; rw [fillR_row (by decide), ordU_22 h]
theorem ordTo_81 {s : Sto} {q i : Int} (h : i < 152) (h2 : ¬ (8 * q ≤ i ∧ i < 8 * q + 8)) : ordTo s q 81 i = begS s 81 i := by unfold ordTo; rw [fillR_out h2, ordU_81 h]
theorem ordTo_81q {s : Sto} {q i : Int} (hi : 0 ≤ i ∧ i < 8) (hn : i < s 75 24) : ordTo s q 81 (8 * q + i) = s 91 i - 97 := by
  unfold ordTo
  rw [fillR_in (by omega)]
  unfold ordU
  rw [fillR_in (by omega)]
  rw [show 8 * 19 + (8 * q + i - 8 * q) - 152 = i by omega]
/-- both sides' TAPE empty, the reference begun -/
def empB (s : Sto) : Sto := emptd (begS s)
theorem Inv.empB' [Inhabited YT] {s : Sto} (h : Inv s) : Inv (empB s) := h.beg.emp
theorem isOd_eq {K n : Int} {b t : Int → Int} (h : TapeR n b t) : isOd K n b ↔ isOd K n t := by
  have hs : ∀ i : Nat, (i : Int) ≤ n → seenF b i = seenF t i := by
    intro i
    induction i with
    | zero => intro _; rfl
    | succ i ih =>
      intro hi
      show xor_ (seenF b i) (xshl 1 (b i - 97)) = xor_ (seenF t i) (xshl 1 (t i - 97))
      rw [ih (by omega), (h.2.2 i (by omega) (by omega)).1]
  unfold isOd
  refine ⟨fun q => ⟨q.1, fun i hi => ?_⟩, fun q => ⟨q.1, fun i hi => ?_⟩⟩
  · rw [← hs i (by omega), ← (h.2.2 i (by omega) hi).1]; exact q.2 i hi
  · rw [hs i (by omega), (h.2.2 i (by omega) hi).1]; exact q.2 i hi
/-- ORDERS of Land, as the reference has them once it is begun -/
theorem landB [Inhabited YT] {s : Sto} (h : Inv s) : OdR (s 3 0) (s 3 2) (begS s 81) ∧ ChanceR (s 3 0) (s 11) (s 12) (s 87) (s 88) (begS s 81) ∧ VoterR (s 3 0) (s 3 11) (s 14) (s 15) (s 16) (s 89) (s 90) (begS s 81) := by
  have hb := h.beg.2.1
  unfold LandR at hb
  rw [begS_row (c := 3) (by decide) (by decide), begS_row (c := 3 + 8) (by decide) (by decide), begS_row (c := 3 + 9) (by decide) (by decide), begS_row (c := 3 + 11) (by decide) (by decide), begS_row (c := 3 + 12) (by decide) (by decide), begS_row (c := 3 + 13) (by decide) (by decide), begS_row (c := 87) (by decide) (by decide), begS_row (c := 88) (by decide) (by decide), begS_row (c := 89) (by decide) (by decide), begS_row (c := 90) (by decide) (by decide), begS_22 h.2.2.2.2.1] at hb
  refine ⟨hb.2.2.1.congr (fun k _ _ => ?_), hb.2.2.2.2.2.2.2.2.2.1, hb.2.2.2.2.2.2.2.2.2.2.2.2.2.1⟩
  unfold alM
  rw [if_neg (by decide)]
set_option maxHeartbeats 2000000 in
theorem t_X11_alphabet {s : Sto} {t : Int → Int} (hT : TapeR (s 1 1) (s 2) t) (hK : 2 ≤ s 3 0 ∧ s 3 0 ≤ 8) : ClI LY 1 MX11_alphabet [.inr 0] s (fun r s' => (isOd (s 3 0) (s 1 1) (s 2) ∧ r = 1 ∧ ∃ o, OdR (s 3 0) o (fun i => s 2 i - 97) ∧ s' = up (up s 1 1 0) 3 2 o) ∨ (¬ isOd (s 3 0) (s 1 1) (s 2) ∧ r = 0 ∧ s' = up s 1 1 0)) := by
  refine ClI.introZ (by decide) rfl (Nat.le_of_ble_eq_true rfl) (fun X C r => ?_)
  refine kb_X11_alphabet_0 C r ?_
  refine ⟨0, _, by decide, t_X9_orderOnce hT hK, ?_⟩
  rintro r1 s1 ⟨rfl, hr, hn⟩
  refine ⟨hr, fun q => ?_, fun q => ?_⟩
  · rcases hn with ⟨h1, h2⟩ | ⟨h1, h2⟩
    · rintro s2 rfl
      exact Or.inl ⟨h1, rfl, r1, h2, rfl⟩
    · exact absurd h2 q
  · rcases hn with ⟨h1, h2⟩ | ⟨h1, h2⟩
    · exact absurd h2.bd.1 (by omega)
    · exact Or.inr ⟨h1, rfl, rfl⟩
theorem agr_ou {s : Sto} : agr (ordU s) (up (begS s) 75 24 0) := by
  intro c i hp
  unfold ordU
  by_cases q : c = 81
  · subst q
    rw [fillR_out (by unfold pers perM at hp; omega)]
  · rw [fillR_row q]
set_option maxHeartbeats 2000000 in
theorem t_X12_alphabet {s : Sto} {t : Int → Int} (hT : TapeR (s 75 24) t (s 91)) (hK : 2 ≤ s 75 9 ∧ s 75 9 ≤ 8) (hb : s 75 22 = 0 ∨ s 75 22 = 1) : ClI LY 2 MX12_alphabet [.inr 75] s (fun r s' => (isOd (s 75 9) (s 75 24) (s 91) ∧ r = 1 ∧ s' = ordTo (up s 75 0 0) 0) ∨ (¬ isOd (s 75 9) (s 75 24) (s 91) ∧ r = 0 ∧ s' = up (begS (up s 75 0 0)) 75 24 0)) := by
  refine ClI.introZ (by decide) rfl (Nat.le_of_ble_eq_true rfl) (fun X C r => ?_)
  refine kb_X12_alphabet_0 C r ?_
  rintro s0 rfl
  have e24 : up s 75 0 0 75 24 = s 75 24 := up_idx (by decide)
  have e9 : up s 75 0 0 75 9 = s 75 9 := up_idx (by decide)
  have e22 : up s 75 0 0 75 22 = s 75 22 := up_idx (by decide)
  have e91 : up s 75 0 0 91 = s 91 := up_row (by decide)
  generalize up s 75 0 0 = u at e24 e9 e22 e91 ⊢
  rw [← e24, ← e91] at hT
  rw [← e9] at hK
  rw [← e22] at hb
  rw [← e24, ← e9, ← e91]
  refine ⟨1, _, by decide, t_X12_takesOrder hT hK hb, ?_⟩
  rintro r1 s1 (⟨rfl, hn, rfl⟩ | ⟨rfl, hn, rfl⟩)
  · refine ⟨by decide, fun _ => ?_, fun z => absurd z (by decide)⟩
    refine ⟨0, _, by decide, t_X12_movesOrder (by decide) (by decide) (by decide), ?_⟩
    rintro s5 rfl
    exact Or.inl ⟨hn, rfl, rfl⟩
  · exact ⟨by decide, fun z => absurd rfl z, fun _ => Or.inr ⟨hn, rfl, rfl⟩⟩
theorem agr_empB {s u s' : Sto} (hs : agr s' (up (begS (up u 75 0 0)) 75 24 0)) (hu : ∀ c : Nat, c ≠ 1 → u c = s c) (hu1 : u 1 = up s 1 1 0 1) : agr s' (empB s) := by
  intro x i hp
  rw [hs x i hp]
  unfold empB emptd
  have hb : ∀ c : Nat, c ≠ 75 → c ≠ 81 → begS (up u 75 0 0) c = u c := fun c g1 g2 => by rw [begS_row g1 g2, up_row g1]
  by_cases g24 : x = 75 ∧ i = 24
  · rw [g24.1, g24.2, up_at, up_at]
  · rw [up_ne g24, up_ne g24]
    by_cases g1 : x = 1
    · subst g1
      rw [hb 1 (by decide) (by decide), hu1]
      by_cases g : i = 1
      · rw [g, up_at, up_at]
      · rw [up_idx g, up_idx g, begS_row (by decide) (by decide)]
    · rw [up_row g1]
      by_cases g75 : x = 75
      · subst g75
        by_cases g : i = 22
        · subst g
          unfold begS
          rw [up_idx (by decide), hu 75 (by decide)]
          by_cases g5 : s 75 22 = 0
          · rw [if_pos g5, if_pos g5, fillR_row (by decide), fillR_row (by decide), up_at, up_at]
          · rw [if_neg g5, if_neg g5, up_idx (by decide), hu 75 (by decide)]
        · rw [begS_75 g, begS_75 g, up_idx (by unfold pers perM at hp; omega), hu 75 (by decide)]
      · by_cases g81 : x = 81
        · subst g81
          rw [begS_81 (s := s) (t := up u 75 0 0) (by rw [up_idx (by decide), hu 75 (by decide)]) (by rw [up_row (by decide), hu 81 (by decide)])]
        · rw [hb x g75 g81, begS_row g75 g81, hu x g1]
theorem op_alphabet [Inhabited YT] {s : Sto} (h : Inv s) : OpI MX11_alphabet MX12_alphabet [] s := by
  obtain ⟨a1, a2, a3, a4, a5, a6, a7, a8, a9, a10, a11, a12, a13, a14, a15⟩ := h.2.1
  obtain ⟨b3, b10, b14⟩ := landB h
  have hT := h.1
  have hB := h.2.2.2.2.1
  have hK : 2 ≤ s 3 0 ∧ s 3 0 ≤ 8 := a1.2
  have h9 : s 3 0 = s 75 9 := a1.1
  refine ⟨1, 2, _, by decide, by decide, t_X11_alphabet hT.2 hK, ?_⟩
  rintro r1 s1 (⟨q, rfl, o, ho, rfl⟩ | ⟨q, rfl, rfl⟩)
  · generalize hu : up (up s 1 1 0) 3 2 o = u
    have er : ∀ x : Nat, x ≠ 1 → x ≠ 3 → u x = s x := fun x g1 g2 => by rw [← hu, up_row g2, up_row g1]
    have e75 := er 75 (by decide) (by decide)
    have e91 := er 91 (by decide) (by decide)
    refine ⟨by decide, (t_X12_alphabet (by rw [e75, e91, ← hT.1]; exact hT.2) (by rw [e75]; omega) (by rw [e75]; exact hB)).mono ?_⟩
    rw [e75, e91]
    rintro r2 s2 (⟨q2, rfl, rfl⟩ | ⟨q2, rfl, hag⟩)
    · have v22 : up u 75 0 0 75 22 = 0 ∨ up u 75 0 0 75 22 = 1 := by rw [up_idx (by decide), e75]; exact hB
      have v24 : up u 75 0 0 75 24 = s 75 24 := by rw [up_idx (by decide), e75]
      have v91 : up u 75 0 0 91 = s 91 := by rw [up_row (by decide), e91]
      have hn : s 75 24 = s 3 0 := by rw [← hT.1]; exact q.1
      have w : ∀ x : Nat, x ≠ 75 → x ≠ 81 → ordTo (up u 75 0 0) 0 x = u x := fun x g1 g2 => by rw [ordTo_row g1 g2, up_row g1]
      have w75 : ∀ i : Int, i ≠ 22 → i ≠ 24 → i ≠ 0 → ordTo (up u 75 0 0) 0 75 i = s 75 i := fun i g1 g2 g3 => by rw [ordTo_75 g1 g2, up_idx g3, e75]
      have w22 : ordTo (up u 75 0 0) 0 75 22 = 1 := ordTo_22 v22
      have w24 : ordTo (up u 75 0 0) 0 75 24 = 0 := ordTo_24
      have w81 : ∀ i : Int, i < 152 → ¬ (8 * 0 ≤ i ∧ i < 8 * 0 + 8) → ordTo (up u 75 0 0) 0 81 i = begS s 81 i := fun i g1 g2 => by rw [ordTo_81 g1 g2, begS_81 (s := s) (by rw [up_idx (by decide), e75]) (by rw [up_row (by decide), er 81 (by decide) (by decide)])]
      have w81q : ∀ i : Int, 0 ≤ i → i < s 3 0 → ordTo (up u 75 0 0) 0 81 i = s 91 i - 97 := fun i g1 g2 => by
        have := ordTo_81q (s := up u 75 0 0) (q := 0) (i := i) (by omega) (by rw [v24]; omega)
        rw [v91, show 8 * 0 + i = i by omega] at this
        exact this
      generalize ordTo (up u 75 0 0) 0 = z at w w75 w22 w24 w81 w81q ⊢
      refine ⟨rfl, h.empB'.land ?_ (Or.inr w22) (fun x i g1 g2 g3 => ?_)⟩
      · have u32 : z 3 2 = o := by rw [w 3 (by decide) (by decide), ← hu, up_at]
        have u3 : ∀ i : Int, i ≠ 2 → z 3 i = s 3 i := fun i g => by rw [w 3 (by decide) (by decide), ← hu, up_idx g, up_row (by decide)]
        have ks : ∀ x : Nat, (4 ≤ x ∧ x ≤ 20) → z x = s x := fun x g => by rw [w x (by omega) (by omega), er x (by omega) (by omega)]
        have km : ∀ x : Nat, (76 ≤ x ∧ x ≤ 97) → x ≠ 81 → z x = s x := fun x g g2 => by rw [w x (by omega) g2, er x (by omega) (by omega)]
        unfold LandR
        rw [u3 0 (by decide), u3 1 (by decide), u32, u3 3 (by decide), u3 9 (by decide), u3 11 (by decide), ks (3 + 1) (by omega), ks (3 + 2) (by omega), ks (3 + 3) (by omega), ks (3 + 4) (by omega), ks (3 + 5) (by omega), ks (3 + 6) (by omega), ks (3 + 7) (by omega), ks (3 + 8) (by omega), ks (3 + 9) (by omega), ks (3 + 10) (by omega), ks (3 + 11) (by omega), ks (3 + 12) (by omega), ks (3 + 13) (by omega), ks (3 + 14) (by omega), ks (3 + 15) (by omega), ks (3 + 16) (by omega), ks (3 + 17) (by omega)]
        rw [km 76 (by omega) (by omega), km 77 (by omega) (by omega), km 78 (by omega) (by omega), km 79 (by omega) (by omega), km 80 (by omega) (by omega), km 82 (by omega) (by omega), km 83 (by omega) (by omega), km 84 (by omega) (by omega), km 85 (by omega) (by omega), km 86 (by omega) (by omega), km 87 (by omega) (by omega), km 88 (by omega) (by omega), km 89 (by omega) (by omega), km 90 (by omega) (by omega), km 93 (by omega) (by omega), km 94 (by omega) (by omega), km 95 (by omega) (by omega), km 96 (by omega) (by omega), km 97 (by omega) (by omega)]
        rw [w75 1 (by decide) (by decide) (by decide), w75 4 (by decide) (by decide) (by decide), w75 8 (by decide) (by decide) (by decide), w75 9 (by decide) (by decide) (by decide), w75 18 (by decide) (by decide) (by decide), w75 21 (by decide) (by decide) (by decide), w22, w75 30 (by decide) (by decide) (by decide)]
        refine ⟨a1, a2, ?_, a4, a5, a6, a7, a8, a9, ?_, a11, a12, a13, ?_, a15⟩
        · refine ho.congr (fun i i1 i2 => ?_)
          unfold alM
          rw [if_neg (by decide), w81q i i1 i2, ← (hT.2.2.2 i i1 (by have := q.1; omega)).1]
        · intro j g1 g2
          obtain ⟨k1, k2⟩ := b10 j g1 g2
          refine ⟨k1, ?_⟩
          rcases k2 with k | ⟨k, k3⟩
          · exact Or.inl k
          · exact Or.inr ⟨k, k3.congr (fun i i1 i2 => w81 _ (by omega) (by omega))⟩
        · intro v g1 g2
          obtain ⟨k1, k2⟩ := b14 v g1 g2
          have : s 3 11 ≤ 12 := a13.2.2
          exact ⟨k1.congr (fun i i1 i2 => w81 _ (by omega) (by omega)), k2⟩
      · unfold empB emptd
        by_cases g75 : x = 75
        · subst g75
          by_cases g24 : i = 24
          · subst g24; rw [w24, up_at]
          · have g22 : i ≠ 22 := fun e => g3 (by unfold perM; omega)
            rw [w75 i g22 g24 (by unfold pers perM at *; omega), up_idx g24, up_row (by decide), begS_75 g22]
        · have g81 : x ≠ 81 := fun e => by unfold pers perM at *; omega
          rw [w x g75 g81, up_row g75, ← hu, up_row (by omega)]
          by_cases g1 : x = 1
          · subst g1
            by_cases g : i = 1
            · rw [g, up_at, up_at]
            · rw [up_idx g, up_idx g, begS_row (by decide) (by decide)]
          · rw [up_row g1, up_row g1, begS_row g75 g81]
    · exact absurd (by rw [← hT.1, ← h9]; exact (isOd_eq hT.2).mp q) q2
  · have e75 : up s 1 1 0 75 = s 75 := up_row (by decide)
    have e91 : up s 1 1 0 91 = s 91 := up_row (by decide)
    refine ⟨by decide, (t_X12_alphabet (by rw [e75, e91, ← hT.1]; exact hT.2) (by rw [e75]; omega) (by rw [e75]; exact hB)).mono ?_⟩
    rw [e75, e91]
    rintro r2 s2 (⟨q2, rfl, rfl⟩ | ⟨q2, rfl, rfl⟩)
    · exact absurd ((isOd_eq hT.2).mpr (by rw [h9, hT.1]; exact q2)) q
    · exact ⟨rfl, h.empB'.agr (agr_empB (u := up s 1 1 0) (fun _ _ _ => rfl) (fun c g => up_row g) rfl)⟩
