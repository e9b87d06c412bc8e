/-! OPERATIONS: named, sell, alphabet, chance, voter -/
theorem NamesR.put {k k' j o q : Int} {a a' n n' f f' : Int → Int} (h : NamesR k a n f o) (hq : q = o + j) (hk : k' = k ∨ (k' = k + 1 ∧ j = k)) (ho : 0 ≤ o) (hb : o + k' ≤ 30) (e1 : ∀ i : Int, 0 ≤ i → i < 30 → i ≠ q → n' i = n i) (e2 : ∀ i : Int, 0 ≤ i → i < 180 → ¬ (6 * q ≤ i ∧ i < 6 * q + 6) → f' i = f i) (ea : ∀ i : Int, i ≠ j → a' i = a i) (hp : NmR (a' j) (n' q) (fun i => f' (6 * q + i))) : NamesR k' a' n' f' o := by
  subst hq
  intro x g1 g2
  by_cases g : x = j
  · rw [g]; exact hp
  · rw [ea x g]
    have g3 := h x g1 (by omega)
    refine g3.congr (e1 _ (by omega) (by omega) (by omega)) (fun i i1 i2 => e2 _ ?_ ?_ ?_)
    · omega
    · have := g3.1; omega
    · have := g3.1; omega
theorem NamesR.out {k o q : Int} {a n n' f f' : Int → Int} (h : NamesR k a n f o) (hq : q < o ∨ o + k ≤ q) (ho : 0 ≤ o) (hb : o + k ≤ 30) (e1 : ∀ i : Int, 0 ≤ i → i < 30 → i ≠ q → n' i = n i) (e2 : ∀ i : Int, 0 ≤ i → i < 180 → ¬ (6 * q ≤ i ∧ i < 6 * q + 6) → f' i = f i) : NamesR k a n' f' o := by
  intro x g1 g2
  have g3 := h x g1 g2
  refine g3.congr (e1 _ (by omega) (by omega) (by omega)) (fun i i1 i2 => e2 _ ?_ ?_ ?_)
  · omega
  · have := g3.1; omega
  · have := g3.1; omega
set_option maxHeartbeats 2000000 in
theorem t_X11_named {a : Int} {s : Sto} {t : Int → Int} (hT : TapeR (s 1 1) (s 2) t) (ha : rg a) (h : 0 ≤ s 5 0 ∧ s 5 0 ≤ 20) : ClI LY 2 MX11_named [.inr 0, .inl a] s (fun r s' => ((isNm (s 1 1) (s 2) ∧ 0 ≤ a ∧ a < s 5 0) ∧ r = 1 ∧ ∃ p, NmR p (s 1 1) (fun i => s 2 i - 97) ∧ s' = up (up s 1 1 0) 6 a p) ∨ (¬ (isNm (s 1 1) (s 2) ∧ 0 ≤ a ∧ a < s 5 0) ∧ r = 0 ∧ s' = up s 1 1 0)) := by
  refine ClI.introZ (by decide) rfl (Nat.le_of_ble_eq_true rfl) (fun X C r => ?_)
  refine kb_X11_named_0 C r ?_
  refine ⟨1, _, by decide, t_X9_nameOnce hT, ?_⟩
  rintro r1 s1 ⟨rfl, hr, hn⟩
  refine ⟨hr, fun q => ?_, fun q => ?_⟩
  · rcases hn with ⟨h1, h2⟩ | ⟨h1, h2⟩
    · exact absurd h2.bd.1 (by omega)
    · exact Or.inr ⟨fun z => h1 z.1, rfl, rfl⟩
  · rcases hn with ⟨h1, h2⟩ | ⟨h1, h2⟩
    · have e5 : up s 1 1 0 5 = s 5 := up_row (by decide)
      refine ⟨0, _, by decide, t_X6_has ha (by rw [e5]; exact ⟨by omega, by omega⟩), ?_⟩
      rw [e5]
      rintro r2 s2 ⟨rfl, g1, g2⟩
      refine ⟨by omega, fun q2 => ⟨by omega, ?_⟩, fun q2 => Or.inr ⟨fun z => by omega, rfl, rfl⟩⟩
      rintro s3 rfl
      exact Or.inl ⟨⟨h1, by omega⟩, rfl, r1, h2, rfl⟩
    · exact absurd h2 q
set_option maxHeartbeats 2000000 in
theorem t_X12_named {a : Int} {s : Sto} {t : Int → Int} (hT : TapeR (s 75 24) t (s 91)) (ha : rg a) (h : 0 ≤ s 75 4 ∧ s 75 4 ≤ 20) : ClI LY 2 MX12_named [.inr 75, .inl a] s (fun r s' => ((isNm (s 75 24) (s 91) ∧ 0 ≤ a ∧ a < s 75 4) ∧ r = 1 ∧ s' = nmTo (up s 75 0 0) a) ∨ (¬ (isNm (s 75 24) (s 91) ∧ 0 ≤ a ∧ a < s 75 4) ∧ r = 0 ∧ agr s' (up (up s 75 0 0) 75 24 0))) := by
  refine ClI.introZ (by decide) rfl (Nat.le_of_ble_eq_true rfl) (fun X C r => ?_)
  refine kb_X12_named_0 C r ?_
  rintro s0 rfl
  have e24 : up s 75 0 0 75 24 = s 75 24 := up_idx (by decide)
  have e4 : up s 75 0 0 75 4 = s 75 4 := up_idx (by decide)
  have e91 : up s 75 0 0 91 = s 91 := up_row (by decide)
  generalize up s 75 0 0 = u at e24 e4 e91 ⊢
  rw [← e24, ← e91] at hT
  rw [← e4] at h
  rw [← e24, ← e4, ← e91]
  refine ⟨1, _, by decide, t_X12_takesName hT, ?_⟩
  rintro r1 s1 (⟨rfl, hn, rfl⟩ | ⟨rfl, hn, rfl⟩)
  · refine ⟨by decide, fun z => absurd z (by decide), fun _ => ?_⟩
    have f4 := tn_75 (s := u) (i := 4) (by decide)
    have hag := agr_tn (s := u)
    refine ⟨0, _, by decide, t_X12_isOne ha (by rw [f4]; exact ⟨by omega, by omega⟩), ?_⟩
    rw [f4]
    rintro r2 s2 ⟨rfl, h1, h2⟩
    refine ⟨by omega, fun q1 => ?_, fun z => Or.inr ⟨by omega, rfl, hag⟩⟩
    refine ⟨0, _, by decide, t_X12_movesName (by decide) (by omega) (by omega), ?_⟩
    rintro s5 rfl
    rw [nmTo_of]
    exact Or.inl ⟨⟨hn, by omega⟩, rfl, rfl⟩
  · exact ⟨by decide, fun _ => Or.inr ⟨fun z => hn z.1, rfl, fun _ _ _ => rfl⟩, fun z => absurd rfl z⟩
theorem agr_emp {s s' : Sto} (h : agr s' (up (up (up s 1 1 0) 75 0 0) 75 24 0)) : agr s' (emptd s) := by
  intro x i hp
  rw [h x i hp]
  unfold emptd
  by_cases g24 : x = 75 ∧ i = 24
  · rw [g24.1, g24.2, up_at, up_at]
  · rw [up_ne g24, up_ne g24, up_ne (by unfold pers perM at hp; omega)]
theorem op_named [Inhabited YT] {s : Sto} (h : Inv s) {a : Int} (ha : rg a) : OpI MX11_named MX12_named [.inl a] s := by
  obtain ⟨a1, a2, a3, a4, a5, a6, a7, a8, a9, a10, a11, a12, a13, a14, a15⟩ := h.2.1
  have hT := h.1
  have hC : 0 ≤ s 5 0 ∧ s 5 0 ≤ 20 := a6.2
  have h4 : s 5 0 = s 75 4 := a6.1
  refine ⟨2, 2, _, by decide, by decide, t_X11_named hT.2 ha hC, ?_⟩
  rintro r1 s1 (⟨q, rfl, p, hp, rfl⟩ | ⟨q, rfl, rfl⟩)
  · generalize hu : up (up s 1 1 0) 6 a p = u
    have er : ∀ x : Nat, x ≠ 1 → x ≠ 6 → u x = s x := fun x g1 g2 => by rw [← hu, up_row g2, up_row g1]
    have e75 := er 75 (by decide) (by decide)
    have e91 := er 91 (by decide) (by decide)
    refine ⟨by decide, (t_X12_named (by rw [e75, e91, ← hT.1]; exact hT.2) ha (by rw [e75]; omega)).mono ?_⟩
    rw [e75, e91]
    rintro r2 s2 (⟨q2, rfl, rfl⟩ | ⟨q2, rfl, hag⟩)
    · refine ⟨rfl, (h.emp).land ?_ ?_ (fun x i g1 g2 g3 => ?_)⟩
      · have hnm := q.1
        have hb' : (0 ≤ s 75 24 ∧ s 75 24 ≤ 6) := by have := hT.2.1; have := hnm.1; omega
        have v24 : up u 75 0 0 75 24 = s 75 24 := by rw [up_idx (by decide), e75]
        have v91 : up u 75 0 0 91 = s 91 := by rw [up_row (by decide), e91]
        have w : ∀ x : Nat, x ≠ 75 → x ≠ 76 → x ≠ 77 → nmTo (up u 75 0 0) a x = u x := fun x g1 g2 g3 => by rw [nmTo_row g1 g2 g3, up_row g1]
        have w75 : ∀ i : Int, i ≠ 24 → i ≠ 0 → nmTo (up u 75 0 0) a 75 i = s 75 i := fun i g2 g3 => by rw [nmTo_75 g2, up_idx g3, e75]
        have w76 : ∀ i : Int, 0 ≤ i → i < 30 → i ≠ a → nmTo (up u 75 0 0) a 76 i = s 76 i := fun i g0 g1 g2 => by rw [nmTo_76o g2 (by omega), up_row (by decide), er 76 (by decide) (by decide)]
        have w76q : nmTo (up u 75 0 0) a 76 a = s 75 24 := by rw [nmTo_76, v24]
        have w77 : ∀ i : Int, 0 ≤ i → i < 180 → ¬ (6 * a ≤ i ∧ i < 6 * a + 6) → nmTo (up u 75 0 0) a 77 i = s 77 i := fun i g0 g1 g2 => by rw [nmTo_77o (by rw [v24]; exact hb') g1 g2, up_row (by decide), er 77 (by decide) (by decide)]
        have w77q : ∀ i : Int, 0 ≤ i → i < s 75 24 → nmTo (up u 75 0 0) a 77 (6 * a + i) = s 91 i - 97 := fun i g1 g2 => by rw [nmTo_77 (by omega) (by rw [v24]; exact g2), v91]
        generalize nmTo (up u 75 0 0) a = z at w w75 w76 w76q w77 w77q ⊢
        have u6 : ∀ i : Int, z 6 i = if i = a then p else s 6 i := fun i => by rw [w 6 (by decide) (by decide) (by decide), ← hu, up_if, up_row (by decide)]
        have ks : ∀ x : Nat, (3 ≤ x ∧ x ≤ 20) → x ≠ 6 → z x = s x := fun x g g2 => by rw [w x (by omega) (by omega) (by omega), er x (by omega) g2]
        have km : ∀ x : Nat, (78 ≤ x ∧ x ≤ 97) → z x = s x := fun x g => by rw [w x (by omega) (by omega) (by omega), er x (by omega) (by omega)]
        unfold LandR
        rw [ks 3 (by omega) (by omega), ks (3 + 1) (by omega) (by omega), ks (3 + 2) (by omega) (by omega), ks (3 + 4) (by omega) (by omega), ks (3 + 5) (by omega) (by omega), ks (3 + 6) (by omega) (by omega), ks (3 + 7) (by omega) (by omega), ks (3 + 8) (by omega) (by omega), ks (3 + 9) (by omega) (by omega), ks (3 + 10) (by omega) (by omega), ks (3 + 11) (by omega) (by omega), ks (3 + 12) (by omega) (by omega), ks (3 + 13) (by omega) (by omega), ks (3 + 14) (by omega) (by omega), ks (3 + 15) (by omega) (by omega), ks (3 + 16) (by omega) (by omega), ks (3 + 17) (by omega) (by omega)]
        rw [km 78 (by omega), km 79 (by omega), km 80 (by omega), km 81 (by omega), km 82 (by omega), km 83 (by omega), km 84 (by omega), km 85 (by omega), km 86 (by omega), km 87 (by omega), km 88 (by omega), km 89 (by omega), km 90 (by omega), km 93 (by omega), km 94 (by omega), km 95 (by omega), km 96 (by omega), km 97 (by omega)]
        rw [w75 1 (by decide) (by decide), w75 4 (by decide) (by decide), w75 8 (by decide) (by decide), w75 9 (by decide) (by decide), w75 18 (by decide) (by decide), w75 21 (by decide) (by decide), w75 22 (by decide) (by decide), w75 30 (by decide) (by decide)]
        have h20 : s (3 + 2) 0 ≤ 20 := a6.2.2
        refine ⟨a1, a2, a3, a4, a5, a6, ?_, a8, a9, a10, a11, ?_, a13, a14, a15⟩
        · refine a7.put (q := a) (j := a) (by omega) (Or.inl rfl) (by omega) (by omega) w76 w77 (fun i g => by rw [u6, if_neg g]) ?_
          rw [u6, if_pos rfl, w76q, ← hT.1]
          exact hp.congr rfl (fun i i1 i2 => by rw [w77q i i1 (by rw [← hT.1]; exact i2), ← (hT.2.2.2 i i1 i2).1])
        · have hg : s 3 9 ≤ 10 := a11.2.2
          exact a12.out (q := a) (by omega) (by omega) (by omega) w76 w77
      · rw [nmTo_75 (by decide), up_idx (by decide), e75]
        exact h.2.2.2.2.1
      · by_cases g75 : x = 75
        · subst g75
          by_cases g24 : i = 24
          · subst g24
            rw [nmTo_24]; unfold emptd; rw [up_at]
          · unfold pers perM at *
            rw [nmTo_75 g24, up_idx (by omega), e75]
            unfold emptd
            rw [up_idx g24, up_row (by decide)]
        · unfold pers perM at *
          rw [nmTo_row g75 (by omega) (by omega), up_row g75, ← hu, up_row (by omega)]
          unfold emptd
          rw [up_row g75]
    · exact absurd ⟨hT.1 ▸ (isNm_eq hT.2).mp q.1, by omega⟩ q2
  · have e75 : up s 1 1 0 75 = s 75 := up_row (by decide)
    have e91 : up s 1 1 0 91 = s 91 := up_row (by decide)
    refine ⟨by decide, (t_X12_named (by rw [e75, e91, ← hT.1]; exact hT.2) ha (by rw [e75]; omega)).mono ?_⟩
    rw [e75, e91]
    rintro r2 s2 (⟨q2, rfl, rfl⟩ | ⟨q2, rfl, hag⟩)
    · exact absurd ⟨(isNm_eq hT.2).mpr (hT.1 ▸ q2.1), by omega⟩ q
    · exact ⟨rfl, (h.emp).agr (agr_emp hag)⟩
set_option maxHeartbeats 2000000 in
theorem t_X11_sell {s : Sto} {t : Int → Int} (hT : TapeR (s 1 1) (s 2) t) (h : 0 ≤ s 3 9 ∧ s 3 9 ≤ 10) : ClI LY 2 MX11_sell [.inr 0] s (fun r s' => ((isNm (s 1 1) (s 2) ∧ s 3 9 < 10) ∧ r = s 3 9 ∧ ∃ p, NmR p (s 1 1) (fun i => s 2 i - 97) ∧ s' = up (up (up s 1 1 0) 13 (s 3 9) p) 3 9 (s 3 9 + 1)) ∨ (¬ (isNm (s 1 1) (s 2) ∧ s 3 9 < 10) ∧ r = -1 ∧ s' = up s 1 1 0)) := by
  refine ClI.intro (by decide) rfl (Nat.le_of_ble_eq_true rfl) (fun X C r => ?_)
  refine kb_X11_sell_0 C r ?_
  refine ⟨1, _, by decide, t_X9_nameOnce hT, ?_⟩
  rintro r1 s1 ⟨rfl, hr, hn⟩
  have e3 : up s 1 1 0 3 = s 3 := up_row (by decide)
  refine ⟨hr, fun q => ?_, fun q => ?_⟩
  · rcases hn with ⟨h1, h2⟩ | ⟨h1, h2⟩
    · exact absurd h2.bd.1 (by omega)
    · exact Or.inr ⟨fun z => h1 z.1, rfl, rfl⟩
  · rcases hn with ⟨h1, h2⟩ | ⟨h1, h2⟩
    · rw [e3]
      refine ⟨⟨by omega, by omega⟩, fun q2 => ⟨by omega, ?_⟩, fun q2 => Or.inr ⟨fun z => by omega, rfl, rfl⟩⟩
      rintro s2 rfl
      rw [up_row (c' := 3) (by decide), e3]
      rintro s3 rfl
      rw [up_at]
      exact Or.inl ⟨⟨h1, q2⟩, by omega, r1, h2, rfl⟩
    · exact absurd h2 q
set_option maxHeartbeats 2000000 in
theorem t_X12_sell {s : Sto} {t : Int → Int} (hT : TapeR (s 75 24) t (s 91)) (h : 0 ≤ s 75 8 ∧ s 75 8 ≤ 10) : ClI LY 2 MX12_sell [.inr 75] s (fun r s' => ((isNm (s 75 24) (s 91) ∧ s 75 8 < 10) ∧ r = s 75 8 ∧ s' = up (nmTo (up s 75 0 0) (20 + s 75 8)) 75 8 (s 75 8 + 1)) ∨ (¬ (isNm (s 75 24) (s 91) ∧ s 75 8 < 10) ∧ r = -1 ∧ agr s' (up (up s 75 0 0) 75 24 0))) := by
  refine ClI.intro (by decide) rfl (Nat.le_of_ble_eq_true rfl) (fun X C r => ?_)
  refine kb_X12_sell_0 C r ?_
  rintro s0 rfl
  have e24 : up s 75 0 0 75 24 = s 75 24 := up_idx (by decide)
  have e8 : up s 75 0 0 75 8 = s 75 8 := up_idx (by decide)
  have e91 : up s 75 0 0 91 = s 91 := up_row (by decide)
  generalize up s 75 0 0 = u at e24 e8 e91 ⊢
  rw [← e24, ← e91] at hT
  rw [← e8] at h
  rw [← e24, ← e8, ← e91]
  refine ⟨1, _, by decide, t_X12_takesName hT, ?_⟩
  rintro r1 s1 (⟨rfl, hn, rfl⟩ | ⟨rfl, hn, rfl⟩)
  · refine ⟨by decide, fun z => absurd z (by decide), fun _ => ?_⟩
    have f8 := tn_75 (s := u) (i := 8) (by decide)
    have hag := agr_tn (s := u)
    rw [f8]
    refine ⟨⟨by omega, by omega⟩, fun q1 => ?_, fun z => Or.inr ⟨by omega, rfl, hag⟩⟩
    refine ⟨0, _, by decide, t_X12_movesName (by decide) (by omega) (by omega), ?_⟩
    rintro s5 rfl
    rw [nmTo_of]
    have g8 : nmTo u (20 + u 75 8) 75 8 = u 75 8 := nmTo_75 (by decide)
    rw [g8]
    rintro s6 rfl
    rw [up_at]
    exact Or.inl ⟨⟨hn, by omega⟩, by omega, rfl⟩
  · exact ⟨by decide, fun _ => Or.inr ⟨fun z => hn z.1, rfl, fun _ _ _ => rfl⟩, fun z => absurd rfl z⟩
theorem op_sell [Inhabited YT] {s : Sto} (h : Inv s) : OpI MX11_sell MX12_sell [] s := by
  obtain ⟨a1, a2, a3, a4, a5, a6, a7, a8, a9, a10, a11, a12, a13, a14, a15⟩ := h.2.1
  have hT := h.1
  have hC : 0 ≤ s 3 9 ∧ s 3 9 ≤ 10 := a11.2
  have h4 : s 3 9 = s 75 8 := a11.1
  have h20 : s (3 + 2) 0 ≤ 20 := a6.2.2
  refine ⟨2, 2, _, by decide, by decide, t_X11_sell hT.2 hC, ?_⟩
  rintro r1 s1 (⟨q, rfl, p, hp, rfl⟩ | ⟨q, rfl, rfl⟩)
  · generalize hu : up (up (up s 1 1 0) 13 (s 3 9) p) 3 9 (s 3 9 + 1) = u
    have er : ∀ x : Nat, x ≠ 1 → x ≠ 13 → x ≠ 3 → u x = s x := fun x g1 g2 g3 => by rw [← hu, up_row g3, up_row g2, up_row g1]
    have e75 := er 75 (by decide) (by decide) (by decide)
    have e91 := er 91 (by decide) (by decide) (by decide)
    refine ⟨⟨by omega, by omega⟩, (t_X12_sell (by rw [e75, e91, ← hT.1]; exact hT.2) (by rw [e75]; omega)).mono ?_⟩
    rw [e75, e91]
    rintro r2 s2 (⟨q2, rfl, rfl⟩ | ⟨q2, rfl, hag⟩)
    · refine ⟨h4.symm, (h.emp).land ?_ ?_ (fun x i g1 g2 g3 => ?_)⟩
      · have hnm := q.1
        have hb' : (0 ≤ s 75 24 ∧ s 75 24 ≤ 6) := by have := hT.2.1; have := hnm.1; omega
        have v24 : up u 75 0 0 75 24 = s 75 24 := by rw [up_idx (by decide), e75]
        have v91 : up u 75 0 0 91 = s 91 := by rw [up_row (by decide), e91]
        have w : ∀ x : Nat, x ≠ 75 → x ≠ 76 → x ≠ 77 → up (nmTo (up u 75 0 0) (20 + s 75 8)) 75 8 (s 75 8 + 1) x = u x := fun x g1 g2 g3 => by rw [up_row g1, nmTo_row g1 g2 g3, up_row g1]
        have w75 : ∀ i : Int, i ≠ 24 → i ≠ 0 → i ≠ 8 → up (nmTo (up u 75 0 0) (20 + s 75 8)) 75 8 (s 75 8 + 1) 75 i = s 75 i := fun i g2 g3 g4 => by rw [up_idx g4, nmTo_75 g2, up_idx g3, e75]
        have w8 : up (nmTo (up u 75 0 0) (20 + s 75 8)) 75 8 (s 75 8 + 1) 75 8 = s 75 8 + 1 := up_at _ _ _ _
        have w76 : ∀ i : Int, 0 ≤ i → i < 30 → i ≠ 20 + s 75 8 → up (nmTo (up u 75 0 0) (20 + s 75 8)) 75 8 (s 75 8 + 1) 76 i = s 76 i := fun i g0 g1 g2 => by rw [up_row (by decide), nmTo_76o g2 (by omega), up_row (by decide), er 76 (by decide) (by decide) (by decide)]
        have w76q : up (nmTo (up u 75 0 0) (20 + s 75 8)) 75 8 (s 75 8 + 1) 76 (20 + s 75 8) = s 75 24 := by rw [up_row (by decide), nmTo_76, v24]
        have w77 : ∀ i : Int, 0 ≤ i → i < 180 → ¬ (6 * (20 + s 75 8) ≤ i ∧ i < 6 * (20 + s 75 8) + 6) → up (nmTo (up u 75 0 0) (20 + s 75 8)) 75 8 (s 75 8 + 1) 77 i = s 77 i := fun i g0 g1 g2 => by rw [up_row (by decide), nmTo_77o (by rw [v24]; exact hb') g1 g2, up_row (by decide), er 77 (by decide) (by decide) (by decide)]
        have w77q : ∀ i : Int, 0 ≤ i → i < s 75 24 → up (nmTo (up u 75 0 0) (20 + s 75 8)) 75 8 (s 75 8 + 1) 77 (6 * (20 + s 75 8) + i) = s 91 i - 97 := fun i g1 g2 => by rw [up_row (by decide), nmTo_77 (by omega) (by rw [v24]; exact g2), v91]
        generalize up (nmTo (up u 75 0 0) (20 + s 75 8)) 75 8 (s 75 8 + 1) = z at w w75 w8 w76 w76q w77 w77q ⊢
        have u13 : ∀ i : Int, z 13 i = if i = s 3 9 then p else s 13 i := fun i => by rw [w 13 (by decide) (by decide) (by decide), ← hu, up_row (by decide), up_if, up_row (by decide)]
        have u39 : z 3 9 = s 3 9 + 1 := by rw [w 3 (by decide) (by decide) (by decide), ← hu, up_at]
        have u3 : ∀ i : Int, i ≠ 9 → z 3 i = s 3 i := fun i g => by rw [w 3 (by decide) (by decide) (by decide), ← hu, up_idx g, up_row (by decide), up_row (by decide)]
        have ks : ∀ x : Nat, (4 ≤ x ∧ x ≤ 20) → x ≠ 13 → z x = s x := fun x g g2 => by rw [w x (by omega) (by omega) (by omega), er x (by omega) g2 (by omega)]
        have km : ∀ x : Nat, (78 ≤ x ∧ x ≤ 97) → z x = s x := fun x g => by rw [w x (by omega) (by omega) (by omega), er x (by omega) (by omega) (by omega)]
        unfold LandR
        rw [u3 0 (by decide), u3 1 (by decide), u3 2 (by decide), u3 3 (by decide), u3 11 (by decide), u39, ks (3 + 1) (by omega) (by omega), ks (3 + 2) (by omega) (by omega), ks (3 + 3) (by omega) (by omega), ks (3 + 4) (by omega) (by omega), ks (3 + 5) (by omega) (by omega), ks (3 + 6) (by omega) (by omega), ks (3 + 7) (by omega) (by omega), ks (3 + 8) (by omega) (by omega), ks (3 + 9) (by omega) (by omega), ks (3 + 11) (by omega) (by omega), ks (3 + 12) (by omega) (by omega), ks (3 + 13) (by omega) (by omega), ks (3 + 14) (by omega) (by omega), ks (3 + 15) (by omega) (by omega), ks (3 + 16) (by omega) (by omega), ks (3 + 17) (by omega) (by omega)]
        rw [km 78 (by omega), km 79 (by omega), km 80 (by omega), km 81 (by omega), km 82 (by omega), km 83 (by omega), km 84 (by omega), km 85 (by omega), km 86 (by omega), km 87 (by omega), km 88 (by omega), km 89 (by omega), km 90 (by omega), km 93 (by omega), km 94 (by omega), km 95 (by omega), km 96 (by omega), km 97 (by omega)]
        rw [w75 1 (by decide) (by decide) (by decide), w75 4 (by decide) (by decide) (by decide), w75 9 (by decide) (by decide) (by decide), w75 18 (by decide) (by decide) (by decide), w75 21 (by decide) (by decide) (by decide), w75 22 (by decide) (by decide) (by decide), w75 30 (by decide) (by decide) (by decide), w8]
        refine ⟨a1, a2, a3, a4, a5, a6, ?_, a8, a9, a10, ⟨by omega, by omega, by omega⟩, ?_, a13, a14, a15⟩
        · exact a7.out (q := 20 + s 75 8) (by omega) (by omega) (by omega) w76 w77
        · refine a12.put (q := 20 + s 75 8) (j := s 3 9) (by omega) (Or.inr ⟨rfl, rfl⟩) (by omega) (by omega) w76 w77 (fun i g => by rw [u13, if_neg g]) ?_
          show NmR (z 13 (s 3 9)) _ _
          rw [u13, if_pos rfl, w76q, ← hT.1]
          exact hp.congr rfl (fun i i1 i2 => by rw [w77q i i1 (by rw [← hT.1]; exact i2), ← (hT.2.2.2 i i1 i2).1])
      · rw [up_idx (by decide), nmTo_75 (by decide), up_idx (by decide), e75]
        exact h.2.2.2.2.1
      · by_cases g75 : x = 75
        · subst g75
          by_cases g24 : i = 24
          · subst g24
            rw [up_idx (by decide), nmTo_24]; unfold emptd; rw [up_at]
          · unfold pers perM at *
            rw [up_idx (by omega), nmTo_75 g24, up_idx (by omega), e75]
            unfold emptd
            rw [up_idx g24, up_row (by decide)]
        · unfold pers perM at *
          rw [up_row g75, nmTo_row g75 (by omega) (by omega), up_row g75, ← hu, up_row (by omega), up_row (by omega)]
          unfold emptd
          rw [up_row g75]
    · exact absurd ⟨hT.1 ▸ (isNm_eq hT.2).mp q.1, by omega⟩ q2
  · have e75 : up s 1 1 0 75 = s 75 := up_row (by decide)
    have e91 : up s 1 1 0 91 = s 91 := up_row (by decide)
    refine ⟨by decide, (t_X12_sell (by rw [e75, e91, ← hT.1]; exact hT.2) (by rw [e75]; omega)).mono ?_⟩
    rw [e75, e91]
    rintro r2 s2 (⟨q2, rfl, rfl⟩ | ⟨q2, rfl, hag⟩)
    · exact absurd ⟨(isNm_eq hT.2).mpr (hT.1 ▸ q2.1), by omega⟩ q
    · exact ⟨rfl, (h.emp).agr (agr_emp hag)⟩
