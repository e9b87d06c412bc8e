/-! THE QUEUE of the class -/
abbrev sqG (K w : Int) (pl nn ff : Int → Int) (p : Int) : List Int := sfx (rkF K w pl) (fun i => ff (6 * (0 + p) + i)) (nn (0 + p)) (nn (0 + p)).toNat
set_option maxHeartbeats 2000000 in
theorem t_X7_lineUp {o : Int} {od nn ff : Int → Int} {s : Sto} (hO : OdR (s 3 0) o od) (hL : 0 ≤ s 4 0 ∧ s 4 0 ≤ 2) (hL1 : 0 ≤ s 4 1 ∧ s 4 1 ≤ 2) (hn : 0 ≤ s 5 0 ∧ s 5 0 ≤ 20) (hN : NamesR (s 5 0) (s 6) nn ff 0) (hA : ∀ p : Int, 0 ≤ p → p < s 5 0 → rg (s 8 p) ∧ rg (s 9 p)) : ClV LY 2 MX7_lineUp [.inr 46, .inr 3, .inl o] s (fun s' => (∀ c : Nat, c ≠ 47 → c ≠ 48 → c ≠ 49 → c ≠ 50 → s' c = s c) ∧ ∃ pl : Int → Int, PlR (s 3 0) od pl ∧ (∀ l : Int, 0 ≤ l → l < 26 → s' 47 l = rkF (s 3 0) (s 4 0) pl l) ∧ (∀ p : Int, 0 ≤ p → p < s 5 0 → s' 48 p = keyN 6 (sqG (s 3 0) (s 4 0) pl nn ff p)) ∧ RowR (s' 49) (s 5 0) (srtL (AHR (sqG (s 3 0) (s 4 0) pl nn ff) (s 4 1) (s 8) (s 9)) (s 5 0).toNat) ∧ ∀ i : Int, 0 ≤ i → i < s 5 0 → s' 50 (s' 49 i) = i) := by
  refine ClV.intro (by decide) rfl (Nat.le_of_ble_eq_true rfl) (fun X C r => ?_)
  refine kb_X7_lineUp_0 C r ?_
  refine ⟨1, _, by decide, t_X7_rankLetters hO hL, ?_⟩
  rintro u ⟨hu, pl, hP, hr⟩
  have hK := hO.1
  have hpl : ∀ l : Int, l < s 3 0 → 0 ≤ l → 0 ≤ pl l ∧ pl l < s 3 0 := fun l g1 g2 => hP.bd hO g2 g1
  have hrk : ∀ l : Int, 0 ≤ l → l < 26 → u 47 l = rkF (s 3 0) (s 4 0) pl l ∧ (rkF (s 3 0) (s 4 0) pl l = -1 ∨ (1 ≤ rkF (s 3 0) (s 4 0) pl l ∧ rkF (s 3 0) (s 4 0) pl l < 32)) := fun l g1 g2 => ⟨hr l g1 g2, rk_bd hK (fun z => hpl l z g1) ⟨g1, g2⟩⟩
  have hdg : ∀ p : Int, 0 ≤ p → p < s 5 0 → dgs (sqG (s 3 0) (s 4 0) pl nn ff p) ∧ (sqG (s 3 0) (s 4 0) pl nn ff p).length ≤ 6 := by
    intro p p1 p2
    have g := hN p p1 p2
    have := sfx_dgs (rk := rkF (s 3 0) (s 4 0) pl) (f := fun i => ff (6 * (0 + p) + i)) (n := nn (0 + p)) (fun k k1 k2 => (hrk _ (g.2.1 k k1 k2).1 (g.2.1 k k1 k2).2).2) (nn (0 + p)).toNat (by have := g.1; omega)
    exact ⟨this.1, Nat.le_trans this.2 (by have := g.1; omega)⟩
  generalize hAH : AHR (sqG (s 3 0) (s 4 0) pl nn ff) (s 4 1) (s 8) (s 9) = ah
  have ask : ∀ (S : Sto) (p q : Int), (∀ c : Nat, c ≠ 48 → c ≠ 49 → S c = u c) → 0 ≤ p → p < s 5 0 → 0 ≤ q → q < s 5 0 → S 48 p = keyN 6 (sqG (s 3 0) (s 4 0) pl nn ff p) → S 48 q = keyN 6 (sqG (s 3 0) (s 4 0) pl nn ff q) → ClI LY 0 MX7_isAhead [.inr 46, .inr 3, .inl p, .inl q] S (fun r s' => s' = S ∧ (r = 0 ∨ r = 1) ∧ (r = 1 ↔ ah p q)) := by
    intro S p q hS p1 p2 q1 q2 kp kq
    have e : ∀ c : Nat, c ≠ 47 → c ≠ 48 → c ≠ 49 → S c = s c := fun c g1 g2 g3 => by rw [hS c g2 g3, hu c g1]
    have e4 := e 4 (by decide) (by decide) (by decide)
    have e8 := e 8 (by decide) (by decide) (by decide)
    have e9 := e 9 (by decide) (by decide) (by decide)
    have dp := hdg p p1 p2
    have dq := hdg q q1 q2
    have bp := keyN_bd 6 _ dp.1 dp.2
    have bq := keyN_bd 6 _ dq.1 dq.2
    have bp2 : keyN 6 (sqG (s 3 0) (s 4 0) pl nn ff p) < 1073741824 := bp.2
    have bq2 : keyN 6 (sqG (s 3 0) (s 4 0) pl nn ff q) < 1073741824 := bq.2
    have ap := hA p p1 p2
    have aq := hA q q1 q2
    refine (t_X7_isAhead (s := S) (by omega) (by omega) (by rw [kp, kq]; exact ⟨⟨by omega, by omega⟩, ⟨by omega, by omega⟩⟩) (by rw [e4]; exact hL1) (by rw [e8]; exact ⟨ap.1, aq.1⟩) (by rw [e9]; exact ⟨ap.2, aq.2⟩)).mono ?_
    rintro r1 s1 ⟨g1, g2, g3⟩
    refine ⟨g1, g2, ?_⟩
    have kk := keyN_lt 6 _ _ dp.1 dq.1 dp.2 dq.2
    rw [g3, kp, kq, kk.1, kk.2, ← hAH, e4, e8, e9]
    exact Iff.rfl
  suffices H : ∀ S : Sto, ((∀ c : Nat, c ≠ 48 → c ≠ 49 → S c = u c) ∧ (∀ q : Int, 0 ≤ q → q < 0 → S 48 q = keyN 6 (sqG (s 3 0) (s 4 0) pl nn ff q)) ∧ RowR (S 49) 0 (srtL ah (0 : Int).toNat)) → G LY X 8 [rv 46, rv 3, iv o, iv 0, none] [] S from H u ⟨fun _ _ _ => rfl, fun q g1 g2 => absurd g2 (by omega), rfl, fun i g1 g2 => absurd g2 (by omega)⟩
  refine downI (P := fun p => ∀ S : Sto, ((∀ c : Nat, c ≠ 48 → c ≠ 49 → S c = u c) ∧ (∀ q : Int, 0 ≤ q → q < p → S 48 q = keyN 6 (sqG (s 3 0) (s 4 0) pl nn ff q)) ∧ RowR (S 49) p (srtL ah p.toNat)) → G LY X 8 [rv 46, rv 3, iv o, iv p, none] [] S) (a := 0) (b := s 5 0) hn.1 ?_ ?_
  · rintro S ⟨k1, k2, k3⟩
    have e5 : S 5 0 = s 5 0 := by rw [k1 5 (by decide) (by decide), hu 5 (by decide)]
    refine kb_X7_lineUp_8 C r ⟨⟨⟨by omega, by omega⟩, by rw [e5]; exact ⟨by omega, by omega⟩⟩, fun _ => ?_, fun z => absurd z (by omega)⟩
    have k3' : RowR (S 49) ((s 5 0).toNat : Nat) (srtL ah (s 5 0).toNat) := by rw [Int.toNat_of_nonneg hn.1]; exact k3
    suffices H3 : ∀ S2 : Sto, ((∀ c : Nat, c ≠ 50 → S2 c = S c) ∧ ∀ j : Int, 0 ≤ j → j < 0 → S2 50 (S 49 j) = j) → G LY X 102 [rv 46, rv 3, iv o, iv 0, none] [] S2 from H3 S ⟨fun _ _ => rfl, fun j g1 g2 => absurd g2 (by omega)⟩
    refine downI (P := fun i => ∀ S2 : Sto, ((∀ c : Nat, c ≠ 50 → S2 c = S c) ∧ ∀ j : Int, 0 ≤ j → j < i → S2 50 (S 49 j) = j) → G LY X 102 [rv 46, rv 3, iv o, iv i, none] [] S2) (a := 0) (b := s 5 0) hn.1 ?_ ?_
    · rintro S2 ⟨m1, m2⟩
      have e5 : S2 5 0 = s 5 0 := by rw [m1 5 (by decide), e5]
      refine kb_X7_lineUp_102 C r ⟨⟨⟨by omega, by omega⟩, by rw [e5]; exact ⟨by omega, by omega⟩⟩, fun _ => ⟨fun c c1 c2 c3 c4 => by rw [m1 c c4, k1 c c2 c3, hu c c1], pl, hP, fun l l1 l2 => by rw [m1 47 (by decide), k1 47 (by decide) (by decide), hr l l1 l2], fun q q1 q2 => by rw [m1 48 (by decide), k2 q q1 q2], ?_, fun i i1 i2 => by rw [m1 49 (by decide), m2 i i1 i2]⟩, fun z => absurd z (by omega)⟩
      rw [m1 49 (by decide), hAH]
      exact k3
    · rintro i i1 i2 ih S2 ⟨m1, m2⟩
      have e5 : S2 5 0 = s 5 0 := by rw [m1 5 (by decide), e5]
      have e49 : S2 49 i = S 49 i := by rw [m1 49 (by decide)]
      have hb := k3'.bd i1 (by omega)
      refine kb_X7_lineUp_102 C r ⟨⟨⟨by omega, by omega⟩, by rw [e5]; exact ⟨by omega, by omega⟩⟩, fun z => absurd z (by omega), fun _ => ⟨⟨by omega, by omega⟩, by rw [e49]; exact ⟨by omega, by omega⟩, ?_⟩⟩
      rintro t1 rfl
      rw [e49]
      refine ih _ ⟨fun c g => by rw [up_row g, m1 c g], fun j j1 j2 => ?_⟩
      rw [up_if]
      by_cases q : j = i
      · rw [q, if_pos rfl]
      · rw [if_neg (fun z => q (k3'.inj j1 (by omega) i1 (by omega) z)), m2 j j1 (by omega)]
  · rintro p p1 p2 ih S ⟨k1, k2, k3⟩
    have e5 : S 5 0 = s 5 0 := by rw [k1 5 (by decide) (by decide), hu 5 (by decide)]
    have e6 : S 6 p = s 6 p := by rw [k1 6 (by decide) (by decide), hu 6 (by decide)]
    refine kb_X7_lineUp_8 C r ⟨⟨⟨by omega, by omega⟩, by rw [e5]; exact ⟨by omega, by omega⟩⟩, fun z => absurd z (by omega), fun _ => ⟨⟨by omega, by omega⟩, ?_⟩⟩
    rw [e6]
    refine ⟨1, _, by decide, t_X7_keyOf (rk := rkF (s 3 0) (s 4 0) pl) (hN p p1 p2) (fun l l1 l2 => by rw [k1 47 (by decide) (by decide)]; exact hrk l l1 l2), ?_⟩
    rintro key t0 ⟨ht0, hkey⟩
    rw [ht0]
    refine ⟨⟨by omega, by omega⟩, ?_⟩
    rintro S1 rfl
    have n1 : ∀ c : Nat, c ≠ 48 → c ≠ 49 → up S 48 p key c = u c := fun c g1 g2 => by rw [up_row g1, k1 c g1 g2]
    have n2 : ∀ q : Int, 0 ≤ q → q < p + 1 → up S 48 p key 48 q = keyN 6 (sqG (s 3 0) (s 4 0) pl nn ff q) := by
      intro q q1 q2
      rw [up_if]
      by_cases z : q = p
      · rw [if_pos z, hkey, z]
      · rw [if_neg z, k2 q q1 (by omega)]
    have n3 : RowR (up S 48 p key 49) p (srtL ah p.toNat) := by rw [up_row (by decide)]; exact k3
    generalize up S 48 p key = S1 at n1 n2 n3 ⊢
    have hfin : ∀ (S2 : Sto) (a : Int) (X_1 Y : List Int), (∀ c : Nat, c ≠ 49 → S2 c = S1 c) → 0 ≤ a → a ≤ p → MidR (S2 49) p a (srtL ah p.toNat) X_1 Y → srtL ah (p + 1).toNat = X_1 ++ (p :: Y) → G LY X 8 [rv 46, rv 3, iv o, iv (p + 1), none] [] (up S2 49 a p) := by
      intro S2 a X_1 Y g1 g2 g3 g4 g5
      refine ih _ ⟨fun c g g' => by rw [up_row g', g1 c g', n1 c g g'], fun q q1 q2 => by rw [up_row (by decide), g1 48 (by decide), n2 q q1 q2], ?_⟩
      rw [g5]
      exact g4.fin g3 g2 (fun i => up_if _ _ _ _ _)
    suffices H2 : ∀ (a : Int), 0 ≤ a → a ≤ p → ∀ (S2 : Sto) (X_1 Y : List Int), (∀ c : Nat, c ≠ 49 → S2 c = S1 c) → MidR (S2 49) p a (srtL ah p.toNat) X_1 Y → srtL ah (p + 1).toNat = X_1 ++ insL ah p Y → G LY X 41 [rv 46, rv 3, iv o, iv p, iv a] [] S2 from H2 p p1 (Int.le_refl _) S1 [] _ (fun _ _ => rfl) (MidR.begin n3) (srt_snoc p1)
    intro a ha0
    obtain ⟨m, rfl⟩ := Int.eq_ofNat_of_zero_le ha0
    induction m with
    | zero =>
      intro ha S2 X_1 Y g1 g4 g5
      have hY : Y = [] := by
        have := g4.2.1
        cases Y with
        | nil => rfl
        | cons y Y => simp at this; omega
      subst hY
      refine kb_X7_lineUp_41 C r ⟨by decide, fun _ => ⟨by decide, ?_⟩, fun z => absurd z (by decide)⟩
      rintro t1 rfl
      exact hfin S2 0 X_1 [] g1 (by decide) (by omega) g4 g5
    | succ m ihm =>
      intro ha S2 X_1 Y g1 g4 g5
      cases Y with
      | nil => have := g4.2.1; simp at this; omega
      | cons y Y =>
        have hy : S2 49 (((m + 1 : Nat) : Int) - 1) = y := by
          rw [g4.2.2.2.1 _ (by omega) (by omega), show (((m + 1 : Nat) : Int) - 1 - (((m + 1 : Nat) : Int) - 1)).toNat = 0 by omega]
          rfl
        have hyb : 0 ≤ y ∧ y < p := by
          have : y ∈ srtL ah p.toNat := by rw [g4.1]; simp
          have := (srtL_mem _ _).mp this
          omega
        refine kb_X7_lineUp_41 C r ⟨⟨by omega, by omega⟩, fun z => absurd z (by omega), fun _ => ⟨⟨by omega, by omega⟩, ?_⟩⟩
        rw [hy]
        refine ⟨0, _, by decide, ask S2 p y (fun c c1 c2 => by rw [g1 c c2, n1 c c1 c2]) p1 p2 hyb.1 (by omega) (by rw [g1 48 (by decide), n2 p p1 (by omega)]) (by rw [g1 48 (by decide), n2 y hyb.1 (by omega)]), ?_⟩
        rintro r2 t2 ⟨ht, q1, q2⟩
        rw [ht]
        refine ⟨by omega, fun z => ⟨⟨by omega, by omega⟩, ?_⟩, fun z => ⟨⟨by omega, by omega⟩, ⟨by omega, by omega⟩, ?_⟩⟩
        · rintro t3 rfl
          rw [insL_f (fun y => by have := q2.mpr y; omega)] at g5
          exact hfin S2 _ X_1 (y :: Y) g1 (by omega) ha g4 g5
        · rw [hy]
          rintro t3 rfl
          rw [insL_t (q2.mp (by omega))] at g5
          have := ihm (by omega) (by omega) (up S2 49 ((m + 1 : Nat) : Int) y) (X_1 ++ [y]) Y (fun c g => by rw [up_row g, g1 c g]) (by
            have := g4.pass (row' := up S2 49 ((m + 1 : Nat) : Int) y 49) (fun i => up_if _ _ _ _ _) ha
            rw [show ((m + 1 : Nat) : Int) - 1 = (m : Int) by omega] at this
            exact this) (by rw [g5]; simp)
          rw [show ((m + 1 : Nat) : Int) + -1 = (m : Int) by omega]
          exact this
