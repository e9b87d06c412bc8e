/-! YEARS -/
theorem Inv.more {Y Y' : Inhabited YT} {s : Sto} (h : @Inv Y s) (h1 : @yN Y ≤ @yN Y') (h2 : @yN Y' ≤ 2147483000) : @Inv Y' s := by
  obtain ⟨a1, a2, a3, ⟨b1, b2, b3⟩, a5⟩ := h
  exact ⟨a1, a2.more h1 h2, a3, ⟨b1, b2, fun z => by obtain ⟨m, c1, c2⟩ := b3 z; exact ⟨m, c1.more h1 h2, c2⟩⟩, a5⟩
/-- k years -/
noncomputable def yrN (vt : Int) (vo : Int → Int) (t : Sto) : Nat → Sto
  | 0 => t
  | k + 1 => yrT vt vo (yrN vt vo t k)
theorem yrN_o {vt : Int} {vo : Int → Int} {t : Sto} {c : Nat} (h1 : c ≠ 75) (h2 : c ≠ 76) (h3 : c ≠ 77) (h4 : c ≠ 79) (h5 : c ≠ 80) (h6 : c ≠ 81) : ∀ k : Nat, yrN vt vo t k c = t c
  | 0 => rfl
  | k + 1 => by
    show yrT vt vo (yrN vt vo t k) c = t c
    rw [yrT_o h1 h2 h3 h4 h5 h6, yrN_o h1 h2 h3 h4 h5 h6 k]
theorem yrN_75 {vt : Int} {vo : Int → Int} {t : Sto} {i : Int} (h1 : i ≠ 1) (h2 : i ≠ 21) : ∀ k : Nat, yrN vt vo t k 75 i = t 75 i
  | 0 => rfl
  | k + 1 => by
    show yrT vt vo (yrN vt vo t k) 75 i = t 75 i
    rw [yrT_75 h1, if_neg h2, yrN_75 h1 h2 k]
theorem yrN_81 {vt : Int} {vo : Int → Int} {t : Sto} {i : Int} (h1 : 8 ≤ i) : ∀ k : Nat, yrN vt vo t k 81 i = t 81 i
  | 0 => rfl
  | k + 1 => by
    show yrT vt vo (yrN vt vo t k) 81 i = t 81 i
    rw [yrT_81, if_neg (by omega), yrN_81 h1 k]
/-- the Land, told by a store that differs only in working places -/
theorem LandR.qy [Inhabited YT] {u T S : Sto} {K : Int} (h : LandR u 3 T) (q : QY K S T) (hK : T 75 9 = K) (hb : T 75 22 = 1) (e : ∀ c : Nat, 3 ≤ c → c ≤ 20 → S c = u c) : LandR S 3 S := by
  have K8 : 2 ≤ K ∧ K ≤ 8 := by
    have : u 3 0 = T 75 9 ∧ 2 ≤ u 3 0 ∧ u 3 0 ≤ 8 := h.1
    omega
  -- first the ORDER alone
  have hl : LandR u 3 (fillR T 81 0 8 (S 81)) := by
    obtain ⟨a1, a2, a3, a4, a5, a6, a7, a8, a9, a10, a11, a12, a13, a14, a15⟩ := h
    have a1' : u 3 0 = T 75 9 ∧ 2 ≤ u 3 0 ∧ u 3 0 ≤ 8 := a1
    have f : ∀ c : Nat, c ≠ 81 → fillR T 81 0 8 (S 81) c = T c := fun c hc => fillR_row hc
    have f81 : ∀ i : Int, 8 ≤ i → fillR T 81 0 8 (S 81) 81 i = T 81 i := fun i hi => fillR_out (by omega)
    unfold LandR
    rw [f 75 (by decide), f 82 (by decide), f 76 (by decide), f 77 (by decide), f 78 (by decide), f 79 (by decide), f 80 (by decide), f 83 (by decide), f 84 (by decide), f 85 (by decide), f 86 (by decide), f 87 (by decide), f 88 (by decide), f 89 (by decide), f 90 (by decide), f 93 (by decide), f 94 (by decide), f 95 (by decide), f 96 (by decide), f 97 (by decide)]
    refine ⟨a1, a2, ?_, a4, a5, a6, a7, a8, a9, fun j j0 j1 => ?_, a11, a12, a13, fun x x0 x1 => ?_, a15⟩
    · refine a3.congr (fun k k0 k1 => ?_)
      unfold alM
      rw [if_neg (by omega), if_neg (by omega), fillR_in (by omega), show k - 0 = k by omega]
      exact q.o (by omega) (by omega)
    · obtain ⟨b1, b2⟩ := a10 j j0 j1
      refine ⟨b1, ?_⟩
      rcases b2 with q | ⟨q, q2⟩
      · exact Or.inl q
      · exact Or.inr ⟨q, q2.congr (fun k k0 k1 => f81 _ (by omega))⟩
    · obtain ⟨b1, b2, b3⟩ := a14 x x0 x1
      exact ⟨b1.congr (fun k k0 k1 => f81 _ (by omega)), b2, b3⟩
  refine hl.congr (fun c i c1 c2 => by rw [e c c1 c2]) (fun c i hp => ?_)
  by_cases c81 : c = 81
  · subst c81
    have i1 : 0 ≤ i ∧ i < 152 := by unfold perM at hp; omega
    by_cases i8 : i < 8
    · rw [fillR_in (by omega), show i - 0 = i by omega]
    · rw [fillR_out (by omega)]
      exact q.o (by omega) (by omega)
  · rw [fillR_row c81]
    exact q c i (by unfold perM at hp; unfold qyP; omega)
set_option maxHeartbeats 8000000 in
theorem op_years {Y Y' : Inhabited YT} {s : Sto} (h : @Inv Y s) (hy1 : @yN Y + 60 ≤ @yN Y') (hy2 : @yN Y' ≤ 2147483000) {n : Int} (hn : rg n) : @OpI Y' MX11_years MX12_years [.inl n] s := by
  have h' : @Inv Y' s := h.more (by omega) hy2
  have vts := @Inv.vts Y s h
  have hz : @Inv Y' (up s 75 0 0) := @Inv.told Y' s h' 0
  have hb0 : @Inv Y' (begS (up s 75 0 0)) := @Inv.beg Y' _ hz
  have z22 : up s 75 0 0 75 22 = 0 ∨ up s 75 0 0 75 22 = 1 := hz.2.2.2.2.1
  obtain ⟨T0, hT0⟩ : ∃ T0 : Sto, T0 = begS (up s 75 0 0) := ⟨_, rfl⟩
  have T0c : ∀ c : Nat, c ≠ 75 → c ≠ 81 → T0 c = s c := fun c c1 c2 => by rw [hT0, begS_row c1 c2, up_row c1]
  have T075 : ∀ i : Int, i ≠ 0 → i ≠ 22 → T0 75 i = s 75 i := fun i i1 i2 => by rw [hT0, begS_75 i2, up_idx i1]
  have T022 : T0 75 22 = 1 := by rw [hT0, begS_22 z22]
  have T081 : ∀ i : Int, 8 ≤ i → T0 81 i = s 81 i := fun i hi => by
    rw [hT0]
    unfold begS
    split
    · rw [fillR_out (by omega), up_row (by decide), up_row (by decide)]
    · rw [up_row (by decide)]
  have L0 : @LandR Y' s 3 T0 := by
    have := hb0.2.1
    rw [← hT0] at this
    exact @LandR.congr Y' _ _ _ _ _ this (fun c i c1 c2 => by rw [T0c c (by omega) (by omega)]) (fun _ _ _ => rfl)
  obtain ⟨vo, hvo⟩ : ∃ vo : Int → Int, vo = voF (ovS s) (s 75 9) (s 82 6) := ⟨_, rfl⟩
  have N22 : ∀ k : Nat, yrN (s 75 18) vo T0 k 75 22 = 1 := fun k => by rw [yrN_75 (by decide) (by decide), T022]
  have ys : 0 ≤ s 3 3 ∧ s 3 3 ≤ @yN Y := ⟨h.2.1.2.2.2.1.2.1, h.2.1.2.2.2.1.2.2.1⟩
  refine ⟨7, 6, (fun r1 s1 => (¬ (1 ≤ n ∧ n ≤ 60) ∧ r1 = -1 ∧ s1 = s) ∨ ((1 ≤ n ∧ n ≤ 60) ∧ r1 = s 3 3 + n ∧ (∀ c : Nat, c ≠ 3 → c ≠ 6 → c ≠ 8 → c ≠ 9 → ¬ (47 ≤ c ∧ c ≤ 51) → ¬ (60 ≤ c ∧ c ≤ 63) → s1 c = s c) ∧ s1 3 3 = s 3 3 + n ∧ @LandR Y' s1 3 (yrN (s 75 18) vo T0 n.toNat) ∧ ∀ j : Nat, (j : Int) ≤ n → ∃ u : Sto, @LandR Y' u 3 (yrN (s 75 18) vo T0 j) ∧ ∀ c : Nat, (17 ≤ c ∧ c ≤ 20) ∨ (93 ≤ c ∧ c ≤ 97) → u c = s c)), by decide, by decide, ?_, ?_⟩
  · refine ClI.intro (by decide) rfl (Nat.le_of_ble_eq_true rfl) (fun X C r => ?_)
    refine kb_X11_years_0 C r ⟨hn, fun z => Or.inl ⟨by omega, rfl, rfl⟩, fun z => ⟨hn, fun z2 => ?_, fun z2 => Or.inl ⟨by omega, rfl, rfl⟩⟩⟩
    have key : ∀ u : Sto, (∀ c : Nat, c ≠ 3 → c ≠ 6 → c ≠ 8 → c ≠ 9 → ¬ (47 ≤ c ∧ c ≤ 51) → ¬ (60 ≤ c ∧ c ≤ 63) → u c = s c) → (∀ i : Int, i ≠ 1 → i ≠ 2 → i ≠ 3 → u 3 i = s 3 i) → u 3 3 = s 3 3 + 0 → @LandR Y' u 3 (yrN (s 75 18) vo T0 (0 : Int).toNat) → (∀ j : Nat, (j : Int) ≤ 0 → ∃ u : Sto, @LandR Y' u 3 (yrN (s 75 18) vo T0 j) ∧ ∀ c : Nat, (17 ≤ c ∧ c ≤ 20) ∨ (93 ≤ c ∧ c ≤ 97) → u c = s c) → G LY X 15 [rv 0, iv n, iv 0] [] u := by
      refine downI (P := fun k => ∀ u : Sto, (∀ c : Nat, c ≠ 3 → c ≠ 6 → c ≠ 8 → c ≠ 9 → ¬ (47 ≤ c ∧ c ≤ 51) → ¬ (60 ≤ c ∧ c ≤ 63) → u c = s c) → (∀ i : Int, i ≠ 1 → i ≠ 2 → i ≠ 3 → u 3 i = s 3 i) → u 3 3 = s 3 3 + k → @LandR Y' u 3 (yrN (s 75 18) vo T0 k.toNat) → (∀ j : Nat, (j : Int) ≤ k → ∃ u : Sto, @LandR Y' u 3 (yrN (s 75 18) vo T0 j) ∧ ∀ c : Nat, (17 ≤ c ∧ c ≤ 20) ∨ (93 ≤ c ∧ c ≤ 97) → u c = s c) → G LY X 15 [rv 0, iv n, iv k] [] u) (a := 0) (b := n) (by omega) ?_ ?_
      · intro u k1 k2 k3 k4 k5
        refine kb_X11_years_15 C r ⟨⟨hn, hn⟩, fun _ => Or.inr ⟨⟨z, z2⟩, k3, k1, k3, k4, k5⟩, fun z3 => absurd z3 (by omega)⟩
      · intro k k0 kn ih u k1 k2 k3 k4 k5
        refine kb_X11_years_15 C r ⟨⟨⟨by omega, by omega⟩, hn⟩, fun z3 => absurd z3 (by omega), fun _ => ?_⟩
        have ek : yrN (s 75 18) vo T0 (k + 1).toNat = yrT (s 75 18) vo (yrN (s 75 18) vo T0 k.toNat) := by
          obtain ⟨m, rfl⟩ := Int.eq_ofNat_of_zero_le k0
          rfl
        have py := t_passYear (Y := Y) (Y' := Y') (s := s) (u := u) (t := yrN (s 75 18) vo T0 k.toNat) h k4 (N22 _) (fun c c1 c2 => by rw [yrN_o (by omega) (by omega) (by omega) (by omega) (by omega) (by omega), T0c c (by omega) (by omega), k1 c (by omega) (by omega) (by omega) (by omega) (by omega) (by omega)]) (k2 0 (by decide) (by decide) (by decide)) (k2 11 (by decide) (by decide) (by decide)) (k1 14 (by decide) (by decide) (by decide) (by decide) (by decide) (by decide)) (k1 15 (by decide) (by decide) (by decide) (by decide) (by decide) (by decide)) (by rw [k1 4 (by decide) (by decide) (by decide) (by decide) (by decide) (by decide)]; exact (h.2.1.2.2.2.2.1 6 (by decide) (by decide)).1) (by rw [yrN_75 (by decide) (by decide), T075 18 (by decide) (by decide)]) (by omega)
        rw [← hvo, ← ek] at py
        refine ⟨6, _, by decide, py, ?_⟩
        rintro v ⟨v1, v2, v3, v4⟩
        have vc : ∀ c : Nat, c ≠ 3 → c ≠ 6 → c ≠ 8 → c ≠ 9 → ¬ (47 ≤ c ∧ c ≤ 51) → ¬ (60 ≤ c ∧ c ≤ 63) → v c = s c := fun c c1 c2 c3 c4 c5 c6 => by rw [v1 c c1 c2 c3 c4 c5 c6, k1 c c1 c2 c3 c4 c5 c6]
        refine ih v vc (fun i i1 i2 i3 => by rw [v2 i i1 i2 i3, k2 i i1 i2 i3]) (by omega) v4 (fun j hj => ?_)
        by_cases q : (j : Int) ≤ k
        · exact k5 j q
        · refine ⟨v, ?_, fun c hc => vc c (by omega) (by omega) (by omega) (by omega) (by omega) (by omega)⟩
          have : j = (k + 1).toNat := by omega
          rw [this]
          exact v4
    refine key s (fun _ _ _ _ _ _ _ => rfl) (fun _ _ _ _ => rfl) (by omega) L0 (fun j hj => ⟨s, ?_, fun _ _ => rfl⟩)
    have : j = 0 := by omega
    rw [this]
    exact L0
  · rintro r1 s1 g
    have rr : rg r1 := by
      rcases g with g | g
      · rw [g.2.1]; decide
      · exact ⟨by omega, by omega⟩
    refine ⟨rr, ?_⟩
    refine ClI.intro (by decide) rfl (Nat.le_of_ble_eq_true rfl) (fun X C r => ?_)
    refine kb_X12_years_0 C r ?_
    rintro s2 h2
    refine ⟨0, _, by decide, t_X12_isIn hn (by decide) (by decide), ?_⟩
    rintro w y ⟨hy, hw⟩
    rw [hy]
    by_cases q : 1 ≤ n ∧ n ≤ 60
    · have g' := g.resolve_left (fun z => z.1 q)
      obtain ⟨_, g1, g2, g3, g4, g5⟩ := g'
      replace hw : w = 1 := hw.2.mpr q
      rw [hw]
      refine ⟨by decide, fun _ => ?_, fun z => absurd z (by decide)⟩
      have s2l : ∀ c : Nat, c ≤ 74 → s2 c = s1 c := fun c hc => by rw [h2, up_row (by omega)]
      have e22 : s2 75 22 = up s 75 0 0 75 22 := by rw [h2, up_idx (by decide), up_idx (by decide), g2 75 (by decide) (by decide) (by decide) (by decide) (by decide) (by decide)]
      have b2 : ∀ c : Nat, 75 ≤ c → begS s2 c = T0 c := fun c hc => by
        have ee : ∀ k : Nat, 75 ≤ k → s2 k = up s 75 0 0 k := fun k hk => by
          by_cases q5 : k = 75
          · subst q5
            funext i
            rw [h2, up_if, up_if, g2 75 (by decide) (by decide) (by decide) (by decide) (by decide) (by decide)]
          · rw [h2, up_row q5, up_row q5, g2 k (by omega) (by omega) (by omega) (by omega) (by omega) (by omega)]
        rw [hT0]
        by_cases q8 : c = 81
        · subst q8; exact begS_81 e22 (ee 81 (by decide))
        · by_cases q5 : c = 75
          · subst q5
            funext i
            by_cases i22 : i = 22
            · subst i22; rw [begS_22 (by rw [e22]; exact z22), begS_22 z22]
            · rw [begS_75 i22, begS_75 i22, ee 75 (by decide)]
          · rw [begS_row q5 q8, begS_row q5 q8, ee c hc]
      have key : ∀ S : Sto, (∀ c : Nat, c ≤ 74 → S c = s1 c) → (S 75 22 = 0 ∨ S 75 22 = 1) → QY (s 75 9) (begS S) (yrN (s 75 18) vo T0 (0 : Int).toNat) → (0 < (0 : Int) → S 75 22 = 1) → G LY X 20 [rv 75, iv n, iv 0] [] S := by
        refine downI (P := fun k => ∀ S : Sto, (∀ c : Nat, c ≤ 74 → S c = s1 c) → (S 75 22 = 0 ∨ S 75 22 = 1) → QY (s 75 9) (begS S) (yrN (s 75 18) vo T0 k.toNat) → (0 < k → S 75 22 = 1) → G LY X 20 [rv 75, iv n, iv k] [] S) (a := 0) (b := n) (by omega) ?_ ?_
        · intro S k1 k2 k3 k4
          have S22 := k4 (by omega)
          rw [begS_1 S22] at k3
          refine kb_X12_years_20 C r ⟨⟨hn, hn⟩, fun _ => ?_, fun z3 => absurd z3 (by omega)⟩
          have S21 : S 75 21 = s 3 3 + n := by
            rw [k3.f (by decide), ← g3]
            exact g4.2.2.2.1.1.symm
          refine ⟨by rw [S21, g1], ?_⟩
          have hl : @LandR Y' S 3 S := @LandR.qy Y' s1 _ S (s 75 9) g4 k3 (by rw [yrN_75 (by decide) (by decide), T075 9 (by decide) (by decide)]) (N22 _) (fun c c1 c2 => k1 c (by omega))
          refine @Inv.land Y' s S h' hl (Or.inr S22) (fun c i hp c3 hm => ?_)
          by_cases cl : c ≤ 74
          · rw [k1 c cl, g2 c (by omega) (by omega) (by omega) (by omega) (by unfold pers perM at hp; omega) (by unfold pers perM at hp; omega)]
          · have hq : (c = 75 ∧ (i = 24 ∨ i = 42 ∨ i = 43 ∨ i = 59 ∨ i = 69)) ∨ c = 91 ∨ c = 92 ∨ c = 118 := by
              rcases hp with hp | hp | hp | hp | hp | hp | hp
              · omega
              · omega
              · exact absurd hp hm
              · exact Or.inl hp
              · omega
              · omega
              · omega
            rw [k3 c i (by unfold qyP; omega)]
            rcases hq with ⟨rfl, hq⟩ | hq
            · rw [yrN_75 (by omega) (by omega), T075 i (by omega) (by omega)]
            · rw [yrN_o (by omega) (by omega) (by omega) (by omega) (by omega) (by omega), T0c c (by omega) (by omega)]
        · intro k k0 kn ih S k1 k2 k3 k4
          refine kb_X12_years_20 C r ⟨⟨⟨by omega, by omega⟩, hn⟩, fun z3 => absurd z3 (by omega), fun _ => ?_⟩
          have ek : yrN (s 75 18) vo T0 (k + 1).toNat = yrT (s 75 18) vo (yrN (s 75 18) vo T0 k.toNat) := by
            obtain ⟨m, rfl⟩ := Int.eq_ofNat_of_zero_le k0
            rfl
          obtain ⟨u, u1, u2⟩ := g5 k.toNat (by omega)
          have yg := t_yearGoes (Y := Y) (Y' := Y') (s := s) (u := u) (S := S) (T := yrN (s 75 18) vo T0 k.toNat) h u1 (N22 _) (fun c c1 c2 => by rw [yrN_o (by omega) (by omega) (by omega) (by omega) (by omega) (by omega), T0c c (by omega) (by omega), u2 c (by omega)]) (fun c c1 c2 => by rw [k1 c (by omega), u2 c (by omega), g2 c (by omega) (by omega) (by omega) (by omega) (by omega) (by omega)]) k2 k3 (by rw [yrN_75 (by decide) (by decide), T075 9 (by decide) (by decide)]) (by rw [yrN_75 (by decide) (by decide), T075 18 (by decide) (by decide)]) (by rw [yrN_75 (by decide) (by decide), T075 59 (by decide) (by decide)]) (fun i hi => by rw [yrN_81 hi, T081 i hi]) (by rw [yrN_o (by decide) (by decide) (by decide) (by decide) (by decide) (by decide), T0c 89 (by decide) (by decide)]) (by rw [yrN_o (by decide) (by decide) (by decide) (by decide) (by decide) (by decide), T0c 82 (by decide) (by decide)])
          rw [← hvo, ← ek] at yg
          refine ⟨5, _, by decide, yg, ?_⟩
          rintro v ⟨v1, v2⟩
          have v22 : v 75 22 = 1 := by rw [v2.f (by decide), N22]
          exact ih v (fun c hc => by rw [v1 c hc, k1 c hc]) (Or.inr v22) (by rw [begS_1 v22]; exact v2) (fun _ => v22)
      refine key s2 s2l (by rw [e22]; exact z22) (fun c i hp => by rw [b2 c hp.1]; rfl) (fun z => absurd z (by omega))
    · have g' := g.resolve_right (fun z => q z.1)
      replace hw : w = 0 := hw.1.resolve_right (fun z => q (hw.2.mp z))
      rw [hw]
      refine ⟨by decide, fun z => absurd rfl z, fun _ => ⟨g'.2.1.symm, ?_⟩⟩
      rw [h2, g'.2.2]
      exact hz
