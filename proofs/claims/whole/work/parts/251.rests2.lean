theorem LM.congr {u s s' : Sto} {od : Int → Int} (h : LM u s od) (e : samN s s') (e22 : s' 75 22 = s 75 22) (e81 : s' 81 = s 81) (eu : ∀ c : Nat, 17 ≤ c → c ≤ 20 → s' c = s c) : LM u s' od := by
  obtain ⟨h1, h2, h3⟩ := h
  refine ⟨h1.sam e, ⟨by rw [e22]; exact h2.1, fun i => ?_⟩, fun c c1 c2 => by rw [eu c c1 c2, h3 c c1 c2]⟩
  rw [begS_81 (s := s) e22 e81]
  exact h2.2 i
theorem KdR.bd {T : Sto} {g p k : Int} (h : KdR T g p k) : -1 ≤ k ∧ (k < g ∨ k = -1) := by
  rcases h with h | h
  · omega
  · omega
theorem cpS_sam {s s' : Sto} (e : samN s s') : ∀ k : Nat, samN (cpS s k) (cpS s' k)
  | 0 => e
  | k + 1 => (cpS_sam e k).mv _ _
/-- kept aside -/
theorem cpS_NK {s : Sto} {g n : Int} (hn : 0 ≤ n ∧ n ≤ 20) (hg : 0 ≤ g ∧ g ≤ 10) (np : ∀ p : Int, 0 ≤ p → p < n → nmB s p) (nm : ∀ i : Int, 0 ≤ i → i < g → nmB s (20 + i)) : NK (cpS s n.toNat) g n := by
  have c6 := cpS_76 s n.toNat (by omega)
  have c7 := cpS_77 s n.toNat (by omega)
  have lo : ∀ a : Int, a < 31 → nmB s a → nmB (cpS s n.toNat) a := fun a ha nb => by
    have b := nb.1
    refine ⟨by rw [c6, if_neg (by omega)]; exact nb.1, fun i i0 i1 => ?_⟩
    rw [c6, if_neg (by omega)] at i1
    rw [c7, if_neg (by omega)]
    exact nb.2 i i0 i1
  have e6 : ∀ p : Int, 0 ≤ p → p < n → cpS s n.toNat 76 (31 + p) = s 76 p := fun p p0 p1 => by rw [c6, if_pos (by omega), show 31 + p - 31 = p by omega]
  have e7 : ∀ p i : Int, 0 ≤ p → p < n → 0 ≤ i → i < 6 → cpS s n.toNat 77 (6 * (31 + p) + i) = s 77 (6 * p + i) := fun p i p0 p1 i0 i1 => by rw [c7, if_pos (by omega), show 6 * (31 + p) + i - 186 = 6 * p + i by omega]
  refine ⟨fun a ha => ?_, fun p p0 p1 => Or.inl ⟨?_, fun i i0 i1 => ?_⟩⟩
  · rcases ha with ha | ha | ha
    · exact lo a (by omega) (np a ha.1 ha.2)
    · have := nm (a - 20) (by omega) (by omega)
      rw [show 20 + (a - 20) = a by omega] at this
      exact lo a (by omega) this
    · have nb := np (a - 31) (by omega) (by omega)
      have b := nb.1
      have f6 := e6 (a - 31) (by omega) (by omega)
      rw [show 31 + (a - 31) = a by omega] at f6
      refine ⟨by rw [f6]; exact nb.1, fun i i0 i1 => ?_⟩
      rw [f6] at i1
      have f7 := e7 (a - 31) i (by omega) (by omega) i0 (by omega)
      rw [show 31 + (a - 31) = a by omega] at f7
      rw [f7]
      exact nb.2 i i0 i1
  · rw [e6 p p0 p1, c6, if_neg (by omega)]
  · have b := (np p p0 p1).1
    rw [c6, if_neg (by omega)] at i1
    rw [e7 p i p0 p1 i0 (by omega), c7, if_neg (by omega)]
set_option maxHeartbeats 8000000 in
theorem t_X12_rests {u s : Sto} {od : Int → Int} {g n : Int} (hL : LM u s od) (hn : s 75 4 = n) (hg : s 75 8 = g ∧ 0 ≤ g ∧ g ≤ 10) (hM : ∀ i : Int, 0 ≤ i → i < g → nmB s (20 + i)) : ClV LY 9 MX12_rests [.inr 75] s (fun s' => RestR (cpS s n.toNat) od g n (s' 75 53) (s' 75 54) (s' 75 55) ∧ FR s s' ∧ (∀ j : Int, 0 ≤ j → j < 31 → s' 76 j = s 76 j) ∧ ∀ j : Int, 0 ≤ j → j < 186 → s' 77 j = s 77 j) := by
  have hb := hL.2.1.1
  have n1 := (hL.1.nms).1
  rw [hn] at n1
  have np : ∀ p : Int, 0 ≤ p → p < n → nmB s p := fun p p0 p1 => hL.1.2.2.2.2.2.2.2 p p0 (by omega)
  have nk0 := cpS_NK n1 hg.2 np hM
  have c6 := cpS_76 s n.toNat (by omega)
  have c7 := cpS_77 s n.toNat (by omega)
  refine ClV.intro (by decide) rfl (Nat.le_of_ble_eq_true rfl) (fun X C r => ?_)
  refine kb_X12_rests_0 C r ?_
  rintro s1 h1 s2 h2 s0 h0
  have es : ∀ c : Nat, c ≠ 75 → s0 c = s c := fun c hc => by rw [h0, up_row hc, h2, up_row hc, h1, up_row hc]
  have es5 : ∀ i : Int, i ≠ 53 → i ≠ 54 → i ≠ 55 → s0 75 i = s 75 i := fun i i1 i2 i3 => by rw [h0, up_idx i3, h2, up_idx i2, h1, up_idx i1]
  have v53 : s0 75 53 = -1 ∧ s0 75 54 = 0 ∧ s0 75 55 = 0 := by
    rw [h0, up_idx (by decide), up_idx (by decide), up_at, h2, up_idx (by decide), up_at, h1, up_at]
    exact ⟨rfl, rfl, rfl⟩
  have sm0 : samN s s0 := ⟨fun c c1 c2 c3 c4 c5 => es c (by omega), es5 4 (by decide) (by decide) (by decide), es5 9 (by decide) (by decide) (by decide), es5 30 (by decide) (by decide) (by decide)⟩
  have lm0 : LM u s0 od := hL.congr sm0 (es5 22 (by decide) (by decide) (by decide)) (es 81 (by decide)) (fun c c1 c2 => es c (by omega))
  have fr0 : FR s s0 := Or.inl (fun c i hc => by
    by_cases q : c = 75
    · subst q; exact es5 i (by unfold okC at hc; omega) (by unfold okC at hc; omega) (by unfold okC at hc; omega)
    · rw [es c q])
  -- the end: NAMES back
  have fin : ∀ (S : Sto) (k : Nat), FR s S → samN (stS (cpS s n.toNat) od g n k) S → RestR (cpS s n.toNat) od g n (S 75 53) (S 75 54) (S 75 55) → G LY X 150 [rv 75, iv 0, none, none] [] S := by
    intro S k f1 f2 f3
    have rx := stS_rx (cpS s n.toNat) od g n1.1 k
    have e76 := f2.1 76 (by decide) (by decide) (by decide) (by decide) (by decide)
    have e77 := f2.1 77 (by decide) (by decide) (by decide) (by decide) (by decide)
    have S4 : S 75 4 = n := by rw [f1.at75 (by decide), hn]
    have key : ∀ S' : Sto, S' = rsS S (0 : Int).toNat → G LY X 150 [rv 75, iv 0, none, none] [] S' := by
      refine downI (P := fun p => ∀ S' : Sto, S' = rsS S p.toNat → G LY X 150 [rv 75, iv p, none, none] [] S') (a := 0) (b := n) n1.1 ?_ ?_
      · rintro S' rfl
        have r75 := rsS_o S (c := 75) (by decide) (by decide) n.toNat
        refine kb_X12_rests_150 C r ?_
        rw [r75, S4]
        refine ⟨⟨⟨by omega, by omega⟩, ⟨by omega, by omega⟩⟩, fun _ => ⟨f3, f1.trans hb (Or.inl (fun c i hc => by rw [rsS_o S (by unfold okC at hc; omega) (by unfold okC at hc; omega)])), fun j j0 j1 => ?_, fun j j0 j1 => ?_⟩, fun z => absurd z (by omega)⟩
        · rw [rsS_76 S n.toNat (by omega), e76]
          by_cases q : 0 ≤ j ∧ j < (n.toNat : Int)
          · rw [if_pos q, (rx (31 + j) (by omega)).1, c6, if_pos (by omega), show 31 + j - 31 = j by omega]
          · rw [if_neg q, (rx j (by omega)).1, c6, if_neg (by omega)]
        · rw [rsS_77 S n.toNat (by omega), e77]
          by_cases q : 0 ≤ j ∧ j < 6 * (n.toNat : Int)
          · have := (rx (31 + j / 6) (by omega)).2 (j % 6) (by omega) (by omega)
            rw [show 6 * (31 + j / 6) + j % 6 = 186 + j by omega] at this
            rw [if_pos q, this, c7, if_pos (by omega), show 186 + j - 186 = j by omega]
          · have := (rx (j / 6) (by omega)).2 (j % 6) (by omega) (by omega)
            rw [show 6 * (j / 6) + j % 6 = j by omega] at this
            rw [if_neg q, this, c7, if_neg (by omega)]
      · intro p p0 p1 ih S' hS'
        have r75 := rsS_o S (c := 75) (by decide) (by decide) p.toNat
        refine kb_X12_rests_150 C r ?_
        rw [hS', r75, S4]
        refine ⟨⟨⟨by omega, by omega⟩, ⟨by omega, by omega⟩⟩, fun z => absurd z (by omega), fun _ => ⟨0, _, by decide, t_X12_movesName (by omega) (by omega) (by omega), ?_⟩⟩
        rintro y hy
        refine ih y ?_
        rw [rsS_s S p0]
        exact hy
    exact key S rfl
  -- the loop's end
  have leave : ∀ (S : Sto) (k : Int), (0 ≤ k ∧ k ≤ 40) → rg (S 75 53) → rg (S 75 54) → (S 75 53 ≠ -1 ∨ S 75 54 ≠ 0) → G LY X 150 [rv 75, iv 0, none, none] [] S → G LY X 47 [rv 75, iv k, none, none] [] S := by
    intro S k hk r1 r2 hq gg
    exact kb_X12_rests_47 C r ⟨⟨by omega, by omega⟩, fun _ => gg, fun _ => ⟨r1, fun _ => gg, fun z => ⟨r2, fun _ => gg, fun z2 => by rcases hq with q | q; exact absurd z q; exact absurd z2 q⟩⟩⟩
  generalize hT : cpS s n.toNat = t at *
  have t4 : t 75 4 = n := by rw [← hT, cpS_o s (by decide) (by decide), hn]
  -- LM of what is kept aside
  have lrt : LR u t od := by
    rw [← hT]
    have : ∀ k : Nat, (k : Int) ≤ n → LR u (cpS s k) od := by
      intro k
      induction k with
      | zero => intro _; exact hL.1
      | succ k ih =>
        intro hk
        have l := ih (by omega)
        exact l.mv (l.2.2.2.2.2.2.2 k (by omega) (by rw [cpS_o s (by decide) (by decide), hn]; omega))
    exact this n.toNat (by omega)
  have nst := NK.st nk0 lrt t4 hg.2 n1.1
  -- round by round
  have main : ∀ S : Sto, ((LM u S od ∧ samN (stS t od g n 0) S ∧ FR s S) ∧ (S 75 53 = -1 ∧ S 75 54 = 0 ∧ S 75 55 = taS t od g n 0) ∧ (∀ b : Nat, b ≤ 0 → ∀ p : Int, 0 ≤ p → p < n → KdR (stS t od g n b) g p (S 107 (20 * b + p))) ∧ goK t od g n 0) → G LY X 47 [rv 75, iv ((0 : Nat) : Int), none, none] [] S := by
    refine down (P := fun k => ∀ S : Sto, ((LM u S od ∧ samN (stS t od g n k) S ∧ FR s S) ∧ (S 75 53 = -1 ∧ S 75 54 = 0 ∧ S 75 55 = taS t od g n k) ∧ (∀ b : Nat, b ≤ k → ∀ p : Int, 0 ≤ p → p < n → KdR (stS t od g n b) g p (S 107 (20 * b + p))) ∧ goK t od g n k) → G LY X 47 [rv 75, iv ((k : Nat) : Int), none, none] [] S) (N := 40) ?_ ?_
    · rintro S ⟨⟨k1, k2, k3⟩, k4, k5, k6⟩
      refine kb_X12_rests_47 C r ⟨by decide, fun _ => fin S 40 k3 k2 (Or.inr (Or.inr ⟨k6, k4.1, k4.2.1, k4.2.2⟩)), fun z => absurd z (by decide)⟩
    · rintro k hk ih S ⟨⟨k1, k2, k3⟩, k4, k5, k6⟩
      obtain ⟨nk, lrk, t4k⟩ := nst k
      obtain ⟨nk', lrk', t4k'⟩ := nst (k + 1)
      have bt := taS_bd t od g n n1 k
      have br := rnN_bd (stS t od g n k) od g n.toNat
      refine kb_X12_rests_47 C r ⟨⟨by omega, by omega⟩, fun z => absurd z (by omega), fun _ => ?_⟩
      rw [k4.1, k4.2.1]
      refine ⟨by decide, fun z => absurd rfl z, fun _ => ⟨by decide, fun z => absurd rfl z, fun _ => ⟨8, _, by decide, t_X12_rounds (t := stS t od g n k) (g := g) k1 k2 (by rw [k3.at75 (by decide)]; exact hg) (fun i i0 i1 => nk.1 (20 + i) (by omega)), ?_⟩⟩⟩
      rw [t4k]
      rintro N a ⟨a1, a2, a3, a4, a5⟩
      have a3' : samN (stS t od g n (k + 1)) a := a3
      rintro b hb'
      have eb : ∀ c : Nat, c ≠ 75 → b c = a c := fun c hc => by rw [hb', up_row hc]
      have eb5 : ∀ i : Int, i ≠ 55 → b 75 i = a 75 i := fun i hi => by rw [hb', up_idx hi]
      have b55 : b 75 55 = taS t od g n (k + 1) := by
        rw [hb', up_at, a5.2 55 (by omega), k4.2.2, a1]
        rfl
      have sab : samN a b := ⟨fun c c1 c2 c3 c4 c5 => eb c (by omega), eb5 4 (by decide), eb5 9 (by decide), eb5 30 (by decide)⟩
      have kb : LM u b od ∧ samN (stS t od g n (k + 1)) b ∧ FR s b := ⟨a2.congr sab (eb5 22 (by decide)) (eb 81 (by decide)) (fun c c1 c2 => eb c (by omega)), a3'.trans sab, (k3.trans hb a4).trans hb (Or.inl (fun c i hc => by
        by_cases q : c = 75
        · subst q; exact eb5 i (by unfold okC at hc; omega)
        · rw [eb c q]))⟩
      have b107 : b 107 = S 107 := by rw [eb 107 (by decide), a5.1]
      have b53 : b 75 53 = -1 ∧ b 75 54 = 0 := by
        rw [eb5 53 (by decide), eb5 54 (by decide), a5.2 53 (by omega), a5.2 54 (by omega)]
        exact ⟨k4.1, k4.2.1⟩
      -- what notes() does
      have nts : ∀ S : Sto, (LM u S od ∧ samN (stS t od g n (k + 1)) S ∧ FR s S) → ClV LY 2 MX12_notes [.inr 75, .inl ((k : Int) + 1)] S (fun s' => (∀ c : Nat, c ≠ 107 → s' c = S c) ∧ (∀ p : Int, 0 ≤ p → p < n → KdR (stS t od g n (k + 1)) g p (s' 107 (20 * ((k : Int) + 1) + p))) ∧ ∀ i : Int, ¬ (20 * ((k : Int) + 1) ≤ i ∧ i < 20 * ((k : Int) + 1) + n) → s' 107 i = S 107 i) := by
        rintro S ⟨m1, m2, m3⟩
        have S4 : S 75 4 = n := by rw [m3.at75 (by decide), hn]
        have e76 := m2.1 76 (by decide) (by decide) (by decide) (by decide) (by decide)
        have e77 := m2.1 77 (by decide) (by decide) (by decide) (by decide) (by decide)
        have nb : ∀ a : Int, (0 ≤ a ∧ a < n) ∨ (20 ≤ a ∧ a < 20 + g) ∨ (31 ≤ a ∧ a < 31 + n) → nmB S a := fun a ha => (nk'.1 a ha).congr e76 e77
        refine (t_X12_notes (v := (k : Int) + 1) (g := g) (s := S) (by omega) (by rw [S4]; exact n1) hg.2 (fun p p0 p1 => ⟨nb p (by omega), nb (31 + p) (by omega)⟩) (fun i i0 i1 => nb (20 + i) (by omega)) (fun p p0 p1 => ?_)).mono ?_
        · have := nk'.2 p p0 (by omega)
          unfold lkR at *
          rw [e76, e77]
          exact this
        · rw [S4]
          rintro s' ⟨q1, q2, q3⟩
          exact ⟨q1, fun p p0 p1 => (q2 p p0 p1).congr e76.symm e77.symm, q3⟩
      have rows : ∀ x : Sto, (∀ p : Int, 0 ≤ p → p < n → KdR (stS t od g n (k + 1)) g p (x 107 (20 * ((k : Int) + 1) + p))) → (∀ i : Int, ¬ (20 * ((k : Int) + 1) ≤ i ∧ i < 20 * ((k : Int) + 1) + n) → x 107 i = S 107 i) → ∀ b : Nat, b ≤ k + 1 → ∀ p : Int, 0 ≤ p → p < n → KdR (stS t od g n b) g p (x 107 (20 * b + p)) := by
        intro x x1 x2 b hb p p0 p1
        by_cases q : b = k + 1
        · subst q
          have := x1 p p0 p1
          rw [show ((k + 1 : Nat) : Int) = (k : Int) + 1 by omega]
          exact this
        · rw [x2 _ (by omega)]
          exact k5 b (by omega) p p0 p1
      refine ⟨⟨by omega, by omega⟩, fun z => ⟨2, _, by decide, nts b kb, ?_⟩, fun z => ?_⟩
      · -- some took a NAME
        rintro x ⟨x1, x2, x3⟩
        have x5 := x1 75 (by decide)
        have sbx : samN b x := ⟨fun c c1 c2 c3 c4 c5 => x1 c (by omega), by rw [x5], by rw [x5], by rw [x5]⟩
        have kx : LM u x od ∧ samN (stS t od g n (k + 1)) x ∧ FR s x := ⟨kb.1.congr sbx (by rw [x5]) (x1 81 (by decide)) (fun c c1 c2 => x1 c (by omega)), kb.2.1.trans sbx, kb.2.2.trans hb (Or.inl (fun c i hc => by rw [x1 c (by unfold okC at hc; omega)]))⟩
        have rw' := rows x x2 (fun i hi => by rw [x3 i hi, b107])
        have X4 : x 75 4 = n := by rw [kx.2.2.at75 (by decide), hn]
        have x53 : x 75 53 = -1 ∧ x 75 54 = 0 ∧ x 75 55 = taS t od g n (k + 1) := by rw [x5]; exact ⟨b53.1, b53.2, b55⟩
        have nz : rnN (stS t od g n k) od g n.toNat ≠ 0 := by rw [← a1]; exact z
        have npos : 0 < N := by omega
        have sm : ∀ b : Nat, b ≤ k → ((∀ p : Int, 0 ≤ p → p < n → x 107 (20 * b + p) = x 107 (20 * ((k : Int) + 1) + p)) ↔ smP (stS t od g n b) (stS t od g n (k + 1)) n) := by
          intro b hb
          have rs : rwS (stS t od g n b) (stS t od g n (k + 1)) := ((stS_rx t od g n1.1 b).toS n1.2).symm.trans ((stS_rx t od g n1.1 (k + 1)).toS n1.2)
          have each : ∀ p : Int, 0 ≤ p → p < n → (x 107 (20 * b + p) = x 107 (20 * ((k : Int) + 1) + p) ↔ lkR (stS t od g n b) p (stS t od g n (k + 1)) p) := fun p p0 p1 => KdR.lk rs p0 ((nst b).1.1 (31 + p) (by omega)) (fun i i0 i1 => (nst b).1.1 (20 + i) (by omega)) (rw' b (by omega) p p0 p1) (x2 p p0 p1)
          exact ⟨fun q p p0 p1 => (each p p0 p1).mp (q p p0 p1), fun q p p0 p1 => (each p p0 p1).mpr (q p p0 p1)⟩
        -- back over the rounds before
        have back : ∀ j : Int, -1 ≤ j → (j ≤ k → (∀ b : Nat, j < b → b ≤ k → ¬ smP (stS t od g n b) (stS t od g n (k + 1)) n) → G LY X 101 [rv 75, iv (k : Int), iv N, iv j] [] x) := by
          refine risI (P := fun j => j ≤ k → (∀ b : Nat, j < b → b ≤ k → ¬ smP (stS t od g n b) (stS t od g n (k + 1)) n) → G LY X 101 [rv 75, iv (k : Int), iv N, iv j] [] x) ?_ ?_
          · intro _ H
            have nx : G LY X 47 [rv 75, iv ((k : Int) + 1), none, none] [] x := by
              have := ih x ⟨kx, x53, rw', fun r' hr' => ?_⟩
              · rw [show ((k + 1 : Nat) : Int) = (k : Int) + 1 by omega] at this
                exact this
              · by_cases q : r' = k
                · subst q
                  exact ⟨nz, fun b hb => H b (by omega) hb⟩
                · exact k6 r' (by omega)
            exact kb_X12_rests_101 C r ⟨by decide, fun _ => nx, fun z => absurd z (by decide)⟩
          · intro j0 jj ih2 j1 H
            generalize hJ : j0 + 1 = j at *
            obtain ⟨J, rfl⟩ := Int.eq_ofNat_of_zero_le (show 0 ≤ j by omega)
            have s1' := sm J (by omega)
            refine kb_X12_rests_101 C r ⟨⟨by omega, by omega⟩, fun z => absurd z (by omega), fun _ => ⟨⟨by omega, by omega⟩, fun z => absurd z (by omega), fun _ => ?_⟩⟩
            rw [x53.2.1]
            refine ⟨by decide, fun z => absurd rfl z, fun _ => ⟨0, _, by decide, t_X12_areNames (a := (J : Int)) (b := (k : Int) + 1) (by omega) (by omega) (by rw [X4]; exact n1) (fun p p0 p1 => ?_), ?_⟩⟩
            · have e1 := (rw' J (by omega) p p0 (by omega)).bd
              have e2 := (x2 p p0 (by omega)).bd
              exact ⟨⟨by omega, by omega⟩, ⟨by omega, by omega⟩⟩
            · rw [X4]
              rintro q y ⟨hy, q1, q2⟩
              rw [hy]
              refine ⟨⟨by omega, by omega⟩, fun z => ?_, fun z => ?_⟩
              · rw [show (J : Int) + (-1) = j0 by omega]
                refine ih2 (by omega) (fun b b0 b1 => ?_)
                by_cases e : b = J
                · rw [e]; exact fun w => by have := q2.mpr (s1'.mpr w); omega
                · exact H b (by omega) b1
              · rintro w hw
                have w5 : ∀ i : Int, i ≠ 54 → w 75 i = x 75 i := fun i hi => by rw [hw, up_idx hi]
                have w54 : w 75 54 = (k : Int) + 1 - J := by rw [hw, up_at]
                have ew : ∀ c : Nat, c ≠ 75 → w c = x c := fun c hc => by rw [hw, up_row hc]
                have sxw : samN x w := ⟨fun c c1 c2 c3 c4 c5 => ew c (by omega), w5 4 (by decide), w5 9 (by decide), w5 30 (by decide)⟩
                have e55 := w5 55 (by decide)
                have e53 := w5 53 (by decide)
                have fw : FR s w := kx.2.2.trans hb (Or.inl (fun c i hc => by
                  by_cases q : c = 75
                  · subst q; exact w5 i (by unfold okC at hc; omega)
                  · rw [ew c q]))
                have gg := fin w (k + 1) fw (kx.2.1.trans sxw) (Or.inr (Or.inl ⟨k, J, hk, k6, nz, by omega, s1'.mp (q2.mp (by omega)), fun b' c1 c2 => H b' (by omega) c2, by rw [e53, x53.1], w54, by rw [e55, x53.2.2]⟩))
                have lv := leave w ((k : Int) + 1) (by omega) (by rw [e53, x53.1]; decide) (by rw [w54]; exact ⟨by omega, by omega⟩) (Or.inr (by rw [w54]; omega)) gg
                refine kb_X12_rests_101 C r ⟨⟨by omega, by omega⟩, fun _ => lv, fun _ => ⟨⟨by omega, by omega⟩, fun _ => lv, fun _ => ?_⟩⟩
                rw [w54]
                exact ⟨⟨by omega, by omega⟩, fun _ => lv, fun z => absurd z (by omega)⟩
        exact back k (by omega) (Int.le_refl _) (fun b b0 b1 => absurd b0 (by omega))
      · -- nobody would
        rintro w hw
        have w5 : ∀ i : Int, i ≠ 53 → w 75 i = b 75 i := fun i hi => by rw [hw, up_idx hi]
        have w53 : w 75 53 = (k : Int) := by rw [hw, up_at]
        have ew : ∀ c : Nat, c ≠ 75 → w c = b c := fun c hc => by rw [hw, up_row hc]
        have sbw : samN b w := ⟨fun c c1 c2 c3 c4 c5 => ew c (by omega), w5 4 (by decide), w5 9 (by decide), w5 30 (by decide)⟩
        have kw : LM u w od ∧ samN (stS t od g n (k + 1)) w ∧ FR s w := ⟨kb.1.congr sbw (w5 22 (by decide)) (ew 81 (by decide)) (fun c c1 c2 => ew c (by omega)), kb.2.1.trans sbw, kb.2.2.trans hb (Or.inl (fun c i hc => by
          by_cases q : c = 75
          · subst q; exact w5 i (by unfold okC at hc; omega)
          · rw [ew c q]))⟩
        refine ⟨2, _, by decide, nts w kw, ?_⟩
        rintro x ⟨x1, x2, x3⟩
        have x5 := x1 75 (by decide)
        have sbx : samN w x := ⟨fun c c1 c2 c3 c4 c5 => x1 c (by omega), by rw [x5], by rw [x5], by rw [x5]⟩
        have fx : FR s x := kw.2.2.trans hb (Or.inl (fun c i hc => by rw [x1 c (by unfold okC at hc; omega)]))
        have e53 : x 75 53 = (k : Int) ∧ x 75 54 = 0 ∧ x 75 55 = taS t od g n (k + 1) := by
          rw [x5, w53, w5 54 (by decide), w5 55 (by decide)]
          exact ⟨rfl, b53.2, b55⟩
        have gg := fin x (k + 1) fx (kw.2.1.trans sbx) (Or.inl ⟨k, hk, k6, by rw [← a1]; exact z, e53.1, e53.2.1, e53.2.2⟩)
        have lv := leave x ((k : Int) + 1) (by omega) (by rw [e53.1]; exact ⟨by omega, by omega⟩) (by rw [e53.2.1]; decide) (Or.inl (by rw [e53.1]; omega)) gg
        rw [z]
        exact kb_X12_rests_101 C r ⟨⟨by omega, by omega⟩, fun _ => lv, fun _ => ⟨by decide, fun _ => lv, fun z => absurd z (by decide)⟩⟩
  -- kept aside, one by one
  have lmk : ∀ k : Nat, (k : Int) ≤ n → LM u (cpS s0 k) od := by
    intro k
    induction k with
    | zero => intro _; exact lm0
    | succ k ih =>
      intro hk
      have l := ih (by omega)
      exact l.mv (l.1.2.2.2.2.2.2.2 k (by omega) (by rw [cpS_o s0 (by decide) (by decide), sm0.2.1, hn]; omega))
  have copy : ∀ S' : Sto, S' = cpS s0 (0 : Int).toNat → G LY X 17 [rv 75, iv 0, none, none] [] S' := by
    refine downI (P := fun p => ∀ S' : Sto, S' = cpS s0 p.toNat → G LY X 17 [rv 75, iv p, none, none] [] S') (a := 0) (b := n) n1.1 ?_ ?_
    · rintro S' hS'
      have r75 := cpS_o s0 (c := 75) (by decide) (by decide) n.toNat
      have smt : samN t (cpS s0 n.toNat) := by rw [← hT]; exact cpS_sam sm0 _
      have e76 := smt.1 76 (by decide) (by decide) (by decide) (by decide) (by decide)
      have e77 := smt.1 77 (by decide) (by decide) (by decide) (by decide) (by decide)
      have nb : ∀ a : Int, (0 ≤ a ∧ a < n) ∨ (20 ≤ a ∧ a < 20 + g) ∨ (31 ≤ a ∧ a < 31 + n) → nmB (cpS s0 n.toNat) a := fun a ha => (nk0.1 a ha).congr e76 e77
      have S4 : cpS s0 n.toNat 75 4 = n := by rw [r75, sm0.2.1, hn]
      have lmn := lmk n.toNat (by omega)
      have frn : FR s (cpS s0 n.toNat) := fr0.trans hb (Or.inl (fun c i hc => by rw [cpS_o s0 (by unfold okC at hc; omega) (by unfold okC at hc; omega)]))
      refine kb_X12_rests_17 C r ?_
      rw [hS', S4]
      refine ⟨⟨⟨by omega, by omega⟩, ⟨by omega, by omega⟩⟩, fun _ => ⟨2, _, by decide, t_X12_notes (g := g) (by decide) (by rw [S4]; exact n1) hg.2 (fun p p0 p1 => ⟨nb p (by omega), nb (31 + p) (by omega)⟩) (fun i i0 i1 => nb (20 + i) (by omega)) (fun p p0 p1 => ?_), ?_⟩, fun z => absurd z (by omega)⟩
      · have := nk0.2 p p0 (by omega)
        unfold lkR at *
        rw [e76, e77]
        exact this
      · rw [S4]
        rintro x ⟨x1, x2, x3⟩
        have x5 := x1 75 (by decide)
        have sbx : samN (cpS s0 n.toNat) x := ⟨fun c c1 c2 c3 c4 c5 => x1 c (by omega), by rw [x5], by rw [x5], by rw [x5]⟩
        refine main x ⟨⟨lmn.congr sbx (by rw [x5]) (x1 81 (by decide)) (fun c c1 c2 => x1 c (by omega)), smt.trans sbx, frn.trans hb (Or.inl (fun c i hc => by rw [x1 c (by unfold okC at hc; omega)]))⟩, by rw [x5, r75]; exact v53, fun b hb' p p0 p1 => ?_, fun r' hr' => absurd hr' (by omega)⟩
        obtain rfl : b = 0 := by omega
        exact (x2 p p0 p1).congr e76.symm e77.symm
    · intro p p0 p1 ih S' hS'
      have r75 := cpS_o s0 (c := 75) (by decide) (by decide) p.toNat
      refine kb_X12_rests_17 C r ?_
      rw [hS', r75, sm0.2.1, hn]
      refine ⟨⟨⟨by omega, by omega⟩, ⟨by omega, by omega⟩⟩, fun z => absurd z (by omega), fun _ => ⟨0, _, by decide, t_X12_movesName (by omega) (by omega) (by omega), ?_⟩⟩
      rintro y hy
      refine ih y ?_
      rw [cpS_s s0 p0]
      exact hy
  exact copy s0 rfl
