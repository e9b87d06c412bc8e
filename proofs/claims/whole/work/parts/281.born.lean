/-! BORN ANEW -/
def MY (u S T : Sto) (n g k : Int) : Prop := ((∀ c : Nat, c ≠ 3 → c ≠ 6 → c ≠ 8 → S c = u c) ∧ ∀ i : Int, i ≠ 1 → S 3 i = u 3 i) ∧ (S 3 1 = T 75 1 ∧ rg (T 75 1)) ∧ (∀ p : Int, 0 ≤ p → p < n → NmR (S 6 p) (T 76 p) (fun i => T 77 (6 * p + i))) ∧ (∀ i : Int, 0 ≤ i → i < g → NmR (u 13 i) (T 76 (20 + i)) (fun j => T 77 (6 * (20 + i) + j))) ∧ (∀ p : Int, 0 ≤ p → p < n → S 8 p = T 79 p ∧ 0 ≤ T 79 p ∧ T 79 p ≤ 100 ∧ (p < k → T 79 p ≤ 99)) ∧ (T 75 8 = g ∧ u 3 9 = g ∧ 0 ≤ g ∧ g ≤ 10) ∧ u 5 0 = n ∧ 0 ≤ n ∧ n ≤ 20
theorem MY.skip {u S T : Sto} {n g k : Int} (h : MY u S T n g k) (hk : 0 ≤ k) (q : T 79 k ≤ 99) : MY u S (bnS T k) n g (k + 1) := by
  have e : bnS T k = T := by unfold bnS; rw [if_neg (by omega)]
  rw [e]
  obtain ⟨h1, h2, h3, h4, h5, h6⟩ := h
  refine ⟨h1, h2, h3, h4, fun p p0 p1 => ?_, h6⟩
  obtain ⟨a, b, c, d⟩ := h5 p p0 p1
  refine ⟨a, b, c, fun z => ?_⟩
  by_cases z2 : p = k
  · rw [z2]; exact q
  · exact d (by omega)
set_option maxHeartbeats 4000000 in
theorem t_X11_beBornAnew {u S T : Sto} {n g p : Int} (h : MY u S T n g p) (hp : 0 ≤ p ∧ p < n) (q : 99 < T 79 p) : ClV LY 1 MX11_beBornAnew [.inr 0, .inl p] S (fun s' => MY u s' (bnS T p) n g (p + 1)) := by
  obtain ⟨⟨h1, h1'⟩, h2, h3, h4, h5, h6, h7, h8⟩ := h
  refine ClV.intro (by decide) rfl (Nat.le_of_ble_eq_true rfl) (fun X C r => ?_)
  refine kb_X11_beBornAnew_0 C r ⟨⟨by omega, by omega⟩, ?_⟩
  rintro s1 hs1
  have s13 : s1 3 = S 3 := by rw [hs1, up_row (by decide)]
  have s139 : s1 3 9 = g := by rw [s13, h1' 9 (by decide), h6.2.1]
  have ages : ∀ x : Int, 0 ≤ x → x < n → s1 8 x = up T 79 p 0 79 x ∧ 0 ≤ up T 79 p 0 79 x ∧ up T 79 p 0 79 x ≤ 100 ∧ (x < p + 1 → up T 79 p 0 79 x ≤ 99) := fun x x0 x1 => by
    rw [hs1, up_if, up_if]
    by_cases e : x = p
    · rw [if_pos e, if_pos e]; omega
    · rw [if_neg e, if_neg e]
      obtain ⟨a, b, c, d⟩ := h5 x x0 x1
      exact ⟨a, b, c, fun z => d (by omega)⟩
  rw [s139]
  refine ⟨⟨by omega, by omega⟩, fun z => ?_, fun z => ⟨0, _, by decide, t_X2_draw ⟨z, by omega⟩, ?_⟩⟩
  · have e : bnS T p = up T 79 p 0 := by unfold bnS; rw [if_pos q, if_neg (by omega)]
    rw [e]
    have e75 : up T 79 p 0 75 = T 75 := up_row (by decide)
    have e76 : up T 79 p 0 76 = T 76 := up_row (by decide)
    have e77 : up T 79 p 0 77 = T 77 := up_row (by decide)
    refine ⟨⟨fun c c1 c2 c3 => by rw [hs1, up_row c3, h1 c c1 c2 c3], fun i hi => by rw [s13, h1' i hi]⟩, by rw [s13, e75]; exact h2, fun x x0 x1 => ?_, by rw [e76, e77]; exact h4, ages, by rw [e75]; exact h6, h7, h8⟩
    rw [hs1, up_row (by decide), e76, e77]
    exact h3 x x0 x1
  · rintro v s2 ⟨hs2, hv⟩
    rw [s13, h2.1] at hs2 hv
    have vb := drV_bd (x := T 75 1) (g := g) ⟨z, by omega⟩
    rw [← hv] at vb
    have s2c : ∀ c : Nat, c ≠ 3 → s2 c = s1 c := fun c hc => by rw [hs2, up_row hc]
    refine ⟨⟨by omega, by omega⟩, ⟨by omega, by omega⟩, ?_⟩
    have s213 : s2 13 = u 13 := by rw [s2c 13 (by decide), hs1, up_row (by decide), h1 13 (by decide) (by decide) (by decide)]
    rw [s213]
    rintro s3 hs3
    have e : bnS T p = mvN (up (up T 79 p 0) 75 1 (drX (T 75 1))) (20 + v) p := by
      unfold bnS
      rw [if_pos q, if_pos (by omega), h6.1, hv]
    rw [e]
    obtain ⟨T2, hT2⟩ : ∃ T2 : Sto, T2 = up (up T 79 p 0) 75 1 (drX (T 75 1)) := ⟨_, rfl⟩
    rw [← hT2]
    have t76 : T2 76 = T 76 := by rw [hT2, up_row (by decide), up_row (by decide)]
    have t77 : T2 77 = T 77 := by rw [hT2, up_row (by decide), up_row (by decide)]
    have t79 : T2 79 = up T 79 p 0 79 := by rw [hT2, up_row (by decide)]
    have t75 : ∀ i : Int, T2 75 i = if i = 1 then drX (T 75 1) else T 75 i := fun i => by rw [hT2, up_if, up_row (by decide)]
    have m75 : mvN T2 (20 + v) p 75 = T2 75 := mvN_o (by decide) (by decide)
    have m79 : mvN T2 (20 + v) p 79 = T2 79 := mvN_o (by decide) (by decide)
    have N2 : ∀ x a : Int, NmR x (T 76 a) (fun i => T 77 (6 * a + i)) → NmR x (T2 76 a) (fun i => T2 77 (6 * a + i)) := fun x a hN => by rw [t76, t77]; exact hN
    refine ⟨⟨fun c c1 c2 c3 => by rw [hs3, up_row c2, s2c c c1, hs1, up_row c3, h1 c c1 c2 c3], fun i hi => by rw [hs3, up_row (by decide), hs2, up_idx hi, s13, h1' i hi]⟩, ⟨?_, ?_⟩, fun x x0 x1 => ?_, fun i i0 i1 => ?_, fun x x0 x1 => ?_, ?_, h7, h8⟩
    · rw [hs3, up_row (by decide), hs2, up_at, m75, t75, if_pos rfl]
    · rw [m75, t75, if_pos rfl]
      exact wr_rg _
    · rw [hs3, up_if]
      by_cases e2 : x = p
      · rw [if_pos e2, e2]
        exact (N2 _ _ (h4 v vb.1 vb.2)).mvP
      · rw [if_neg e2, s2c 6 (by decide), hs1, up_row (by decide)]
        exact (N2 _ _ (h3 x x0 x1)).mvO e2
    · exact (N2 _ _ (h4 i i0 i1)).mvO (by omega)
    · rw [hs3, up_row (by decide), s2c 8 (by decide), m79, t79]
      exact ages x x0 x1
    · rw [m75, t75, if_neg (by decide)]
      exact h6
theorem y92 {X : Cx} {d : Nat} {P : Sto → Prop} (C : Ok LY X RX11 cX11_passYear 2 d) (r : RetV LY X cX11_passYear P) (hd : 2 ≤ d) {u T : Sto} {n g : Int} (h : MY u u T n g 0) (cont : ∀ S : Sto, MY u S (bnA T n.toNat) n g n → ∀ s1 : Sto, s1 = up S 3 3 (S 3 3 + 1) → ((xrem (s1 3 3) 10 ≠ 0 → P s1) ∧ (xrem (s1 3 3) 10 = 0 → CallI LY d MX0_orderBy [.inr 59, .inr 3, .inl (s1 4 6)] s1 (fun r2 s2 => ∀ s3 : Sto, s3 = up s2 3 2 r2 → P s3)))) : G LY X 92 [rv 0, iv 0] [] u := by
  have n20 := h.2.2.2.2.2.2.2
  have rn : rg n := ⟨by omega, by omega⟩
  have key : ∀ S : Sto, MY u S (bnA T (0 : Int).toNat) n g 0 → G LY X 92 [rv 0, iv 0] [] S := by
    refine downI (P := fun k => ∀ S : Sto, MY u S (bnA T k.toNat) n g k → G LY X 92 [rv 0, iv k] [] S) (a := 0) (b := n) n20.1 ?_ ?_
    · intro S hS
      have s5 : S 5 0 = n := by rw [hS.1.1 5 (by decide) (by decide) (by decide), hS.2.2.2.2.2.2.1]
      refine kb_X11_passYear_92 C r ?_
      rw [s5]
      exact ⟨⟨rn, rn⟩, fun _ => cont S hS, fun z => absurd z (by omega)⟩
    · intro k k0 kn ih S hS
      have s5 : S 5 0 = n := by rw [hS.1.1 5 (by decide) (by decide) (by decide), hS.2.2.2.2.2.2.1]
      obtain ⟨a, b, c, _⟩ := hS.2.2.2.2.1 k k0 kn
      rw [bnA_s T k0] at ih
      refine kb_X11_passYear_92 C r ?_
      rw [s5, a]
      refine ⟨⟨⟨by omega, by omega⟩, rn⟩, fun z => absurd z (by omega), fun _ => ⟨⟨by omega, by omega⟩, ⟨by omega, by omega⟩, fun z => ih S (hS.skip k0 z), fun z => ⟨1, _, by omega, t_X11_beBornAnew hS ⟨k0, kn⟩ z, ?_⟩⟩⟩
      rintro y hy
      exact ih y hy
  exact key u h
