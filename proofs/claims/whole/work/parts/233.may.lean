/-! MAY, in the reference -/
theorem PlR.isPl {K o l : Int} {od pl : Int → Int} (hO : OdR K o od) (hP : PlR K od pl) (h0 : 0 ≤ l) (h1 : l < K) : isPl K od l (pl l) := by
  obtain ⟨i, i0, i1, i2⟩ := hO.onto h0 h1
  have e : pl l = i := by rw [← i2]; exact hP i i0 i1
  rw [e]
  exact ⟨i0, by omega, fun j j0 j1 z => by
    have := hO.2.2.1 j i j0 (by omega) i0 i1 (z.trans i2.symm)
    omega, fun _ => i2⟩
theorem isPl_out {K o l : Int} {od : Int → Int} (hO : OdR K o od) (h : K ≤ l) : isPl K od l K := ⟨by have := hO.1; omega, Int.le_refl _, fun j j0 j1 => by have := hO.2.1 j j0 j1; omega, fun z => absurd z (by omega)⟩
set_option maxHeartbeats 4000000 in
theorem t_X12_may {p a wo oo : Int} {s : Sto} (hb : s 75 22 = 0 ∨ s 75 22 = 1) (hO : OdR (s 75 9) oo (fun i => begS s 81 (8 * 0 + i))) (hp : 0 ≤ p ∧ p < 20) (ha : 0 ≤ a ∧ a < 51) (hna : (0 ≤ s 76 a ∧ s 76 a ≤ 6) ∧ ∀ i : Int, 0 ≤ i → i < s 76 a → 0 ≤ s 77 (6 * a + i) ∧ s 77 (6 * a + i) < 26) (hnp : (0 ≤ s 76 p ∧ s 76 p ≤ 6) ∧ ∀ i : Int, 0 ≤ i → i < s 76 p → 0 ≤ s 77 (6 * p + i) ∧ s 77 (6 * p + i) < 26) (e17 : s 17 0 = s 75 30) (hN : NamingR (s 17 0) (s 17 1) (s 18) (s 19) (s 20) (s 93) (s 94) (s 95) (s 96) (s 97)) (r1 : rg (s 79 p)) (r2 : rg (s 80 p)) (r3 : rg (s 78 p)) (r4 : rg wo) : ClI LY 2 MX12_may [.inr 75, .inl p, .inl a, .inl wo] s (fun r s' => (∀ c : Nat, c ≠ 99 → c ≠ 100 → c ≠ 101 → s' c = begS s c) ∧ (r = 0 ∨ r = 1) ∧ ∃ fa : Int → Int, FaR (s 75 9) (fun i => begS s 81 (8 * 0 + i)) (fun i => s 77 (6 * p + i)) (fun i => s 77 (6 * a + i)) (s 76 p) (s 76 a) (s 79 p) (s 80 p) (s 78 p) wo fa ∧ r = vdF (hdF fa (s 96) (s 97) (s 94) (s 95)) (s 93) (s 17 0) (s 17 0).toNat) := by
  refine ClI.introZ (by decide) rfl (Nat.le_of_ble_eq_true rfl) (fun X C r => ?_)
  obtain ⟨N1, N2, N3, N4, N5⟩ := hN
  refine kb_X12_may_0 C r ⟨1, _, by decide, t_X12_takesPlaces hb (by decide) hO, ?_⟩
  rintro u ⟨hu, hP⟩
  have hK := hO.1
  have eu : ∀ c : Nat, c ≠ 75 → c ≠ 81 → c ≠ 101 → u c = s c := fun c c1 c2 c3 => by rw [hu c c3, begS_row c1 c2]
  have u76 : u 76 = s 76 := eu 76 (by decide) (by decide) (by decide)
  have u77 : u 77 = s 77 := eu 77 (by decide) (by decide) (by decide)
  have u759 : u 75 9 = s 75 9 := by rw [hu 75 (by decide), begS_75 (by decide)]
  have u7530 : u 75 30 = s 17 0 := by rw [hu 75 (by decide), begS_75 (by decide), e17]
  generalize hod : (fun i => begS s 81 (8 * 0 + i)) = od at *
  -- the lines
  have lines : ∀ (x6 x7 : Int) (V : Sto), (∀ c : Nat, c ≠ 99 → V c = u c) → FaR (s 75 9) od (fun i => s 77 (6 * p + i)) (fun i => s 77 (6 * a + i)) (s 76 p) (s 76 a) (s 79 p) (s 80 p) (s 78 p) wo (V 99) → G LY X 351 [rv 75, iv p, iv a, iv wo, iv (s 76 a), iv (6 * a), iv x6, iv x7, iv 0, none] [] V := by
    intro x6 x7 V hV fa
    have rf := fa.rgs hK hna.1 r1 r2 r3 r4
    generalize hR : vdF (hdF (V 99) (s 96) (s 97) (s 94) (s 95)) (s 93) (s 17 0) (s 17 0).toNat = R
    suffices H : ∀ (S : Sto), (∀ c : Nat, c ≠ 100 → S c = V c) → vdF (hdF (V 99) (s 96) (s 97) (s 94) (s 95)) (s 93) (s 17 0) (s 17 0 - 0).toNat = R → G LY X 351 [rv 75, iv p, iv a, iv wo, iv (s 76 a), iv (6 * a), iv x6, iv x7, iv 0, none] [] S from H V (fun _ _ => rfl) (by rw [Int.sub_zero]; exact hR)
    have E : ∀ S : Sto, (∀ c : Nat, c ≠ 100 → S c = V c) → (∀ c : Nat, c ≠ 99 → c ≠ 100 → c ≠ 101 → S c = begS s c) ∧ S 75 30 = s 17 0 ∧ (∀ c : Nat, 93 ≤ c → c ≤ 97 → S c = s c) ∧ S 20 = s 20 := fun S hS => ⟨fun c c1 c2 c3 => by rw [hS c c2, hV c c1, hu c c3], by rw [hS 75 (by decide), hV 75 (by decide), u7530], fun c c1 c2 => by rw [hS c (by omega), hV c (by omega), eu c (by omega) (by omega) (by omega)], by rw [hS 20 (by decide), hV 20 (by decide), eu 20 (by decide) (by decide) (by decide)]⟩
    refine downI (P := fun l => ∀ (S : Sto), (∀ c : Nat, c ≠ 100 → S c = V c) → vdF (hdF (V 99) (s 96) (s 97) (s 94) (s 95)) (s 93) (s 17 0) (s 17 0 - l).toNat = R → G LY X 351 [rv 75, iv p, iv a, iv wo, iv (s 76 a), iv (6 * a), iv x6, iv x7, iv l, none] [] S) (a := 0) (b := s 17 0) N1.1 ?_ ?_
    · intro S hS hv
      obtain ⟨E1, E2, E3, E4⟩ := E S hS
      refine kb_X12_may_351 C r ⟨by rw [E2]; exact ⟨⟨by omega, by omega⟩, ⟨by omega, by omega⟩⟩, fun _ => ⟨E1, Or.inr rfl, V 99, fa, ?_⟩, fun z => absurd z (by rw [E2]; omega)⟩
      rw [hR, ← hv, Int.sub_self]
      rfl
    · intro l l0 l1 ih S hS hv
      obtain ⟨E1, E2, E3, E4⟩ := E S hS
      obtain ⟨g1, g2, g3, g4, g5, g6, g7⟩ := N5 l l0 l1
      rw [vdF_s _ _ l1] at hv
      refine kb_X12_may_351 C r ⟨by rw [E2]; exact ⟨⟨by omega, by omega⟩, ⟨by omega, by omega⟩⟩, fun z => absurd z (by rw [E2]; omega), fun _ => ⟨1, _, by decide, t_X12_isSo (a := s 94 l) (b := s 95 l) ⟨by omega, by omega⟩ (by rw [E3 94 (by decide) (by decide)]) (by rw [E3 95 (by decide) (by decide)]) ⟨by omega, by omega, by omega⟩ (fun i i0 i1 => by rw [E4, E3 96 (by decide) (by decide), E3 97 (by decide) (by decide)]; exact N3 i (by omega) (by omega)) (fun z => by rw [E3 96 (by decide) (by decide), E3 97 (by decide) (by decide)]; exact g7 z) (fun j j0 j1 => by rw [hS 99 (by decide)]; exact rf j j0 j1), ?_⟩⟩
      rintro h t ⟨k1, k2, k3, k4⟩
      have et : ∀ c : Nat, c ≠ 100 → t c = V c := fun c c1 => by rw [k1 c c1, hS c c1]
      obtain ⟨F1, F2, F3, F4⟩ := E t et
      rw [hS 99 (by decide), E3 96 (by decide) (by decide), E3 97 (by decide) (by decide)] at k4
      have hh : hdF (V 99) (s 96) (s 97) (s 94) (s 95) l = h := by
        unfold hdF
        by_cases z : s 94 l = s 95 l
        · rw [if_pos z, k3 z]
        · rw [if_neg z, k4 (by omega)]; rfl
      rw [hh] at hv
      refine ⟨⟨by omega, by omega⟩, fun w => ih t et (by rw [if_neg (by omega)] at hv; exact hv), fun w => ⟨⟨by omega, by omega⟩, ?_⟩⟩
      rw [if_pos (by omega)] at hv
      rw [F3 93 (by decide) (by decide)]
      exact ⟨⟨by omega, by omega⟩, fun z => ⟨F1, Or.inl rfl, V 99, fa, by rw [hR, ← hv]; omega⟩, fun z => ⟨F1, Or.inr rfl, V 99, fa, by rw [hR, ← hv]; omega⟩⟩
  -- letters abroad, a letter twice
  have seen : ∀ (x6 : Int) (V : Sto), (∀ c : Nat, c ≠ 99 → V c = u c) → V 99 0 = s 76 a → fsR (s 75 9) od (fun i => s 77 (6 * a + i)) (s 76 a) (V 99 1) (V 99 2) → CP (fun i => s 77 (6 * p + i)) (fun i => s 77 (6 * a + i)) (s 76 p) (s 76 a) (V 99 3) → V 99 4 = abN (s 75 9) (fun i => s 77 (6 * a + i)) (0 : Int).toNat → V 99 5 = twN (fun i => s 77 (6 * a + i)) (0 : Int).toNat → G LY X 226 [rv 75, iv p, iv a, iv wo, iv (s 76 a), iv (6 * a), iv x6, iv (snF (fun i => s 77 (6 * a + i)) (0 : Int).toNat), iv 0, none] [] V := by
    intro x6
    refine downI (P := fun k => ∀ (V : Sto), (∀ c : Nat, c ≠ 99 → V c = u c) → V 99 0 = s 76 a → fsR (s 75 9) od (fun i => s 77 (6 * a + i)) (s 76 a) (V 99 1) (V 99 2) → CP (fun i => s 77 (6 * p + i)) (fun i => s 77 (6 * a + i)) (s 76 p) (s 76 a) (V 99 3) → V 99 4 = abN (s 75 9) (fun i => s 77 (6 * a + i)) k.toNat → V 99 5 = twN (fun i => s 77 (6 * a + i)) k.toNat → G LY X 226 [rv 75, iv p, iv a, iv wo, iv (s 76 a), iv (6 * a), iv x6, iv (snF (fun i => s 77 (6 * a + i)) k.toNat), iv k, none] [] V) (a := 0) (b := s 76 a) hna.1.1 ?_ ?_
    · intro V hV f0 f1 f3 f4 f5
      refine kb_X12_may_226 C r ⟨⟨⟨by omega, by omega⟩, ⟨by omega, by omega⟩⟩, fun _ => ⟨hp, ?_⟩, fun z => absurd z (by omega)⟩
      rintro v1 rfl
      refine ⟨hp, ?_⟩
      rintro v2 rfl
      refine ⟨hp, ?_⟩
      rintro v3 rfl v4 hv4
      refine lines _ _ v4 (fun c c1 => by rw [hv4, up_row c1, up_row c1, up_row c1, up_row c1, hV c c1]) ?_
      rw [hv4]
      unfold FaR
      simp (disch := decide) only [up_idx, up_at, up_row]
      rw [hV 79 (by decide), hV 80 (by decide), hV 78 (by decide), eu 79 (by decide) (by decide) (by decide), eu 80 (by decide) (by decide) (by decide), eu 78 (by decide) (by decide) (by decide)]
      exact ⟨f0, f1, f3, f4, f5, rfl, rfl, rfl, trivial⟩
    · intro k k0 k1 ih V hV f0 f1 f3 f4 f5
      have q := hna.2 k k0 k1
      have ek : ((k.toNat : Nat) : Int) = k := by omega
      have e1 : abN (s 75 9) (fun i => s 77 (6 * a + i)) (k + 1).toNat = abN (s 75 9) (fun i => s 77 (6 * a + i)) k.toNat + if s 75 9 ≤ s 77 (6 * a + k) then 1 else 0 := by
        rw [show (k + 1).toNat = k.toNat + 1 by omega]
        show _ + (if s 75 9 ≤ s 77 (6 * a + ((k.toNat : Nat) : Int)) then (1 : Int) else 0) = _
        rw [ek]
      have e2 : snF (fun i => s 77 (6 * a + i)) (k + 1).toNat = xor_ (snF (fun i => s 77 (6 * a + i)) k.toNat) (xshl 1 (s 77 (6 * a + k))) := by
        rw [show (k + 1).toNat = k.toNat + 1 by omega]
        show xor_ _ (xshl 1 (s 77 (6 * a + ((k.toNat : Nat) : Int)))) = _
        rw [ek]
      have e3 : twN (fun i => s 77 (6 * a + i)) (k + 1).toNat = if xand (xshr (snF (fun i => s 77 (6 * a + i)) k.toNat) (s 77 (6 * a + k))) 1 = 1 then 1 else twN (fun i => s 77 (6 * a + i)) k.toNat := by
        rw [show (k + 1).toNat = k.toNat + 1 by omega]
        show (if xand (xshr _ (s 77 (6 * a + ((k.toNat : Nat) : Int)))) 1 = 1 then (1 : Int) else _) = _
        rw [ek]
      rw [e1, e2, e3] at ih
      refine kb_X12_may_226 C r ⟨⟨⟨by omega, by omega⟩, ⟨by omega, by omega⟩⟩, fun z => absurd z (by omega), fun _ => ⟨⟨by omega, by omega⟩, ?_⟩⟩
      rw [hV 77 (by decide), u77, hV 75 (by decide), u759]
      refine ⟨⟨⟨by omega, by omega⟩, ⟨by omega, by omega⟩⟩, fun z => ⟨fun y => ?_, fun y => ?_⟩, fun z => ?_⟩
      · rw [if_neg (by omega), Int.add_zero, if_neg y] at ih
        exact ih V hV f0 f1 f3 f4 f5
      · rintro t rfl
        rw [if_neg (by omega), Int.add_zero, if_pos y] at ih
        refine ih _ (fun c c1 => by rw [up_row c1, hV c c1]) ?_ ?_ ?_ ?_ ?_ <;> simp (disch := decide) only [up_idx, up_at] <;> assumption
      · rintro t rfl
        refine ⟨fun y => ?_, fun y => ?_⟩
        · rw [if_pos z, if_neg y] at ih
          refine ih _ (fun c c1 => by rw [up_row c1, hV c c1]) ?_ ?_ ?_ ?_ ?_ <;> simp (disch := decide) only [up_idx, up_at] <;> first | assumption | rw [f4]
        · rintro t rfl
          rw [if_pos z, if_pos y] at ih
          refine ih _ (fun c c1 => by rw [up_row c1, up_row c1, hV c c1]) ?_ ?_ ?_ ?_ ?_ <;> simp (disch := decide) only [up_idx, up_at] <;> first | assumption | rw [f4]
  have common : ∀ V : Sto, (∀ c : Nat, c ≠ 99 → V c = u c) → V 99 0 = s 76 a → fsR (s 75 9) od (fun i => s 77 (6 * a + i)) (s 76 a) (V 99 1) (V 99 2) → G LY X 146 [rv 75, iv p, iv a, iv wo, iv (s 76 a), iv (6 * a), iv 0, none, none, none] [] V := by
    intro V hV f0 f1
    have fin : ∀ k : Int, CP (fun i => s 77 (6 * p + i)) (fun i => s 77 (6 * a + i)) (s 76 p) (s 76 a) k → ∀ s1 : Sto, s1 = up V 99 3 k → ∀ s2 : Sto, s2 = up s1 99 4 0 → ∀ s3 : Sto, s3 = up s2 99 5 0 → G LY X 226 [rv 75, iv p, iv a, iv wo, iv (s 76 a), iv (6 * a), iv k, iv 0, iv 0, none] [] s3 := by
      rintro k hk s1 rfl s2 rfl s3 rfl
      refine seen k _ (fun c c1 => by rw [up_row c1, up_row c1, up_row c1, hV c c1]) ?_ ?_ ?_ ?_ ?_ <;> simp (disch := decide) only [up_idx, up_at] <;> first | assumption | rfl
    suffices H : (∀ j : Int, 0 ≤ j → j < 0 → s 77 (6 * p + j) = s 77 (6 * a + j)) → G LY X 146 [rv 75, iv p, iv a, iv wo, iv (s 76 a), iv (6 * a), iv 0, none, none, none] [] V from H (fun j j0 j1 => absurd j1 (by omega))
    refine downI (P := fun k => (∀ j : Int, 0 ≤ j → j < k → s 77 (6 * p + j) = s 77 (6 * a + j)) → G LY X 146 [rv 75, iv p, iv a, iv wo, iv (s 76 a), iv (6 * a), iv k, none, none, none] [] V) (a := 0) (b := min (s 76 p) (s 76 a)) (by omega) ?_ ?_
    · intro h
      have cp : CP (fun i => s 77 (6 * p + i)) (fun i => s 77 (6 * a + i)) (s 76 p) (s 76 a) (min (s 76 p) (s 76 a)) := ⟨by omega, by omega, by omega, h, fun z1 z2 => by omega⟩
      refine kb_X12_may_146 C r ⟨⟨⟨by omega, by omega⟩, ⟨by omega, by omega⟩⟩, fun _ => fin _ cp, fun z => ⟨⟨by omega, by omega⟩, ?_⟩⟩
      rw [hV 76 (by decide), u76]
      exact ⟨⟨⟨by omega, by omega⟩, ⟨by omega, by omega⟩⟩, fun _ => fin _ cp, fun z2 => absurd z2 (by omega)⟩
    · intro k k0 k1 ih h
      have q1 := hna.2 k k0 (by omega)
      have q2 := hnp.2 k k0 (by omega)
      refine kb_X12_may_146 C r ⟨⟨⟨by omega, by omega⟩, ⟨by omega, by omega⟩⟩, fun z => absurd z (by omega), fun z => ⟨⟨by omega, by omega⟩, ?_⟩⟩
      rw [hV 76 (by decide), u76, hV 77 (by decide), u77]
      refine ⟨⟨⟨by omega, by omega⟩, ⟨by omega, by omega⟩⟩, fun z2 => absurd z2 (by omega), fun _ => ⟨⟨by omega, by omega⟩, ⟨by omega, by omega⟩, ⟨⟨by omega, by omega⟩, ⟨by omega, by omega⟩⟩, fun z2 => fin k ⟨k0, by omega, by omega, h, fun _ _ y => z2 y.symm⟩, fun z2 => ih (fun j j0 j1 => ?_)⟩⟩
      by_cases y : j = k
      · rw [y]; exact z2.symm
      · exact h j j0 (by omega)
  rw [u76]
  refine ⟨ha, ?_⟩
  rintro s2 hs2
  have w77 : s2 77 = s 77 := by rw [hs2, up_row (by decide), u77]
  have w759 : s2 75 9 = s 75 9 := by rw [hs2, up_row (by decide), u759]
  have w101 : s2 101 = u 101 := by rw [hs2, up_row (by decide)]
  refine ⟨⟨by omega, by omega⟩, fun z => ?_, fun z => ?_⟩
  · have l0 := hna.2 0 (by decide) (by omega)
    have ll := hna.2 (s 76 a - 1) (by omega) (by omega)
    rw [Int.add_zero] at l0
    rw [show 6 * a + (s 76 a - 1) = 6 * a + s 76 a - 1 by omega] at ll
    rw [w77, w759, w101]
    refine ⟨⟨by omega, by omega⟩, ⟨⟨by omega, by omega⟩, ⟨by omega, by omega⟩⟩, fun y => ?_, fun y => ⟨⟨by omega, by omega⟩, ⟨by omega, by omega⟩, ?_⟩⟩
    · rintro s3 hs3
      have first : isPl (s 75 9) od (s 77 (6 * a)) (s3 99 1) := by rw [hs3, up_at]; exact isPl_out hO y
      have x77 : s3 77 = s 77 := by rw [hs3, up_row (by decide), w77]
      have x759 : s3 75 9 = s 75 9 := by rw [hs3, up_row (by decide), w759]
      have xo : ∀ c : Nat, c ≠ 99 → s3 c = u c := fun c c1 => by rw [hs3, up_row c1, hs2, up_row c1]
      have x101 : s3 101 = u 101 := xo 101 (by decide)
      have x0 : s3 99 0 = s 76 a := by rw [hs3, up_idx (by decide), hs2, up_at]
      rw [x77, x759, x101]
      refine ⟨⟨by omega, by omega⟩, fun _ => ⟨⟨by omega, by omega⟩, ⟨⟨by omega, by omega⟩, ⟨by omega, by omega⟩⟩, fun y2 => ?_, fun y2 => ⟨⟨by omega, by omega⟩, ⟨by omega, by omega⟩, ?_⟩⟩, fun y2 => absurd y2 z⟩
      · rintro s4 rfl
        refine common _ (fun c c1 => by rw [up_row c1, xo c c1]) (by rw [up_idx (by decide), x0]) ⟨fun y3 => absurd y3 (by omega), fun _ => ⟨?_, ?_⟩⟩
        · rw [up_idx (by decide)]
          show isPl _ _ (s 77 (6 * a + 0)) _
          rw [Int.add_zero]; exact first
        · rw [up_at]
          show isPl _ _ (s 77 (6 * a + (s 76 a - 1))) _
          rw [show 6 * a + (s 76 a - 1) = 6 * a + s 76 a - 1 by omega]; exact isPl_out hO y2
      · rintro s4 rfl
        refine common _ (fun c c1 => by rw [up_row c1, xo c c1]) (by rw [up_idx (by decide), x0]) ⟨fun y3 => absurd y3 (by omega), fun _ => ⟨?_, ?_⟩⟩
        · rw [up_idx (by decide)]
          show isPl _ _ (s 77 (6 * a + 0)) _
          rw [Int.add_zero]; exact first
        · rw [up_at]
          show isPl _ _ (s 77 (6 * a + (s 76 a - 1))) _
          rw [show 6 * a + (s 76 a - 1) = 6 * a + s 76 a - 1 by omega]; exact hP.isPl hO ll.1 y2
    · rintro s3 hs3
      have first : isPl (s 75 9) od (s 77 (6 * a)) (s3 99 1) := by rw [hs3, up_at]; exact hP.isPl hO l0.1 y
      have x77 : s3 77 = s 77 := by rw [hs3, up_row (by decide), w77]
      have x759 : s3 75 9 = s 75 9 := by rw [hs3, up_row (by decide), w759]
      have xo : ∀ c : Nat, c ≠ 99 → s3 c = u c := fun c c1 => by rw [hs3, up_row c1, hs2, up_row c1]
      have x101 : s3 101 = u 101 := xo 101 (by decide)
      have x0 : s3 99 0 = s 76 a := by rw [hs3, up_idx (by decide), hs2, up_at]
      rw [x77, x759, x101]
      refine ⟨⟨by omega, by omega⟩, fun _ => ⟨⟨by omega, by omega⟩, ⟨⟨by omega, by omega⟩, ⟨by omega, by omega⟩⟩, fun y2 => ?_, fun y2 => ⟨⟨by omega, by omega⟩, ⟨by omega, by omega⟩, ?_⟩⟩, fun y2 => absurd y2 z⟩
      · rintro s4 rfl
        refine common _ (fun c c1 => by rw [up_row c1, xo c c1]) (by rw [up_idx (by decide), x0]) ⟨fun y3 => absurd y3 (by omega), fun _ => ⟨?_, ?_⟩⟩
        · rw [up_idx (by decide)]
          show isPl _ _ (s 77 (6 * a + 0)) _
          rw [Int.add_zero]; exact first
        · rw [up_at]
          show isPl _ _ (s 77 (6 * a + (s 76 a - 1))) _
          rw [show 6 * a + (s 76 a - 1) = 6 * a + s 76 a - 1 by omega]; exact isPl_out hO y2
      · rintro s4 rfl
        refine common _ (fun c c1 => by rw [up_row c1, xo c c1]) (by rw [up_idx (by decide), x0]) ⟨fun y3 => absurd y3 (by omega), fun _ => ⟨?_, ?_⟩⟩
        · rw [up_idx (by decide)]
          show isPl _ _ (s 77 (6 * a + 0)) _
          rw [Int.add_zero]; exact first
        · rw [up_at]
          show isPl _ _ (s 77 (6 * a + (s 76 a - 1))) _
          rw [show 6 * a + (s 76 a - 1) = 6 * a + s 76 a - 1 by omega]; exact hP.isPl hO ll.1 y2
  · rintro s3 hs3
    refine ⟨⟨by omega, by omega⟩, fun y => absurd z y, fun _ => ?_⟩
    rintro s4 hs4
    have x759 : s3 75 9 = s 75 9 := by rw [hs3, up_row (by decide), w759]
    refine common s4 (fun c c1 => by rw [hs4, up_row c1, hs3, up_row c1, hs2, up_row c1]) (by rw [hs4, up_idx (by decide), hs3, up_idx (by decide), hs2, up_at]) ⟨fun _ => ⟨?_, ?_⟩, fun y => absurd y (by omega)⟩
    · rw [hs4, up_idx (by decide), hs3, up_at, w759]
    · rw [hs4, up_at, x759]
