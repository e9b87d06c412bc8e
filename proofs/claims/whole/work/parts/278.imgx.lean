/-! THE IMAGE in the class: a Land copied -/
def rgL (z : Int) (x : Nat) (i : Int) : Prop := (x = 0 ∧ (i = 0 ∨ i = 1 ∨ i = 2 ∨ i = 3 ∨ i = 9 ∨ i = 11)) ∨ (x = 1 ∧ 0 ≤ i ∧ i < 7) ∨ (x = 2 ∧ i = 0) ∨ (3 ≤ x ∧ x ≤ 6 ∧ 0 ≤ i ∧ i < 20) ∨ (x = 7 ∧ 0 ≤ i ∧ i < 24) ∨ (8 ≤ x ∧ x ≤ 9 ∧ 0 ≤ i ∧ i < 6) ∨ (x = 10 ∧ 0 ≤ i ∧ i < 10) ∨ (11 ≤ x ∧ x ≤ 13 ∧ 0 ≤ i ∧ i < 12) ∨ (x = 14 ∧ (i = 0 ∨ i = 1)) ∨ (15 ≤ x ∧ x ≤ 16 ∧ 0 ≤ i ∧ i < 16) ∨ (x = 17 ∧ 0 ≤ i ∧ i < z)
theorem LineOk.mv {op ar op' ar' : Int → Int} {a b : Int} (h : LineOk op ar a b) (ha : 0 ≤ a) (hb : b ≤ 400) (eo : ∀ i : Int, 0 ≤ i → i < 400 → op' i = op i) (ea : ∀ i : Int, 0 ≤ i → i < 400 → ar' i = ar i) : LineOk op' ar' a b := h.congr ha hb eo ea
set_option maxHeartbeats 4000000 in
theorem LandR.mv2 [Inhabited YT] {s s' m m' : Sto} {b b' : Nat} (h : LandR s b m) (e : ∀ (x : Nat) (i : Int), rgL (s (b + 14) 1) x i → s' (b' + x) i = s (b + x) i) (e2 : ∀ (c : Nat) (i : Int), 0 ≤ sxI c i → m' c i = m c i) (e22 : m' 75 22 = m 75 22) : LandR s' b' m' := by
  obtain ⟨a1, a2, a3, a4, a5, a6, a7, a8, a9, a10, a11, a12, a13, a14, a15, a16⟩ := h
  have E : ∀ (x : Nat) (i : Int), rgL (s (b + 14) 1) x i → s' (b' + x) i = s (b + x) i := e
  have f : ∀ i : Int, (i = 0 ∨ i = 1 ∨ i = 2 ∨ i = 3 ∨ i = 9 ∨ i = 11) → s' b' i = s b i := fun i hi => E 0 i (Or.inl ⟨rfl, hi⟩)
  have M : ∀ i : Int, (i = 1 ∨ i = 9 ∨ i = 21 ∨ i = 18 ∨ i = 4 ∨ i = 8 ∨ i = 30) → m' 75 i = m 75 i := fun i hi => by
    refine e2 75 i ?_
    rcases hi with rfl | rfl | rfl | rfl | rfl | rfl | rfl <;> decide
  have K : s b 0 ≤ 8 := a1.2.2
  have m81 : ∀ i : Int, 0 ≤ i → i < 152 → m' 81 i = m 81 i := fun i i0 i1 => e2 81 i (by rw [sx_81 ⟨i0, i1⟩]; omega)
  have m76 : ∀ i : Int, 0 ≤ i → i < 30 → m' 76 i = m 76 i := fun i i0 i1 => e2 76 i (by rw [sx_76 ⟨i0, i1⟩]; omega)
  have m77 : ∀ i : Int, 0 ≤ i → i < 180 → m' 77 i = m 77 i := fun i i0 i1 => e2 77 i (by rw [sx_77 ⟨i0, i1⟩]; omega)
  have e20 : s' (b' + 2) 0 = s (b + 2) 0 := E 2 0 (by unfold rgL; omega)
  have n20 : s (b + 2) 0 ≤ 20 := a6.2.2
  have n10 : s b 9 ≤ 10 := a11.2.2
  have n12 : s b 11 ≤ 12 := a13.2.2
  have e140 : s' (b' + 14) 0 = s (b + 14) 0 := E 14 0 (by unfold rgL; omega)
  have e141 : s' (b' + 14) 1 = s (b + 14) 1 := E 14 1 (by unfold rgL; omega)
  unfold LandR
  rw [f 0 (by omega), f 1 (by omega), f 2 (by omega), f 3 (by omega), f 9 (by omega), f 11 (by omega), e20, e140, e141, M 9 (by omega), M 1 (by omega), M 21 (by omega), M 4 (by omega), M 8 (by omega), M 18 (by omega), M 30 (by omega), e22]
  refine ⟨a1, a2, a3.congr (fun k k0 k1 => ?_), a4, fun i i0 i1 => ?_, a6, fun p p0 p1 => ?_, fun p p0 p1 => ?_, fun j j0 j1 => ?_, fun j j0 j1 => ?_, a11, fun p p0 p1 => ?_, a13, fun v v0 v1 => ?_, a15, ?_⟩
  · unfold alM
    by_cases q : m 75 22 = 0
    · rw [if_pos q, if_pos q]
    · rw [if_neg q, if_neg q, m81 k k0 (by omega)]
  · rw [E 1 i (by unfold rgL; omega), e2 82 i (by rw [sx_82 ⟨i0, i1⟩]; omega)]
    exact a5 i i0 i1
  · rw [E 3 p (by unfold rgL; omega)]
    have g := a7 p p0 p1
    exact g.congr (m76 _ (by omega) (by omega)) (fun k k0 k1 => m77 _ (by omega) (by have := g.1; omega))
  · rw [E 4 p (by unfold rgL; omega), E 5 p (by unfold rgL; omega), E 6 p (by unfold rgL; omega), e2 78 p (by rw [sx_78 ⟨p0, by omega⟩]; omega), e2 79 p (by rw [sx_79 ⟨p0, by omega⟩]; omega), e2 80 p (by rw [sx_80 ⟨p0, by omega⟩]; omega)]
    exact a8 p p0 p1
  · rw [E 7 (4 * j) (by unfold rgL; omega), E 7 (4 * j + 1) (by unfold rgL; omega), E 7 (4 * j + 2) (by unfold rgL; omega), E 7 (4 * j + 3) (by unfold rgL; omega), e2 83 j (by rw [sx_83 ⟨j0, j1⟩]; omega), e2 84 j (by rw [sx_84 ⟨j0, j1⟩]; omega), e2 85 j (by rw [sx_85 ⟨j0, j1⟩]; omega), e2 86 j (by rw [sx_86 ⟨j0, j1⟩]; omega)]
    exact a9 j j0 j1
  · rw [E 8 j (by unfold rgL; omega), E 9 j (by unfold rgL; omega), e2 87 j (by rw [sx_87 ⟨j0, j1⟩]; omega), e2 88 j (by rw [sx_88 ⟨j0, j1⟩]; omega)]
    obtain ⟨g1, g2⟩ := a10 j j0 j1
    refine ⟨g1, ?_⟩
    rcases g2 with g | ⟨g, g3⟩
    · exact Or.inl g
    · exact Or.inr ⟨g, g3.congr (fun k k0 k1 => m81 _ (by omega) (by omega))⟩
  · rw [E 10 p (by unfold rgL; omega)]
    have g := a12 p p0 p1
    exact g.congr (m76 _ (by omega) (by omega)) (fun k k0 k1 => m77 _ (by omega) (by have := g.1; omega))
  · rw [E 11 v (by unfold rgL; omega), E 12 v (by unfold rgL; omega), E 13 v (by unfold rgL; omega), e2 89 v (by rw [sx_89 ⟨v0, by omega⟩]; omega), e2 90 v (by rw [sx_90 ⟨v0, by omega⟩]; omega)]
    obtain ⟨g1, g2, g3⟩ := a14 v v0 v1
    exact ⟨g1.congr (fun k k0 k1 => m81 _ (by omega) (by omega)), g2, g3⟩
  · obtain ⟨n1, n2, n3, n4, n5⟩ := a16
    have m93 : ∀ l : Int, 0 ≤ l → l < 16 → m' 93 l = m 93 l ∧ m' 94 l = m 94 l ∧ m' 95 l = m 95 l := fun l l0 l1 => ⟨e2 93 l (by rw [sx_93 ⟨l0, l1⟩]; omega), e2 94 l (by rw [sx_94 ⟨l0, l1⟩]; omega), e2 95 l (by rw [sx_95 ⟨l0, l1⟩]; omega)⟩
    have m96 : ∀ i : Int, 0 ≤ i → i < 400 → m' 96 i = m 96 i ∧ m' 97 i = m 97 i := fun i i0 i1 => ⟨e2 96 i (by rw [sx_96 ⟨i0, i1⟩]; omega), e2 97 i (by rw [sx_97 ⟨i0, i1⟩]; omega)⟩
    refine ⟨n1, n2, fun i i0 i1 => ?_, n4, fun l l0 l1 => ?_⟩
    · rw [E 17 i (by unfold rgL; omega), (m96 i i0 (by omega)).1, (m96 i i0 (by omega)).2]
      exact n3 i i0 i1
    · rw [E 15 l (by unfold rgL; omega), E 16 l (by unfold rgL; omega), (m93 l l0 (by omega)).1, (m93 l l0 (by omega)).2.1, (m93 l l0 (by omega)).2.2]
      obtain ⟨g1, g2, g3, g4, g5, g6, g7⟩ := n5 l l0 l1
      refine ⟨g1, g2, ?_, g4, g5, g6, fun q => (g7 q).congr g4 (by omega) (fun i i0 i1 => (m96 i i0 i1).1) (fun i i0 i1 => (m96 i i0 i1).2)⟩
      by_cases z : l = 0
      · rw [if_pos z] at g3 ⊢; exact g3
      · rw [if_neg z] at g3 ⊢
        rw [(m93 (l - 1) (by omega) (by omega)).2.2]; exact g3
set_option maxHeartbeats 4000000 in
theorem t_copyBack {s : Sto} (hz : 0 ≤ s 35 1 ∧ s 35 1 ≤ 400) : ClV LY 2 MX2_copyFrom [.inr 3, .inr 21] s (fun s' => (∀ c : Nat, ¬ (3 ≤ c ∧ c ≤ 20) → s' c = s c) ∧ ∀ (x : Nat) (i : Int), rgL (s 35 1) x i → s' (3 + x) i = s (21 + x) i) := by
  have p6 : ∀ t : Sto, ClV LY 1 MX6_copyFrom [.inr 5, .inr 23] t (fun s' => s' = cpy (cpy (cpy (cpy (up t 5 0 (t 23 0)) 24 6 0 0 20) 25 7 0 0 20) 26 8 0 0 20) 27 9 0 0 20) := by
    intro t
    refine ClV.intro (by decide) rfl (Nat.le_of_ble_eq_true rfl) (fun X C r => ?_)
    refine kb_X6_copyFrom_0 C r (by decide) ?_
    rintro s1 rfl s2 rfl s3 rfl s4 rfl s5 rfl
    rfl
  have p4 : ∀ t : Sto, (0 ≤ t 35 1 ∧ t 35 1 ≤ 400) → ClV LY 1 MX4_copyFrom [.inr 17, .inr 35] t (fun s' => s' = cpy (cpy (cpy (up (up t 17 0 (t 35 0)) 17 1 (t 35 1)) 36 18 0 0 16) 37 19 0 0 16) 38 20 0 0 (t 35 1)) := by
    intro t ht
    refine ClV.intro (by decide) rfl (Nat.le_of_ble_eq_true rfl) (fun X C r => ?_)
    refine kb_X4_copyFromv1_0 C r (by decide) ?_
    rintro s1 rfl s2 hs2 s3 hs3 s4 hs4
    have e : s4 17 1 = t 35 1 := by
      rw [hs4, cpy_row (by decide), hs3, cpy_row (by decide), hs2, up_at, up_row (by decide)]
    rw [e]
    refine ⟨⟨⟨by decide, by decide, ht.1⟩, by omega, by omega⟩, ?_⟩
    rintro s5 rfl
    rw [hs4, hs3, hs2, up_row (c := 17) (c' := 35) (by decide)]
  refine ClV.intro (by decide) rfl (Nat.le_of_ble_eq_true rfl) (fun X C r => ?_)
  refine kb_X2_copyFrom_0 C r (by decide) ?_
  rintro s1 h1 s2 h2 s3 h3 s4 h4
  have c4 : ∀ c : Nat, c ≠ 3 → s4 c = s c := fun c hc => by rw [h4, up_row hc, h3, up_row hc, h2, up_row hc, h1, up_row hc]
  refine ⟨1, _, by decide, p6 s4, ?_⟩
  rintro s5 h5 s6 h6 s7 h7
  have c5 : ∀ c : Nat, ¬ (5 ≤ c ∧ c ≤ 9) → s5 c = s4 c := fun c hc => by rw [h5, cpy_row (by omega), cpy_row (by omega), cpy_row (by omega), cpy_row (by omega), up_row (by omega)]
  have c7 : ∀ c : Nat, c ≠ 3 → s7 c = s5 c := fun c hc => by rw [h7, up_row hc, h6, up_row hc]
  have z7 : s7 35 1 = s 35 1 := by rw [c7 35 (by decide), c5 35 (by decide), c4 35 (by decide)]
  refine ⟨1, _, by decide, p4 s7 (by rw [z7]; exact hz), ?_⟩
  rintro s8 h8 s9 h9 s10 h10 s11 h11 s12 h12 s13 h13 s14 h14 s15 h15 s16 h16
  have c8 : ∀ c : Nat, ¬ (17 ≤ c ∧ c ≤ 20) → s8 c = s7 c := fun c hc => by rw [h8, cpy_row (by omega), cpy_row (by omega), cpy_row (by omega), up_row (by omega), up_row (by omega)]
  have c16 : ∀ c : Nat, c ≠ 4 → ¬ (10 ≤ c ∧ c ≤ 16) → s16 c = s8 c := fun c hc hc2 => by rw [h16, cpy_row (by omega), h15, cpy_row (by omega), h14, cpy_row (by omega), h13, cpy_row (by omega), h12, cpy_row (by omega), h11, cpy_row (by omega), h10, cpy_row (by omega), h9, cpy_row hc]
  -- the source stays
  have src7 : ∀ c : Nat, ¬ (3 ≤ c ∧ c ≤ 20) → s7 c = s c := fun c hc => by rw [c7 c (by omega), c5 c (by omega), c4 c (by omega)]
  have src8 : ∀ c : Nat, ¬ (3 ≤ c ∧ c ≤ 20) → s8 c = s c := fun c hc => by rw [c8 c (by omega), src7 c hc]
  refine ⟨fun c hc => by rw [c16 c (by omega) (by omega), src8 c hc], fun x i hx => ?_⟩
  unfold rgL at hx
  rcases hx with ⟨rfl, hi⟩ | ⟨rfl, h0, h1'⟩ | ⟨rfl, rfl⟩ | ⟨x1, x2, h0, h1'⟩ | ⟨rfl, h0, h1'⟩ | ⟨x1, x2, h0, h1'⟩ | ⟨rfl, h0, h1'⟩ | ⟨x1, x2, h0, h1'⟩ | ⟨rfl, hi⟩ | ⟨x1, x2, h0, h1'⟩ | ⟨rfl, h0, h1'⟩
  · -- the Land's own
    show s16 3 i = s 21 i
    rw [c16 3 (by decide) (by decide), c8 3 (by decide)]
    have e5 : s5 3 = s4 3 := c5 3 (by decide)
    have q5 : s5 21 = s 21 := by rw [c5 21 (by decide), c4 21 (by decide)]
    have q6 : s6 21 = s 21 := by rw [h6, up_row (by decide), q5]
    rw [h7, up_if, h6, up_if, q5, e5, h4, up_if, h3, up_if, h2, up_if, h1, up_if]
    have w1 : s1 21 = s 21 := by rw [h1, up_row (by decide)]
    have w2 : s2 21 = s 21 := by rw [h2, up_row (by decide), w1]
    have w3 : s3 21 = s 21 := by rw [h3, up_row (by decide), w2]
    rcases hi with rfl | rfl | rfl | rfl | rfl | rfl
    · simp [up_row, q5]
    · simp [up_row, q5]
    · simp [up_row, q5]
    · simp [up_row, q5]
    · simp [up_row, q5]
    · simp [up_row, q5]
  · show s16 4 i = s 22 i
    rw [h16, cpy_row (by decide), h15, cpy_row (by decide), h14, cpy_row (by decide), h13, cpy_row (by decide), h12, cpy_row (by decide), h11, cpy_row (by decide), h10, cpy_row (by decide), h9, cpy_in (by omega), src8 22 (by decide), show 0 + (i - 0) = i by omega]
  · show s16 5 0 = s 23 0
    rw [c16 5 (by decide) (by decide), c8 5 (by decide), c7 5 (by decide), h5, cpy_row (by decide), cpy_row (by decide), cpy_row (by decide), cpy_row (by decide), up_at, c4 23 (by decide)]
  · have hx : x = 3 ∨ x = 4 ∨ x = 5 ∨ x = 6 := by omega
    have k5 : ∀ c : Nat, ¬ (5 ≤ c ∧ c ≤ 9) → s5 c = s4 c := c5
    rcases hx with rfl | rfl | rfl | rfl
    · show s16 6 i = s 24 i
      rw [c16 6 (by decide) (by decide), c8 6 (by decide), c7 6 (by decide), h5, cpy_row (by decide), cpy_row (by decide), cpy_row (by decide), cpy_in (by omega), up_row (by decide), c4 24 (by decide), show 0 + (i - 0) = i by omega]
    · show s16 7 i = s 25 i
      rw [c16 7 (by decide) (by decide), c8 7 (by decide), c7 7 (by decide), h5, cpy_row (by decide), cpy_row (by decide), cpy_in (by omega), cpy_row (by decide), up_row (by decide), c4 25 (by decide), show 0 + (i - 0) = i by omega]
    · show s16 8 i = s 26 i
      rw [c16 8 (by decide) (by decide), c8 8 (by decide), c7 8 (by decide), h5, cpy_row (by decide), cpy_in (by omega), cpy_row (by decide), cpy_row (by decide), up_row (by decide), c4 26 (by decide), show 0 + (i - 0) = i by omega]
    · show s16 9 i = s 27 i
      rw [c16 9 (by decide) (by decide), c8 9 (by decide), c7 9 (by decide), h5, cpy_in (by omega), cpy_row (by decide), cpy_row (by decide), cpy_row (by decide), up_row (by decide), c4 27 (by decide), show 0 + (i - 0) = i by omega]
  · show s16 10 i = s 28 i
    rw [h16, cpy_row (by decide), h15, cpy_row (by decide), h14, cpy_row (by decide), h13, cpy_row (by decide), h12, cpy_row (by decide), h11, cpy_row (by decide), h10, cpy_in (by omega), h9, cpy_row (by decide), src8 28 (by decide), show 0 + (i - 0) = i by omega]
  · have hx : x = 8 ∨ x = 9 := by omega
    rcases hx with rfl | rfl
    · show s16 11 i = s 29 i
      rw [h16, cpy_row (by decide), h15, cpy_row (by decide), h14, cpy_row (by decide), h13, cpy_row (by decide), h12, cpy_row (by decide), h11, cpy_in (by omega), h10, cpy_row (by decide), h9, cpy_row (by decide), src8 29 (by decide), show 0 + (i - 0) = i by omega]
    · show s16 12 i = s 30 i
      rw [h16, cpy_row (by decide), h15, cpy_row (by decide), h14, cpy_row (by decide), h13, cpy_row (by decide), h12, cpy_in (by omega), h11, cpy_row (by decide), h10, cpy_row (by decide), h9, cpy_row (by decide), src8 30 (by decide), show 0 + (i - 0) = i by omega]
  · show s16 13 i = s 31 i
    rw [h16, cpy_row (by decide), h15, cpy_row (by decide), h14, cpy_row (by decide), h13, cpy_in (by omega), h12, cpy_row (by decide), h11, cpy_row (by decide), h10, cpy_row (by decide), h9, cpy_row (by decide), src8 31 (by decide), show 0 + (i - 0) = i by omega]
  · have hx : x = 11 ∨ x = 12 ∨ x = 13 := by omega
    rcases hx with rfl | rfl | rfl
    · show s16 14 i = s 32 i
      rw [h16, cpy_row (by decide), h15, cpy_row (by decide), h14, cpy_in (by omega), h13, cpy_row (by decide), h12, cpy_row (by decide), h11, cpy_row (by decide), h10, cpy_row (by decide), h9, cpy_row (by decide), src8 32 (by decide), show 0 + (i - 0) = i by omega]
    · show s16 15 i = s 33 i
      rw [h16, cpy_row (by decide), h15, cpy_in (by omega), h14, cpy_row (by decide), h13, cpy_row (by decide), h12, cpy_row (by decide), h11, cpy_row (by decide), h10, cpy_row (by decide), h9, cpy_row (by decide), src8 33 (by decide), show 0 + (i - 0) = i by omega]
    · show s16 16 i = s 34 i
      rw [h16, cpy_in (by omega), h15, cpy_row (by decide), h14, cpy_row (by decide), h13, cpy_row (by decide), h12, cpy_row (by decide), h11, cpy_row (by decide), h10, cpy_row (by decide), h9, cpy_row (by decide), src8 34 (by decide), show 0 + (i - 0) = i by omega]
  · show s16 17 i = s 35 i
    rw [c16 17 (by decide) (by decide), h8, cpy_row (by decide), cpy_row (by decide), cpy_row (by decide), up_if, up_if, src7 35 (by decide)]
    rcases hi with rfl | rfl
    · rw [if_neg (by decide), if_pos rfl]
    · rw [if_pos rfl]
  · have hx : x = 15 ∨ x = 16 := by omega
    rcases hx with rfl | rfl
    · show s16 18 i = s 36 i
      rw [c16 18 (by decide) (by decide), h8, cpy_row (by decide), cpy_row (by decide), cpy_in (by omega), up_row (by decide), up_row (by decide), src7 36 (by decide), show 0 + (i - 0) = i by omega]
    · show s16 19 i = s 37 i
      rw [c16 19 (by decide) (by decide), h8, cpy_row (by decide), cpy_in (by omega), cpy_row (by decide), up_row (by decide), up_row (by decide), src7 37 (by decide), show 0 + (i - 0) = i by omega]
  · show s16 20 i = s 38 i
    rw [c16 20 (by decide) (by decide), h8, z7, cpy_in (by omega), cpy_row (by decide), cpy_row (by decide), up_row (by decide), up_row (by decide), src7 38 (by decide), show 0 + (i - 0) = i by omega]
set_option maxHeartbeats 4000000 in
theorem t_copyKeep {s : Sto} (hz : 0 ≤ s 17 1 ∧ s 17 1 ≤ 400) : ClV LY 2 MX2_copyFrom [.inr 21, .inr 3] s (fun s' => (∀ c : Nat, ¬ (21 ≤ c ∧ c ≤ 38) → s' c = s c) ∧ ∀ (x : Nat) (i : Int), rgL (s 17 1) x i → s' (21 + x) i = s (3 + x) i) := by
  have p6 : ∀ t : Sto, ClV LY 1 MX6_copyFrom [.inr 23, .inr 5] t (fun s' => s' = cpy (cpy (cpy (cpy (up t 23 0 (t 5 0)) 6 24 0 0 20) 7 25 0 0 20) 8 26 0 0 20) 9 27 0 0 20) := by
    intro t
    refine ClV.intro (by decide) rfl (Nat.le_of_ble_eq_true rfl) (fun X C r => ?_)
    refine kb_X6_copyFromv1_0 C r (by decide) ?_
    rintro s1 rfl s2 rfl s3 rfl s4 rfl s5 rfl
    rfl
  have p4 : ∀ t : Sto, (0 ≤ t 17 1 ∧ t 17 1 ≤ 400) → ClV LY 1 MX4_copyFrom [.inr 35, .inr 17] t (fun s' => s' = cpy (cpy (cpy (up (up t 35 0 (t 17 0)) 35 1 (t 17 1)) 18 36 0 0 16) 19 37 0 0 16) 20 38 0 0 (t 17 1)) := by
    intro t ht
    refine ClV.intro (by decide) rfl (Nat.le_of_ble_eq_true rfl) (fun X C r => ?_)
    refine kb_X4_copyFromv2_0 C r (by decide) ?_
    rintro s1 rfl s2 hs2 s3 hs3 s4 hs4
    have e : s4 35 1 = t 17 1 := by
      rw [hs4, cpy_row (by decide), hs3, cpy_row (by decide), hs2, up_at, up_row (by decide)]
    rw [e]
    refine ⟨⟨⟨by decide, by decide, ht.1⟩, by omega, by omega⟩, ?_⟩
    rintro s5 rfl
    rw [hs4, hs3, hs2, up_row (c := 35) (c' := 17) (by decide)]
  refine ClV.intro (by decide) rfl (Nat.le_of_ble_eq_true rfl) (fun X C r => ?_)
  refine kb_X2_copyFromv1_0 C r (by decide) ?_
  rintro s1 h1 s2 h2 s3 h3 s4 h4
  have c4 : ∀ c : Nat, c ≠ 21 → s4 c = s c := fun c hc => by rw [h4, up_row hc, h3, up_row hc, h2, up_row hc, h1, up_row hc]
  refine ⟨1, _, by decide, p6 s4, ?_⟩
  rintro s5 h5 s6 h6 s7 h7
  have c5 : ∀ c : Nat, ¬ (23 ≤ c ∧ c ≤ 27) → s5 c = s4 c := fun c hc => by rw [h5, cpy_row (by omega), cpy_row (by omega), cpy_row (by omega), cpy_row (by omega), up_row (by omega)]
  have c7 : ∀ c : Nat, c ≠ 21 → s7 c = s5 c := fun c hc => by rw [h7, up_row hc, h6, up_row hc]
  have z7 : s7 17 1 = s 17 1 := by rw [c7 17 (by decide), c5 17 (by decide), c4 17 (by decide)]
  refine ⟨1, _, by decide, p4 s7 (by rw [z7]; exact hz), ?_⟩
  rintro s8 h8 s9 h9 s10 h10 s11 h11 s12 h12 s13 h13 s14 h14 s15 h15 s16 h16
  have c8 : ∀ c : Nat, ¬ (35 ≤ c ∧ c ≤ 38) → s8 c = s7 c := fun c hc => by rw [h8, cpy_row (by omega), cpy_row (by omega), cpy_row (by omega), up_row (by omega), up_row (by omega)]
  have c16 : ∀ c : Nat, c ≠ 22 → ¬ (28 ≤ c ∧ c ≤ 34) → s16 c = s8 c := fun c hc hc2 => by rw [h16, cpy_row (by omega), h15, cpy_row (by omega), h14, cpy_row (by omega), h13, cpy_row (by omega), h12, cpy_row (by omega), h11, cpy_row (by omega), h10, cpy_row (by omega), h9, cpy_row hc]
  -- the source stays
  have src7 : ∀ c : Nat, ¬ (21 ≤ c ∧ c ≤ 38) → s7 c = s c := fun c hc => by rw [c7 c (by omega), c5 c (by omega), c4 c (by omega)]
  have src8 : ∀ c : Nat, ¬ (21 ≤ c ∧ c ≤ 38) → s8 c = s c := fun c hc => by rw [c8 c (by omega), src7 c hc]
  refine ⟨fun c hc => by rw [c16 c (by omega) (by omega), src8 c hc], fun x i hx => ?_⟩
  unfold rgL at hx
  rcases hx with ⟨rfl, hi⟩ | ⟨rfl, h0, h1'⟩ | ⟨rfl, rfl⟩ | ⟨x1, x2, h0, h1'⟩ | ⟨rfl, h0, h1'⟩ | ⟨x1, x2, h0, h1'⟩ | ⟨rfl, h0, h1'⟩ | ⟨x1, x2, h0, h1'⟩ | ⟨rfl, hi⟩ | ⟨x1, x2, h0, h1'⟩ | ⟨rfl, h0, h1'⟩
  · -- the Land's own
    show s16 21 i = s 3 i
    rw [c16 21 (by decide) (by decide), c8 21 (by decide)]
    have e5 : s5 21 = s4 21 := c5 21 (by decide)
    have q5 : s5 3 = s 3 := by rw [c5 3 (by decide), c4 3 (by decide)]
    have q6 : s6 3 = s 3 := by rw [h6, up_row (by decide), q5]
    rw [h7, up_if, h6, up_if, q5, e5, h4, up_if, h3, up_if, h2, up_if, h1, up_if]
    have w1 : s1 3 = s 3 := by rw [h1, up_row (by decide)]
    have w2 : s2 3 = s 3 := by rw [h2, up_row (by decide), w1]
    have w3 : s3 3 = s 3 := by rw [h3, up_row (by decide), w2]
    rcases hi with rfl | rfl | rfl | rfl | rfl | rfl
    · simp [up_row, q5]
    · simp [up_row, q5]
    · simp [up_row, q5]
    · simp [up_row, q5]
    · simp [up_row, q5]
    · simp [up_row, q5]
  · show s16 22 i = s 4 i
    rw [h16, cpy_row (by decide), h15, cpy_row (by decide), h14, cpy_row (by decide), h13, cpy_row (by decide), h12, cpy_row (by decide), h11, cpy_row (by decide), h10, cpy_row (by decide), h9, cpy_in (by omega), src8 4 (by decide), show 0 + (i - 0) = i by omega]
  · show s16 23 0 = s 5 0
    rw [c16 23 (by decide) (by decide), c8 23 (by decide), c7 23 (by decide), h5, cpy_row (by decide), cpy_row (by decide), cpy_row (by decide), cpy_row (by decide), up_at, c4 5 (by decide)]
  · have hx : x = 3 ∨ x = 4 ∨ x = 5 ∨ x = 6 := by omega
    have k5 : ∀ c : Nat, ¬ (23 ≤ c ∧ c ≤ 27) → s5 c = s4 c := c5
    rcases hx with rfl | rfl | rfl | rfl
    · show s16 24 i = s 6 i
      rw [c16 24 (by decide) (by decide), c8 24 (by decide), c7 24 (by decide), h5, cpy_row (by decide), cpy_row (by decide), cpy_row (by decide), cpy_in (by omega), up_row (by decide), c4 6 (by decide), show 0 + (i - 0) = i by omega]
    · show s16 25 i = s 7 i
      rw [c16 25 (by decide) (by decide), c8 25 (by decide), c7 25 (by decide), h5, cpy_row (by decide), cpy_row (by decide), cpy_in (by omega), cpy_row (by decide), up_row (by decide), c4 7 (by decide), show 0 + (i - 0) = i by omega]
    · show s16 26 i = s 8 i
      rw [c16 26 (by decide) (by decide), c8 26 (by decide), c7 26 (by decide), h5, cpy_row (by decide), cpy_in (by omega), cpy_row (by decide), cpy_row (by decide), up_row (by decide), c4 8 (by decide), show 0 + (i - 0) = i by omega]
    · show s16 27 i = s 9 i
      rw [c16 27 (by decide) (by decide), c8 27 (by decide), c7 27 (by decide), h5, cpy_in (by omega), cpy_row (by decide), cpy_row (by decide), cpy_row (by decide), up_row (by decide), c4 9 (by decide), show 0 + (i - 0) = i by omega]
  · show s16 28 i = s 10 i
    rw [h16, cpy_row (by decide), h15, cpy_row (by decide), h14, cpy_row (by decide), h13, cpy_row (by decide), h12, cpy_row (by decide), h11, cpy_row (by decide), h10, cpy_in (by omega), h9, cpy_row (by decide), src8 10 (by decide), show 0 + (i - 0) = i by omega]
  · have hx : x = 8 ∨ x = 9 := by omega
    rcases hx with rfl | rfl
    · show s16 29 i = s 11 i
      rw [h16, cpy_row (by decide), h15, cpy_row (by decide), h14, cpy_row (by decide), h13, cpy_row (by decide), h12, cpy_row (by decide), h11, cpy_in (by omega), h10, cpy_row (by decide), h9, cpy_row (by decide), src8 11 (by decide), show 0 + (i - 0) = i by omega]
    · show s16 30 i = s 12 i
      rw [h16, cpy_row (by decide), h15, cpy_row (by decide), h14, cpy_row (by decide), h13, cpy_row (by decide), h12, cpy_in (by omega), h11, cpy_row (by decide), h10, cpy_row (by decide), h9, cpy_row (by decide), src8 12 (by decide), show 0 + (i - 0) = i by omega]
  · show s16 31 i = s 13 i
    rw [h16, cpy_row (by decide), h15, cpy_row (by decide), h14, cpy_row (by decide), h13, cpy_in (by omega), h12, cpy_row (by decide), h11, cpy_row (by decide), h10, cpy_row (by decide), h9, cpy_row (by decide), src8 13 (by decide), show 0 + (i - 0) = i by omega]
  · have hx : x = 11 ∨ x = 12 ∨ x = 13 := by omega
    rcases hx with rfl | rfl | rfl
    · show s16 32 i = s 14 i
      rw [h16, cpy_row (by decide), h15, cpy_row (by decide), h14, cpy_in (by omega), h13, cpy_row (by decide), h12, cpy_row (by decide), h11, cpy_row (by decide), h10, cpy_row (by decide), h9, cpy_row (by decide), src8 14 (by decide), show 0 + (i - 0) = i by omega]
    · show s16 33 i = s 15 i
      rw [h16, cpy_row (by decide), h15, cpy_in (by omega), h14, cpy_row (by decide), h13, cpy_row (by decide), h12, cpy_row (by decide), h11, cpy_row (by decide), h10, cpy_row (by decide), h9, cpy_row (by decide), src8 15 (by decide), show 0 + (i - 0) = i by omega]
    · show s16 34 i = s 16 i
      rw [h16, cpy_in (by omega), h15, cpy_row (by decide), h14, cpy_row (by decide), h13, cpy_row (by decide), h12, cpy_row (by decide), h11, cpy_row (by decide), h10, cpy_row (by decide), h9, cpy_row (by decide), src8 16 (by decide), show 0 + (i - 0) = i by omega]
  · show s16 35 i = s 17 i
    rw [c16 35 (by decide) (by decide), h8, cpy_row (by decide), cpy_row (by decide), cpy_row (by decide), up_if, up_if, src7 17 (by decide)]
    rcases hi with rfl | rfl
    · rw [if_neg (by decide), if_pos rfl]
    · rw [if_pos rfl]
  · have hx : x = 15 ∨ x = 16 := by omega
    rcases hx with rfl | rfl
    · show s16 36 i = s 18 i
      rw [c16 36 (by decide) (by decide), h8, cpy_row (by decide), cpy_row (by decide), cpy_in (by omega), up_row (by decide), up_row (by decide), src7 18 (by decide), show 0 + (i - 0) = i by omega]
    · show s16 37 i = s 19 i
      rw [c16 37 (by decide) (by decide), h8, cpy_row (by decide), cpy_in (by omega), cpy_row (by decide), up_row (by decide), up_row (by decide), src7 19 (by decide), show 0 + (i - 0) = i by omega]
  · show s16 38 i = s 20 i
    rw [c16 38 (by decide) (by decide), h8, z7, cpy_in (by omega), cpy_row (by decide), cpy_row (by decide), up_row (by decide), up_row (by decide), src7 20 (by decide), show 0 + (i - 0) = i by omega]
