/-! OPERATION: image -/
theorem Inv.img [Inhabited YT] {s S : Sto} (h : Inv s) (er : ∀ c : Nat, c = 1 ∨ c = 2 ∨ c = 91 ∨ c = 92 → S c = s c) (e75 : ∀ i : Int, i = 24 ∨ i = 42 ∨ i = 43 ∨ i = 59 → S 75 i = s 75 i) (e39 : ∀ i : Int, i = 4 ∨ i = 5 → S 39 i = s 39 i) (hl : LandR S 3 S) (h22 : S 75 22 = 0 ∨ S 75 22 = 1) (h0 : S 0 3 = S 75 69 ∧ S 0 3 = 1) (im : ∃ m : Sto, LandR S 21 m ∧ ImgR (S 118) m ∧ m 75 22 = 1) : Inv S := by
  obtain ⟨⟨h1, h2⟩, h3, h4, _, h8, h9, h10⟩ := h
  refine ⟨⟨?_, ?_⟩, hl, ?_, ⟨h0.1, Or.inr h0.2, fun _ => im⟩, h22, ?_, ?_⟩
  · rw [er 1 (by omega), e75 24 (by omega)]; exact h1
  · rw [er 1 (by omega), er 2 (by omega), er 91 (by omega)]; exact h2
  · rw [e39 4 (by omega), e39 5 (by omega), e75 42 (by omega), e75 43 (by omega)]; exact h4
  · rw [e75 59 (by omega)]; exact h9
  · rw [er 92 (by omega)]; exact h10
theorem sx_perM {c : Nat} {i : Int} (h : 0 ≤ sxI c i) : c ≠ 118 ∧ ¬ (c = 75 ∧ (i = 0 ∨ i = 22 ∨ i = 68 ∨ i = 69 ∨ i = 70)) ∧ 75 ≤ c ∧ c ≤ 97 := by
  refine ⟨fun e => ?_, fun e => ?_, ?_, ?_⟩
  · rw [e] at h
    have : sxI 118 i = -1 := rfl
    omega
  · obtain ⟨rfl, e⟩ := e
    rcases e with rfl | rfl | rfl | rfl | rfl <;> exact absurd h (by decide)
  · unfold sxI at h
    by_cases q : 75 ≤ c
    · exact q
    · rw [if_neg (by omega), if_neg (by omega), if_neg (by omega), if_neg (by omega), if_neg (by omega), if_neg (by omega), if_neg (by omega), if_neg (by omega), if_neg (by omega), if_neg (by omega)] at h
      omega
  · unfold sxI at h
    by_cases q : c ≤ 97
    · exact q
    · rw [if_neg (by omega), if_neg (by omega), if_neg (by omega), if_neg (by omega), if_neg (by omega), if_neg (by omega), if_neg (by omega), if_neg (by omega), if_neg (by omega), if_neg (by omega)] at h
      omega
theorem img_of {im : Int → Int} {m : Sto} (h : ∀ (c : Nat) (i : Int), 0 ≤ sxI c i → im (sxI c i) = m c i) : ImgR im m := by
  have g : ∀ (c : Nat) (i j : Int), sxI c i = j → 0 ≤ j → im j = m c i := fun c i j e hj => by rw [← e]; exact h c i (by omega)
  refine ⟨⟨g 75 1 0 (by decide) (by decide), g 75 9 1 (by decide) (by decide), g 75 21 2 (by decide) (by decide), g 75 18 3 (by decide) (by decide)⟩, fun k k0 k1 => g 81 k _ (by rw [sx_81 ⟨k0, k1⟩]; omega) (by omega), fun k k0 k1 => g 82 k _ (by rw [sx_82 ⟨k0, k1⟩]; omega) (by omega), fun k k0 k1 => ⟨g 83 k _ (by rw [sx_83 ⟨k0, k1⟩]; omega) (by omega), g 84 k _ (by rw [sx_84 ⟨k0, k1⟩]; omega) (by omega), g 85 k _ (by rw [sx_85 ⟨k0, k1⟩]; omega) (by omega), g 86 k _ (by rw [sx_86 ⟨k0, k1⟩]; omega) (by omega), g 87 k _ (by rw [sx_87 ⟨k0, k1⟩]; omega) (by omega), g 88 k _ (by rw [sx_88 ⟨k0, k1⟩]; omega) (by omega)⟩, fun v v0 v1 => ⟨g 89 v _ (by rw [sx_89 ⟨v0, v1⟩]; omega) (by omega), g 90 v _ (by rw [sx_90 ⟨v0, v1⟩]; omega) (by omega)⟩, g 75 4 223 (by decide) (by decide), fun p p0 p1 => ⟨g 78 p _ (by rw [sx_78 ⟨p0, p1⟩]; omega) (by omega), g 79 p _ (by rw [sx_79 ⟨p0, p1⟩]; omega) (by omega), g 80 p _ (by rw [sx_80 ⟨p0, p1⟩]; omega) (by omega)⟩, g 75 8 284 (by decide) (by decide), fun k k0 k1 => g 76 k _ (by rw [sx_76 ⟨k0, k1⟩]; omega) (by omega), fun k k0 k1 => g 77 k _ (by rw [sx_77 ⟨k0, k1⟩]; omega) (by omega), g 75 30 495 (by decide) (by decide), fun l l0 l1 => ⟨g 93 l _ (by rw [sx_93 ⟨l0, l1⟩]; omega) (by omega), g 94 l _ (by rw [sx_94 ⟨l0, l1⟩]; omega) (by omega), g 95 l _ (by rw [sx_95 ⟨l0, l1⟩]; omega) (by omega)⟩, fun i i0 i1 => ⟨g 96 i _ (by rw [sx_96 ⟨i0, i1⟩]; omega) (by omega), g 97 i _ (by rw [sx_97 ⟨i0, i1⟩]; omega) (by omega)⟩⟩
set_option maxHeartbeats 4000000 in
theorem img_at {im : Int → Int} {m : Sto} (h : ImgR im m) {c : Nat} {i : Int} (hs : 0 ≤ sxI c i) : im (sxI c i) = m c i := by
  obtain ⟨⟨a1, a2, a3, a4⟩, b1, b2, b3, b4, b5, b6, b7, b8, b9, b10, b11, b12⟩ := h
  have hs' := hs
  unfold sxI at hs'
  by_cases q1 : c = 75
  · rw [if_pos q1] at hs'
    subst q1
    by_cases z1 : i = 1
    · subst z1; exact a1
    rw [if_neg z1] at hs'
    by_cases z2 : i = 9
    · subst z2; exact a2
    rw [if_neg z2] at hs'
    by_cases z3 : i = 21
    · subst z3; exact a3
    rw [if_neg z3] at hs'
    by_cases z4 : i = 18
    · subst z4; exact a4
    rw [if_neg z4] at hs'
    by_cases z5 : i = 4
    · subst z5; exact b5
    rw [if_neg z5] at hs'
    by_cases z6 : i = 8
    · subst z6; exact b7
    rw [if_neg z6] at hs'
    by_cases z7 : i = 30
    · subst z7; exact b10
    rw [if_neg z7] at hs'
    exact absurd hs' (by decide)
  rw [if_neg q1] at hs'
  by_cases q2 : c = 81
  · rw [if_pos q2] at hs'
    by_cases b : 0 ≤ i ∧ i < 152
    · subst q2
      rw [sx_81 b, show 4 + 1 * i + 0 = 4 + i by omega]; exact b1 i b.1 b.2
    · rw [if_neg b] at hs'; exact absurd hs' (by decide)
  rw [if_neg q2] at hs'
  by_cases q3 : c = 82
  · rw [if_pos q3] at hs'
    by_cases b : 0 ≤ i ∧ i < 7
    · subst q3
      rw [sx_82 b, show 156 + 1 * i + 0 = 156 + i by omega]; exact b2 i b.1 b.2
    · rw [if_neg b] at hs'; exact absurd hs' (by decide)
  rw [if_neg q3] at hs'
  by_cases q4 : 83 ≤ c ∧ c ≤ 88
  · rw [if_pos q4] at hs'
    by_cases b : 0 ≤ i ∧ i < 6
    · obtain ⟨c1, c2, c3, c4, c5, c6⟩ := b3 i b.1 b.2
      have : c = 83 ∨ c = 84 ∨ c = 85 ∨ c = 86 ∨ c = 87 ∨ c = 88 := by omega
      rcases this with rfl | rfl | rfl | rfl | rfl | rfl
      · rw [sx_83 b, show 163 + 6 * i + 0 = 163 + 6 * i by omega]; exact c1
      · rw [sx_84 b, show 163 + 6 * i + 1 = 164 + 6 * i by omega]; exact c2
      · rw [sx_85 b, show 163 + 6 * i + 2 = 165 + 6 * i by omega]; exact c3
      · rw [sx_86 b, show 163 + 6 * i + 3 = 166 + 6 * i by omega]; exact c4
      · rw [sx_87 b, show 163 + 6 * i + 4 = 167 + 6 * i by omega]; exact c5
      · rw [sx_88 b, show 163 + 6 * i + 5 = 168 + 6 * i by omega]; exact c6
    · rw [if_neg b] at hs'; exact absurd hs' (by decide)
  rw [if_neg q4] at hs'
  by_cases q5 : 89 ≤ c ∧ c ≤ 90
  · rw [if_pos q5] at hs'
    by_cases b : 0 ≤ i ∧ i < 12
    · obtain ⟨c1, c2⟩ := b4 i b.1 b.2
      have : c = 89 ∨ c = 90 := by omega
      rcases this with rfl | rfl
      · rw [sx_89 b, show 199 + 2 * i + 0 = 199 + 2 * i by omega]; exact c1
      · rw [sx_90 b, show 199 + 2 * i + 1 = 200 + 2 * i by omega]; exact c2
    · rw [if_neg b] at hs'; exact absurd hs' (by decide)
  rw [if_neg q5] at hs'
  by_cases q6 : 78 ≤ c ∧ c ≤ 80
  · rw [if_pos q6] at hs'
    by_cases b : 0 ≤ i ∧ i < 20
    · obtain ⟨c1, c2, c3⟩ := b6 i b.1 b.2
      have : c = 78 ∨ c = 79 ∨ c = 80 := by omega
      rcases this with rfl | rfl | rfl
      · rw [sx_78 b, show 224 + 3 * i + 0 = 224 + 3 * i by omega]; exact c1
      · rw [sx_79 b, show 224 + 3 * i + 1 = 225 + 3 * i by omega]; exact c2
      · rw [sx_80 b, show 224 + 3 * i + 2 = 226 + 3 * i by omega]; exact c3
    · rw [if_neg b] at hs'; exact absurd hs' (by decide)
  rw [if_neg q6] at hs'
  by_cases q7 : c = 76
  · rw [if_pos q7] at hs'
    by_cases b : 0 ≤ i ∧ i < 30
    · subst q7
      rw [sx_76 b, show 285 + 1 * i + 0 = 285 + i by omega]; exact b8 i b.1 b.2
    · rw [if_neg b] at hs'; exact absurd hs' (by decide)
  rw [if_neg q7] at hs'
  by_cases q8 : c = 77
  · rw [if_pos q8] at hs'
    by_cases b : 0 ≤ i ∧ i < 180
    · subst q8
      rw [sx_77 b, show 315 + 1 * i + 0 = 315 + i by omega]; exact b9 i b.1 b.2
    · rw [if_neg b] at hs'; exact absurd hs' (by decide)
  rw [if_neg q8] at hs'
  by_cases q9 : 93 ≤ c ∧ c ≤ 95
  · rw [if_pos q9] at hs'
    by_cases b : 0 ≤ i ∧ i < 16
    · obtain ⟨c1, c2, c3⟩ := b11 i b.1 b.2
      have : c = 93 ∨ c = 94 ∨ c = 95 := by omega
      rcases this with rfl | rfl | rfl
      · rw [sx_93 b, show 496 + 3 * i + 0 = 496 + 3 * i by omega]; exact c1
      · rw [sx_94 b, show 496 + 3 * i + 1 = 497 + 3 * i by omega]; exact c2
      · rw [sx_95 b, show 496 + 3 * i + 2 = 498 + 3 * i by omega]; exact c3
    · rw [if_neg b] at hs'; exact absurd hs' (by decide)
  rw [if_neg q9] at hs'
  by_cases q10 : 96 ≤ c ∧ c ≤ 97
  · rw [if_pos q10] at hs'
    by_cases b : 0 ≤ i ∧ i < 400
    · obtain ⟨c1, c2⟩ := b12 i b.1 b.2
      have : c = 96 ∨ c = 97 := by omega
      rcases this with rfl | rfl
      · rw [sx_96 b, show 544 + 2 * i + 0 = 544 + 2 * i by omega]; exact c1
      · rw [sx_97 b, show 544 + 2 * i + 1 = 545 + 2 * i by omega]; exact c2
    · rw [if_neg b] at hs'; exact absurd hs' (by decide)
  rw [if_neg q10] at hs'
  exact absurd hs' (by decide)
/-- from the first place to the fourth -/
theorem STI.zero {tk : Int} {B : Sto} (h : B 75 70 = 0) : STI tk B 0 B := by
  refine ⟨h, fun c i _ _ => by rw [if_neg (by omega)], fun j => by rw [if_neg (by omega)]⟩
theorem sx_bd {c : Nat} {i : Int} : sxI c i < 1344 := by
  by_cases h : 0 ≤ sxI c i
  · have b : ∀ j : Int, 1344 ≤ j → 0 ≤ sxI (slC j) (slI j) → sxI (slC j) (slI j) < 1344 := by
      intro j hj _
      have e1 : slC j = (96 + (j - 544) % 2).toNat := by
        unfold slC
        rw [if_neg (by omega), if_neg (by omega), if_neg (by omega), if_neg (by omega), if_neg (by omega), if_neg (by omega), if_neg (by omega), if_neg (by omega), if_neg (by omega), if_neg (by omega), if_neg (by omega), if_neg (by omega)]
      have e2 : slI j = (j - 544) / 2 := by
        unfold slI
        rw [if_neg (by omega), if_neg (by omega), if_neg (by omega), if_neg (by omega), if_neg (by omega), if_neg (by omega), if_neg (by omega), if_neg (by omega), if_neg (by omega), if_neg (by omega), if_neg (by omega), if_neg (by omega)]
      rw [e1, e2]
      have : (96 + (j - 544) % 2).toNat = 96 ∨ (96 + (j - 544) % 2).toNat = 97 := by omega
      rcases this with q | q
      · rw [q]
        have e : sxI 96 ((j - 544) / 2) = if 0 ≤ (j - 544) / 2 ∧ (j - 544) / 2 < 400 then 544 + 2 * ((j - 544) / 2) + (((96 : Nat) : Int) - 96) else -1 := rfl
        rw [e, if_neg (by omega)]; decide
      · rw [q]
        have e : sxI 97 ((j - 544) / 2) = if 0 ≤ (j - 544) / 2 ∧ (j - 544) / 2 < 400 then 544 + 2 * ((j - 544) / 2) + (((97 : Nat) : Int) - 96) else -1 := rfl
        rw [e, if_neg (by omega)]; decide
    by_cases q : 1344 ≤ sxI c i
    · have s := sx_sl h
      have := b (sxI c i) q (by rw [s.1, s.2]; exact h)
      rw [s.1, s.2] at this
      exact this
    · omega
  · omega
set_option maxHeartbeats 8000000 in
theorem op_image [Inhabited YT] {s : Sto} (h : Inv s) {t : Int} (ht : t = 0 ∨ t = 1) : OpI MX11_image MX12_image [.inl t] s := by
  have hb := h.2.2.2.2.1
  obtain ⟨i1, i2, i3'⟩ := h.2.2.2.1
  have i3 := fun (_ : Unit) => i3'
  clear i3'
  have hl := h.2.1
  have z3 : 0 ≤ s 17 1 ∧ s 17 1 ≤ 400 := by
    obtain ⟨a1, a2, a3, a4, a5, a6, a7, a8, a9, a10, a11, a12, a13, a14, a15, a16⟩ := hl
    exact a16.2.1
  have rt : rg t := by rcases ht with q | q <;> rw [q] <;> decide
  -- the reference's places, from the store y0 that was begun
  have iy0 : Inv (begS (up s 75 0 0)) := (h.told 0).beg
  refine ⟨3, 2, (fun r1 s1 => (t = 0 ∧ s 0 3 = 0 ∧ r1 = 0 ∧ s1 = s) ∨ (t = 0 ∧ s 0 3 = 1 ∧ r1 = 1 ∧ (∀ c : Nat, ¬ (3 ≤ c ∧ c ≤ 20) → s1 c = s c) ∧ ∀ (x : Nat) (i : Int), rgL (s 35 1) x i → s1 (3 + x) i = s (21 + x) i) ∨ (t = 1 ∧ r1 = 1 ∧ (∀ c : Nat, ¬ (21 ≤ c ∧ c ≤ 38) → c ≠ 0 → s1 c = s c) ∧ s1 0 3 = 1 ∧ ∀ (x : Nat) (i : Int), rgL (s 17 1) x i → s1 (21 + x) i = s (3 + x) i)), by decide, by decide, ?_, ?_⟩
  · refine ClI.introZ (by decide) rfl (Nat.le_of_ble_eq_true rfl) (fun X C r => ?_)
    refine kb_X11_image_0 C r ⟨rt, fun z => ⟨by rcases i2 with q | q <;> rw [q] <;> decide, fun z2 => ?_, fun z2 => Or.inl ⟨z, z2, rfl, rfl⟩⟩, fun z => ?_⟩
    · have e1 : s 0 3 = 1 := by omega
      obtain ⟨m, k1, _, _⟩ := i3 () e1
      obtain ⟨a1, a2, a3, a4, a5, a6, a7, a8, a9, a10, a11, a12, a13, a14, a15, a16⟩ := k1
      refine ⟨2, _, by decide, t_copyBack a16.2.1, ?_⟩
      rintro x ⟨x1, x2⟩
      exact Or.inr (Or.inl ⟨z, e1, rfl, x1, x2⟩)
    · refine ⟨2, _, by decide, t_copyKeep z3, ?_⟩
      rintro x ⟨x1, x2⟩
      rintro y hy
      refine Or.inr (Or.inr ⟨by omega, rfl, fun c c1 c2 => by rw [hy, up_row c2, x1 c c1], by rw [hy, up_at], fun k i hk => ?_⟩)
      rw [hy, up_row (by omega)]
      exact x2 k i hk
  · rintro r1 s1 g
    have r1b : rg r1 := by
      rcases g with g | g | g
      · rw [g.2.2.1]; decide
      · rw [g.2.2.1]; decide
      · rw [g.2.1]; decide
    refine ⟨r1b, ?_⟩
    -- cells of the reference are as they were
    have m75 : s1 75 = s 75 := by
      rcases g with g | g | g
      · rw [g.2.2.2]
      · exact g.2.2.2.1 75 (by decide)
      · exact g.2.2.1 75 (by decide) (by decide)
    have mc : ∀ c : Nat, 39 ≤ c → s1 c = s c := fun c hc => by
      rcases g with g | g | g
      · rw [g.2.2.2]
      · exact g.2.2.2.1 c (by omega)
      · exact g.2.2.1 c (by omega) (by omega)
    refine ClI.introZ (by decide) rfl (Nat.le_of_ble_eq_true rfl) (fun X C r => ?_)
    refine kb_X12_image_0 C r ?_
    rintro z hz
    have zb : z 75 22 = 0 ∨ z 75 22 = 1 := by rw [hz, up_idx (by decide), m75]; exact hb
    refine ⟨0, _, by decide, t_X12_begins zb, ?_⟩
    rintro y hy
    have yb : y 75 22 = 1 := by rw [hy, begS_22 zb]
    have y75 : ∀ i : Int, i ≠ 0 → i ≠ 22 → y 75 i = s 75 i := fun i a b => by rw [hy, begS_75 b, hz, up_idx a, m75]
    -- y is y0 but for the class's Land
    have yy : ∀ c : Nat, 39 ≤ c → y c = begS (up s 75 0 0) c := fun c hc => by
      have e22 : z 75 22 = up s 75 0 0 75 22 := by rw [hz, up_idx (by decide), up_idx (by decide), m75]
      by_cases q81 : c = 81
      · subst q81
        rw [hy, begS_81 (s := up s 75 0 0) e22 (by rw [hz, up_row (by decide), up_row (by decide), mc 81 (by decide)])]
      · by_cases q75 : c = 75
        · subst q75
          funext i
          by_cases j : i = 22
          · rw [j, yb, begS_22 (by rw [up_idx (by decide)]; exact hb)]
          · rw [hy, begS_75 j, begS_75 j, hz]
            by_cases j0 : i = 0
            · rw [j0, up_at, up_at]
            · rw [up_idx j0, up_idx j0, m75]
        · rw [hy, begS_row q75 q81, begS_row q75 q81, hz, up_row q75, up_row q75, mc c hc]
    have yc : ∀ c : Nat, c ≤ 38 → y c = s1 c := fun c hc => by rw [hy, begS_row (by omega) (by omega), hz, up_row (by omega)]
    -- place by place
    have go : ∀ tk : Int, (tk = 0 ∨ tk = 1) → (∀ S : Sto, STI tk (up (up (up y 75 68 tk) 75 69 1) 75 70 0) 1344 S → 1 = r1 ∧ Inv S) → ∀ s3 : Sto, s3 = up y 75 68 tk → ∀ s4 : Sto, s4 = up s3 75 69 1 → ∀ s5 : Sto, s5 = up s4 75 70 0 → CallI LY 2 MX12_kept [.inr 75, .inl (s5 75 1)] s5 (fun r6 s6 => ∀ s7 : Sto, s7 = up s6 75 1 r6 → CallI LY 2 MX12_kept [.inr 75, .inl (s7 75 9)] s7 (fun r8 s8 => ∀ s9 : Sto, s9 = up s8 75 9 r8 → CallI LY 2 MX12_kept [.inr 75, .inl (s9 75 21)] s9 (fun r10 s10 => ∀ s11 : Sto, s11 = up s10 75 21 r10 → CallI LY 2 MX12_kept [.inr 75, .inl (s11 75 18)] s11 (fun r12 s12 => ∀ s13 : Sto, s13 = up s12 75 18 r12 → G LY X 87 [rv 75, iv t, iv 0] [] s13)))) := by
      intro tk htk fin s3 h3 s4 h4 s5 h5
      have e5 : s5 = up (up (up y 75 68 tk) 75 69 1) 75 70 0 := by rw [h5, h4, h3]
      have hB : (up (up (up y 75 68 tk) 75 69 1) 75 70 0) 75 68 = tk := by rw [up_idx (by decide), up_idx (by decide), up_at]
      have st0 : STI tk (up (up (up y 75 68 tk) 75 69 1) 75 70 0) 0 s5 := by rw [e5]; exact STI.zero (up_at ..)
      generalize (up (up (up y 75 68 tk) 75 69 1) 75 70 0) = B at *
      refine ⟨0, _, by decide, keep1 st0 hB htk (c := 75) (i := 1) (by decide) (by decide), ?_⟩
      rintro r6 s6 g6 s7 e7
      refine ⟨0, _, by decide, keep1 (g6 s7 e7) hB htk (c := 75) (i := 9) (by decide) (by decide), ?_⟩
      rintro r8 s8 g8 s9 e9
      refine ⟨0, _, by decide, keep1 (g8 s9 e9) hB htk (c := 75) (i := 21) (by decide) (by decide), ?_⟩
      rintro r10 s10 g10 s11 e11
      refine ⟨0, _, by decide, keep1 (g10 s11 e11) hB htk (c := 75) (i := 18) (by decide) (by decide), ?_⟩
      rintro r12 s12 g12 s13 e13
      exact t_imgM C r hB htk fin s13 (g12 s13 e13)
    have low : ∀ (c : Nat) (i : Int), c < 75 → ¬ 0 ≤ sxI c i := fun c i hc q => by have := (sx_perM q).2.2.1; omega
    have lo2 : ∀ (x : Nat) (z i : Int), rgL z x i → x ≤ 17 := fun x z i hx => by unfold rgL at hx; omega
    have y0l : ∀ c : Nat, c ≤ 38 → begS (up s 75 0 0) c = s c := fun c hc => by rw [begS_row (by omega) (by omega), up_row (by omega)]
    have y022 : begS (up s 75 0 0) 75 22 = 1 := begS_22 (by rw [up_idx (by decide)]; exact hb)
    refine ⟨rt, fun zt => ⟨by omega, ?_⟩, fun zt => ⟨?_, fun z2 => ⟨by omega, ?_⟩, fun z2 => ?_⟩⟩
    · -- taken
      have t1 : t = 1 := by omega
      have gg : r1 = 1 ∧ (∀ c : Nat, ¬ (21 ≤ c ∧ c ≤ 38) → c ≠ 0 → s1 c = s c) ∧ s1 0 3 = 1 ∧ ∀ (x : Nat) (i : Int), rgL (s 17 1) x i → s1 (21 + x) i = s (3 + x) i := by
        rcases g with g | g | g
        · omega
        · omega
        · exact g.2
      rw [t1]
      rw [t1] at go
      refine go 1 (Or.inr rfl) (fun S st => ⟨gg.1.symm, ?_⟩)
      obtain ⟨_, s2, s3⟩ := st
      have B69 : (up (up (up y 75 68 1) 75 69 1) 75 70 0) 75 69 = 1 := by rw [up_idx (by decide), up_at]
      have Bc : ∀ (c : Nat) (i : Int), ¬ (c = 75 ∧ (i = 68 ∨ i = 69 ∨ i = 70)) → (up (up (up y 75 68 1) 75 69 1) 75 70 0) c i = y c i := fun c i q => by rw [up_ne (by omega), up_ne (by omega), up_ne (by omega)]
      have Sc : ∀ (c : Nat) (i : Int), c ≠ 118 → ¬ (c = 75 ∧ (i = 68 ∨ i = 69 ∨ i = 70)) → S c i = y c i := fun c i q1 q2 => by rw [s2 c i q1 (by omega), if_neg (fun e => absurd e.1 (by decide)), Bc c i q2]
      have Sh : ∀ (c : Nat) (i : Int), 39 ≤ c → c ≠ 118 → ¬ (c = 75 ∧ (i = 68 ∨ i = 69 ∨ i = 70)) → S c i = begS (up s 75 0 0) c i := fun c i q0 q1 q2 => by rw [Sc c i q1 q2, yy c q0]
      have Sl : ∀ (c : Nat) (i : Int), c ≤ 38 → ¬ (21 ≤ c) → c ≠ 0 → S c i = begS (up s 75 0 0) c i := fun c i q0 q1 q2 => by rw [Sc c i (by omega) (by omega), yc c q0, gg.2.1 c (by omega) q2, y0l c q0]
      refine iy0.img (fun c hc => funext (fun i => ?_)) (fun i hi => Sh 75 i (by decide) (by decide) (by omega)) (fun i hi => Sh 39 i (by decide) (by decide) (by omega)) (iy0.2.1.congr (fun c i c1 c2 => Sl c i (by omega) (by omega) (by omega)) (fun c i hp => Sh c i (by unfold perM at hp; omega) (by unfold perM at hp; omega) (by unfold perM at hp; omega))) (Or.inr (by rw [Sh 75 22 (by decide) (by decide) (by omega)]; exact y022)) ⟨?_, ?_⟩ ⟨begS (up s 75 0 0), iy0.2.1.mv2 (fun x i hx => ?_) (fun _ _ _ => rfl) rfl, img_of (fun c i hc => ?_), y022⟩
      · by_cases q : c ≤ 38
        · exact Sl c i q (by omega) (by omega)
        · exact Sh c i (by omega) (by omega) (by omega)
      · rw [Sc 0 3 (by decide) (by omega), yc 0 (by decide), gg.2.2.1, s2 75 69 (by decide) (by decide), if_neg (fun e => absurd e.1 (by decide)), B69]
      · rw [Sc 0 3 (by decide) (by omega), yc 0 (by decide), gg.2.2.1]
      · have x17 := lo2 x _ i hx
        rw [Sc (21 + x) i (by omega) (by omega), yc (21 + x) (by omega), y0l (3 + x) (by omega)]
        rw [y0l (3 + 14) (by omega)] at hx
        exact gg.2.2.2 x i hx
      · have pm := sx_perM hc
        have sl := sx_sl hc
        rw [s3 (sxI c i), if_pos ⟨by decide, hc, sx_bd⟩, sl.1, sl.2, Bc c i (by omega), yy c (by omega)]
    · rw [y75 69 (by decide) (by decide), ← i1]
      rcases i2 with q | q <;> rw [q] <;> decide
    · -- given back
      have e69 : y 75 69 = s 0 3 := by rw [y75 69 (by decide) (by decide), i1]
      have e03 : s 0 3 = 1 := by omega
      obtain ⟨m, k1, k2, k3⟩ := i3 () e03
      have gg : r1 = 1 ∧ (∀ c : Nat, ¬ (3 ≤ c ∧ c ≤ 20) → s1 c = s c) ∧ ∀ (x : Nat) (i : Int), rgL (s 35 1) x i → s1 (3 + x) i = s (21 + x) i := by
        rcases g with g | g | g
        · omega
        · exact g.2.2
        · omega
      rw [zt]
      rw [zt] at go
      refine go 0 (Or.inl rfl) (fun S st => ⟨gg.1.symm, ?_⟩)
      obtain ⟨_, s2, s3⟩ := st
      have B69 : (up (up (up y 75 68 0) 75 69 1) 75 70 0) 75 69 = 1 := by rw [up_idx (by decide), up_at]
      have Bc : ∀ (c : Nat) (i : Int), ¬ (c = 75 ∧ (i = 68 ∨ i = 69 ∨ i = 70)) → (up (up (up y 75 68 0) 75 69 1) 75 70 0) c i = y c i := fun c i q => by rw [up_ne (by omega), up_ne (by omega), up_ne (by omega)]
      have Sc : ∀ (c : Nat) (i : Int), c ≠ 118 → ¬ (c = 75 ∧ (i = 68 ∨ i = 69 ∨ i = 70)) → ¬ 0 ≤ sxI c i → S c i = y c i := fun c i q1 q2 q3 => by rw [s2 c i q1 (by omega), if_neg (fun e => q3 e.2.1), Bc c i q2]
      have S118 : S 118 = s 118 := funext (fun j => by rw [s3 j, if_neg (fun e => e.1 rfl), Bc 118 j (by omega), yy 118 (by decide), begS_row (by decide) (by decide), up_row (by decide)])
      have Sm : ∀ (c : Nat) (i : Int), 0 ≤ sxI c i → S c i = m c i := fun c i hc => by
        have pm := sx_perM hc
        rw [s2 c i pm.1 (by omega), if_pos ⟨rfl, hc, sx_bd⟩, Bc 118 _ (by omega), yy 118 (by decide), begS_row (by decide) (by decide), up_row (by decide)]
        exact img_at k2 hc
      have S22 : S 75 22 = 1 := by rw [Sc 75 22 (by decide) (by omega) (by decide)]; exact yb
      have Sl : ∀ (c : Nat) (i : Int), c ≤ 38 → S c i = s1 c i := fun c i q0 => by rw [Sc c i (by omega) (by omega) (low c i (by omega)), yc c q0]
      have S75 : ∀ i : Int, (i = 24 ∨ i = 42 ∨ i = 43 ∨ i = 59) → S 75 i = begS (up s 75 0 0) 75 i := fun i hi => by
        have q : ¬ 0 ≤ sxI 75 i := by rcases hi with rfl | rfl | rfl | rfl <;> decide
        rw [Sc 75 i (by decide) (by omega) q, yy 75 (by decide)]
      refine iy0.img (fun c hc => funext (fun i => ?_)) S75 (fun i hi => by rw [Sc 39 i (by decide) (by omega) (low 39 i (by decide)), yy 39 (by decide)]) (k1.mv2 (fun x i hx => ?_) Sm (by rw [S22, k3])) (Or.inr S22) ⟨?_, ?_⟩ ⟨m, k1.mv2 (fun x i hx => ?_) (fun _ _ _ => rfl) rfl, by rw [S118]; exact k2, k3⟩
      · rcases hc with rfl | rfl | rfl | rfl
        · rw [Sl 1 i (by decide), gg.2.1 1 (by decide), y0l 1 (by decide)]
        · rw [Sl 2 i (by decide), gg.2.1 2 (by decide), y0l 2 (by decide)]
        · rw [Sc 91 i (by decide) (by omega) (by show ¬ (0 : Int) ≤ -1; decide), yy 91 (by decide)]
        · rw [Sc 92 i (by decide) (by omega) (by show ¬ (0 : Int) ≤ -1; decide), yy 92 (by decide)]
      · have x17 := lo2 x _ i hx
        rw [Sl (3 + x) i (by omega)]
        exact gg.2.2 x i hx
      · rw [Sl 0 3 (by decide), gg.2.1 0 (by decide), e03, s2 75 69 (by decide) (by decide), if_neg (fun e => absurd e.2.1 (by decide)), B69]
      · rw [Sl 0 3 (by decide), gg.2.1 0 (by decide), e03]
      · have x17 := lo2 x _ i hx
        rw [Sl (21 + x) i (by omega), gg.2.1 (21 + x) (by omega)]
    · -- there is none
      have e69 : y 75 69 = s 0 3 := by rw [y75 69 (by decide) (by decide), i1]
      have gg : r1 = 0 ∧ s1 = s := by
        rcases g with g | g | g
        · exact g.2.2
        · omega
        · omega
      refine ⟨gg.1.symm, ?_⟩
      rw [hy, hz, gg.2]
      exact iy0
