/-! THE FEE, in the class -/
set_option maxHeartbeats 4000000 in
theorem t_X1_feeOf {now next na nb : Int} {f g : Int → Int} {s : Sto} (hA : NmR now na f) (hB : NmR next nb g) (hc : 0 ≤ s 4 2 ∧ s 4 2 ≤ 99) (ht : 0 ≤ s 4 3 ∧ s 4 3 ≤ 99) (hd : 0 ≤ s 4 4 ∧ s 4 4 ≤ 99) : ClI LY 2 MX1_feeOf [.inr 52, .inr 4, .inl now, .inl next] s (fun r s' => (∀ c : Nat, c ≠ 55 → s' c = s c) ∧ r = lv (s 4 3) (s 4 4) (s 4 2) f g na nb) := by
  refine ClI.intro (by decide) rfl (Nat.le_of_ble_eq_true rfl) (fun X C r => ?_)
  have hna := hA.1
  have hnb := hB.1
  have bd := lv_bd (f := f) (g := g) ht hd hc
  have l0 := fun (j : Int) (h : 0 ≤ j) => lv_0 (t := s 4 3) (d := s 4 4) (c := s 4 2) (f := f) (g := g) (j := j) h
  have li := fun (j : Int) (h : 0 ≤ j) => lv_i (t := s 4 3) (d := s 4 4) (c := s 4 2) (f := f) (g := g) (i := j) h
  have ls := fun (i j : Int) (h : 0 ≤ i) (h2 : 0 ≤ j) => lv_s (t := s 4 3) (d := s 4 4) (c := s 4 2) (f := f) (g := g) (i := i) (j := j) h h2
  generalize hL : lv (s 4 3) (s 4 4) (s 4 2) f g = L at *
  refine kb_X1_feeOf_0 C r ⟨1, _, by decide, t_X5_nameLength hB, ?_⟩
  rintro r1 s1 ⟨rfl, rfl⟩
  -- the rows
  have rows : ∀ S : Sto, ((∀ c : Nat, c ≠ 55 → S c = s1 c) ∧ ∀ j : Int, 0 ≤ j → j ≤ r1 → S 55 j = L 0 j) → G LY X 38 [rv 52, rv 4, iv now, iv next, iv r1, iv 0, none, none, none, none, none] [] S := by
    refine downI (P := fun i => ∀ S : Sto, ((∀ c : Nat, c ≠ 55 → S c = s1 c) ∧ ∀ j : Int, 0 ≤ j → j ≤ r1 → S 55 j = L i j) → G LY X 38 [rv 52, rv 4, iv now, iv next, iv r1, iv i, none, none, none, none, none] [] S) (a := 0) (b := na) hna.1 ?_ ?_
    · rintro S ⟨k1, k2⟩
      refine kb_X1_feeOf_38 C r ⟨1, _, by decide, t_X5_nameLength hA, ?_⟩
      rintro r2 s2 ⟨ht2, rfl⟩
      rw [ht2]
      exact ⟨⟨⟨by omega, by omega⟩, ⟨by omega, by omega⟩⟩, fun _ => ⟨⟨by omega, by omega⟩, k1, k2 _ hnb.1 (by omega)⟩, fun z => absurd z (by omega)⟩
    · rintro i i0 i1 ih S ⟨k1, k2⟩
      have inner : ∀ (S : Sto) (y : Int), ((∀ c : Nat, c ≠ 55 → S c = s1 c) ∧ (∀ j : Int, 0 ≤ j → j ≤ 0 → S 55 j = L (i + 1) j) ∧ (∀ j : Int, 0 < j → j ≤ r1 → S 55 j = L i j) ∧ y = L i 0) → G LY X 70 [rv 52, rv 4, iv now, iv next, iv r1, iv i, iv y, iv (0 + 1), none, none, none] [] S := by
        refine downI (P := fun k => ∀ (S : Sto) (y : Int), ((∀ c : Nat, c ≠ 55 → S c = s1 c) ∧ (∀ j : Int, 0 ≤ j → j ≤ k → S 55 j = L (i + 1) j) ∧ (∀ j : Int, k < j → j ≤ r1 → S 55 j = L i j) ∧ y = L i k) → G LY X 70 [rv 52, rv 4, iv now, iv next, iv r1, iv i, iv y, iv (k + 1), none, none, none] [] S) (a := 0) (b := r1) hnb.1 ?_ ?_
        · rintro S y ⟨m1, m2, m3, m4⟩
          exact kb_X1_feeOf_70 C r (by omega) ⟨⟨⟨by omega, by omega⟩, ⟨by omega, by omega⟩⟩, fun _ => ih S ⟨m1, m2⟩, fun z => absurd z (by omega)⟩
        · rintro k k0 k1 ihk S y ⟨m1, m2, m3, m4⟩
          have e4 : S 4 = s1 4 := m1 4 (by decide)
          have b1 := bd i k ⟨by omega, by omega⟩ ⟨by omega, by omega⟩
          have b2 := bd i (k + 1) ⟨by omega, by omega⟩ ⟨by omega, by omega⟩
          have b3 := bd (i + 1) k ⟨by omega, by omega⟩ ⟨by omega, by omega⟩
          have q1 := hA.2.1 i i0 i1
          have q2 := hB.2.1 k k0 k1
          have lss := ls i k i0 k0
          have nx : ∀ v : Int, v = L (i + 1) (k + 1) → G LY X 70 [rv 52, rv 4, iv now, iv next, iv r1, iv i, iv (S 55 (k + 1)), iv (k + 1 + 1), none, none, none] [] (up S 55 (k + 1) v) := by
            intro v hv
            refine ihk _ _ ⟨fun c g1 => by rw [up_row g1, m1 c g1], fun j j1 j2 => ?_, fun j j1 j2 => by rw [up_idx (by omega), m3 j (by omega) j2], m3 (k + 1) (by omega) (by omega)⟩
            rw [up_if]
            by_cases q : j = k + 1
            · rw [if_pos q, hv, q]
            · rw [if_neg q, m2 j j1 (by omega)]
          refine kb_X1_feeOf_70 C r (by omega) ⟨⟨⟨by omega, by omega⟩, ⟨by omega, by omega⟩⟩, fun z => absurd z (by omega), fun _ => ⟨0, _, by decide, t_X5_nameLetter, ?_⟩⟩
          rintro x1 t1 ⟨ht1, hx1⟩
          rw [ht1]
          refine ⟨0, _, by decide, t_X5_nameLetter, ?_⟩
          rintro x2 t2 ⟨ht2, hx2⟩
          rw [ht2]
          rw [hA.letter ⟨i0, by omega⟩, if_pos i1] at hx1
          rw [show k + 1 - 1 = k by omega] at hx2 ⊢
          rw [hB.letter ⟨k0, by omega⟩, if_pos k1] at hx2
          rw [← hx1, ← hx2] at lss
          rw [e4, m4, m2 k k0 (by omega)]
          rw [m3 (k + 1) (by omega) (by omega)] at nx ⊢
          generalize f i = y1 at *
          generalize g k = y2 at *
          generalize s1 4 2 = vc at *
          generalize s1 4 3 = vt at *
          generalize s1 4 4 = vd at *
          generalize L i k = w1 at *
          generalize L i (k + 1) = w2 at *
          generalize L (i + 1) k = w3 at *
          generalize L (i + 1) (k + 1) = w4 at *
          refine ⟨⟨⟨by omega, by omega⟩, ⟨by omega, by omega⟩⟩, fun z => ?_, fun z => ?_⟩
          · rw [if_neg z] at lss
            refine ⟨⟨by omega, by omega⟩, ⟨by omega, by omega⟩, ⟨by omega, by omega⟩, ⟨⟨by omega, by omega⟩, ⟨by omega, by omega⟩⟩, ⟨⟨by omega, by omega⟩, ⟨by omega, by omega⟩⟩, ⟨by omega, by omega⟩, ?_⟩
            rintro t rfl
            exact nx _ (by omega)
          · rw [if_pos z] at lss
            refine ⟨⟨by omega, by omega⟩, ⟨by omega, by omega⟩, ⟨by omega, by omega⟩, ⟨⟨by omega, by omega⟩, ⟨by omega, by omega⟩⟩, ⟨⟨by omega, by omega⟩, ⟨by omega, by omega⟩⟩, ⟨by omega, by omega⟩, ?_⟩
            rintro t rfl
            exact nx _ (by omega)
      refine kb_X1_feeOf_38 C r ⟨1, _, by decide, t_X5_nameLength hA, ?_⟩
      rintro r2 s2 ⟨ht2, rfl⟩
      rw [ht2]
      refine ⟨⟨⟨by omega, by omega⟩, ⟨by omega, by omega⟩⟩, fun z => absurd z (by omega), fun _ => ?_⟩
      rintro t rfl
      refine inner _ _ ⟨fun c g1 => by rw [up_row g1, k1 c g1], fun j j1 j2 => ?_, fun j j1 j2 => by rw [up_idx (by omega), k2 j (by omega) j2], k2 0 (by decide) hnb.1⟩
      rw [show j = 0 by omega, up_at, k2 0 (by decide) hnb.1, li i i0, li (i + 1) (by omega), k1 4 (by decide), Int.add_mul, Int.one_mul]
  suffices H : ∀ S : Sto, ((∀ c : Nat, c ≠ 55 → S c = s1 c) ∧ ∀ j : Int, 0 ≤ j → j < 0 → S 55 j = L 0 j) → G LY X 9 [rv 52, rv 4, iv now, iv next, iv r1, iv 0, none, none, none, none, none] [] S from H s1 ⟨fun _ _ => rfl, fun j j1 j2 => absurd j2 (by omega)⟩
  refine downI (P := fun k => ∀ S : Sto, ((∀ c : Nat, c ≠ 55 → S c = s1 c) ∧ ∀ j : Int, 0 ≤ j → j < k → S 55 j = L 0 j) → G LY X 9 [rv 52, rv 4, iv now, iv next, iv r1, iv k, none, none, none, none, none] [] S) (a := 0) (b := r1 + 1) (by omega) ?_ ?_
  · rintro S ⟨m1, m2⟩
    exact kb_X1_feeOf_9 C r ⟨⟨⟨by omega, by omega⟩, ⟨by omega, by omega⟩⟩, fun _ => rows S ⟨m1, fun j j1 j2 => m2 j j1 (by omega)⟩, fun z => absurd z (by omega)⟩
  · rintro k k0 k1 ihk S ⟨m1, m2⟩
    refine kb_X1_feeOf_9 C r ⟨⟨⟨by omega, by omega⟩, ⟨by omega, by omega⟩⟩, fun z => absurd z (by omega), fun _ => ⟨⟨by omega, by omega⟩, ?_⟩⟩
    rintro t rfl
    rw [m1 4 (by decide)]
    refine ihk _ ⟨fun c g1 => by rw [up_row g1, m1 c g1], fun j j1 j2 => ?_⟩
    rw [up_if]
    by_cases q : j = k
    · rw [if_pos q, q, l0 k k0]
    · rw [if_neg q, m2 j j1 (by omega)]
