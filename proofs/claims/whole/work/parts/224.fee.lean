/-! THE FEE -/
def lev (t d c : Int) (f g : Int → Int) : Nat → Nat → Int
  | 0, j => (j : Int) * t
  | i + 1, 0 => ((i + 1 : Nat) : Int) * d
  | i + 1, j + 1 => min (lev t d c f g i j + if f i = g j then 0 else c) (min (lev t d c f g i (j + 1) + d) (lev t d c f g (i + 1) j + t))
theorem lev_0 {t d c : Int} {f g : Int → Int} (j : Nat) : lev t d c f g 0 j = (j : Int) * t := by rw [lev]
theorem lev_i0 {t d c : Int} {f g : Int → Int} (i : Nat) : lev t d c f g (i + 1) 0 = ((i + 1 : Nat) : Int) * d := by rw [lev]
theorem lev_ss {t d c : Int} {f g : Int → Int} (i j : Nat) : lev t d c f g (i + 1) (j + 1) = min (lev t d c f g i j + if f i = g j then 0 else c) (min (lev t d c f g i (j + 1) + d) (lev t d c f g (i + 1) j + t)) := by rw [lev]
theorem lev_bd {t d c : Int} {f g : Int → Int} (ht : 0 ≤ t ∧ t ≤ 99) (hd : 0 ≤ d ∧ d ≤ 99) (hc : 0 ≤ c ∧ c ≤ 99) : ∀ i j : Nat, i ≤ 6 → j ≤ 6 → 0 ≤ lev t d c f g i j ∧ lev t d c f g i j ≤ 99 * ((i : Int) + j)
  | 0, j, _, hj => by
    rw [lev_0]
    have h1 : 0 ≤ (j : Int) * t := Int.mul_nonneg (by omega) ht.1
    have h2 : (j : Int) * t ≤ (j : Int) * 99 := Int.mul_le_mul_of_nonneg_left ht.2 (by omega)
    omega
  | i + 1, 0, hi, _ => by
    rw [lev_i0]
    have h1 : 0 ≤ ((i + 1 : Nat) : Int) * d := Int.mul_nonneg (by omega) hd.1
    have h2 : ((i + 1 : Nat) : Int) * d ≤ ((i + 1 : Nat) : Int) * 99 := Int.mul_le_mul_of_nonneg_left hd.2 (by omega)
    omega
  | i + 1, j + 1, hi, hj => by
    have h1 := lev_bd (f := f) (g := g) ht hd hc i j (by omega) (by omega)
    have h2 := lev_bd (f := f) (g := g) ht hd hc i (j + 1) (by omega) (by omega)
    have h3 := lev_bd (f := f) (g := g) ht hd hc (i + 1) j (by omega) (by omega)
    rw [lev_ss]
    by_cases q : f i = g j
    · rw [if_pos q]; omega
    · rw [if_neg q]; omega
/-- the same over whole numbers -/
def lv (t d c : Int) (f g : Int → Int) (i j : Int) : Int := lev t d c f g i.toNat j.toNat
theorem lv_0 {t d c j : Int} {f g : Int → Int} (h : 0 ≤ j) : lv t d c f g 0 j = j * t := by
  show lev t d c f g 0 j.toNat = _
  rw [lev_0, Int.toNat_of_nonneg h]
theorem lv_i {t d c i : Int} {f g : Int → Int} (h : 0 ≤ i) : lv t d c f g i 0 = i * d := by
  obtain ⟨n, rfl⟩ := Int.eq_ofNat_of_zero_le h
  cases n with
  | zero => show lev t d c f g 0 0 = ((0 : Nat) : Int) * d; rw [lev_0]; simp
  | succ n => exact lev_i0 n
theorem lv_s {t d c i j : Int} {f g : Int → Int} (h1 : 0 ≤ i) (h2 : 0 ≤ j) : lv t d c f g (i + 1) (j + 1) = min (lv t d c f g i j + if f i = g j then 0 else c) (min (lv t d c f g i (j + 1) + d) (lv t d c f g (i + 1) j + t)) := by
  obtain ⟨n, rfl⟩ := Int.eq_ofNat_of_zero_le h1
  obtain ⟨m, rfl⟩ := Int.eq_ofNat_of_zero_le h2
  exact lev_ss n m
theorem lv_bd {t d c : Int} {f g : Int → Int} (ht : 0 ≤ t ∧ t ≤ 99) (hd : 0 ≤ d ∧ d ≤ 99) (hc : 0 ≤ c ∧ c ≤ 99) (i j : Int) (hi : 0 ≤ i ∧ i ≤ 6) (hj : 0 ≤ j ∧ j ≤ 6) : 0 ≤ lv t d c f g i j ∧ lv t d c f g i j ≤ 1188 := by
  have := lev_bd (f := f) (g := g) ht hd hc i.toNat j.toNat (by omega) (by omega)
  unfold lv
  omega
theorem lv_congr {t d c : Int} {f g f' g' : Int → Int} {n m : Int} (hf : ∀ k : Int, 0 ≤ k → k < n → f k = f' k) (hg : ∀ k : Int, 0 ≤ k → k < m → g k = g' k) (hn : 0 ≤ n) (hm : 0 ≤ m) : lv t d c f g n m = lv t d c f' g' n m := by
  have key : ∀ i j : Nat, (i : Int) ≤ n → (j : Int) ≤ m → lev t d c f g i j = lev t d c f' g' i j := by
    intro i
    induction i with
    | zero => intro j _ _; rw [lev_0, lev_0]
    | succ i ihi =>
      intro j
      induction j with
      | zero => intro _ _; rw [lev_i0, lev_i0]
      | succ j ihj =>
        intro h1 h2
        rw [lev_ss, lev_ss, ihi j (by omega) (by omega), ihi (j + 1) (by omega) (by omega), ihj (by omega) (by omega), hf i (by omega) (by omega), hg j (by omega) (by omega)]
  exact key _ _ (by omega) (by omega)
set_option maxHeartbeats 4000000 in
theorem t_X12_feeOf {a b : Int} {s : Sto} (ha : 0 ≤ a ∧ a < 51) (hb : 0 ≤ b ∧ b < 51) (hna : 0 ≤ s 76 a ∧ s 76 a ≤ 6) (hnb : 0 ≤ s 76 b ∧ s 76 b ≤ 6) (hfa : ∀ i : Int, 0 ≤ i → i < s 76 a → 0 ≤ s 77 (6 * a + i) ∧ s 77 (6 * a + i) < 26) (hfb : ∀ i : Int, 0 ≤ i → i < s 76 b → 0 ≤ s 77 (6 * b + i) ∧ s 77 (6 * b + i) < 26) (hc : 0 ≤ s 82 2 ∧ s 82 2 ≤ 99) (ht : 0 ≤ s 82 3 ∧ s 82 3 ≤ 99) (hd : 0 ≤ s 82 4 ∧ s 82 4 ≤ 99) : ClI LY 0 MX12_feeOf [.inr 75, .inl a, .inl b] s (fun r s' => (∀ c : Nat, c ≠ 104 → c ≠ 105 → s' c = s c) ∧ r = lv (s 82 3) (s 82 4) (s 82 2) (fun i => s 77 (6 * a + i)) (fun i => s 77 (6 * b + i)) (s 76 a) (s 76 b)) := by
  refine ClI.intro (by decide) rfl (Nat.le_of_ble_eq_true rfl) (fun X C r => ?_)
  refine kb_X12_feeOf_0 C r ?_
  have bd := lv_bd (f := fun i => s 77 (6 * a + i)) (g := fun i => s 77 (6 * b + i)) ht hd hc
  have l0 := fun (j : Int) (h : 0 ≤ j) => lv_0 (t := s 82 3) (d := s 82 4) (c := s 82 2) (f := fun i => s 77 (6 * a + i)) (g := fun i => s 77 (6 * b + i)) (j := j) h
  have li := fun (j : Int) (h : 0 ≤ j) => lv_i (t := s 82 3) (d := s 82 4) (c := s 82 2) (f := fun i => s 77 (6 * a + i)) (g := fun i => s 77 (6 * b + i)) (i := j) h
  have ls := fun (i j : Int) (h : 0 ≤ i) (h2 : 0 ≤ j) => lv_s (t := s 82 3) (d := s 82 4) (c := s 82 2) (f := fun i => s 77 (6 * a + i)) (g := fun i => s 77 (6 * b + i)) (i := i) (j := j) h h2
  generalize hL : lv (s 82 3) (s 82 4) (s 82 2) (fun i => s 77 (6 * a + i)) (fun i => s 77 (6 * b + i)) = L at *
  -- the rows
  have rows : ∀ S : Sto, ((∀ c : Nat, c ≠ 104 → c ≠ 105 → S c = s c) ∧ ∀ j : Int, 0 ≤ j → j ≤ s 76 b → S 104 j = L 0 j) → G LY X 34 [rv 75, iv a, iv b, iv (0 + 1), none, none, none] [] S := by
    refine downI (P := fun i => ∀ S : Sto, ((∀ c : Nat, c ≠ 104 → c ≠ 105 → S c = s c) ∧ ∀ j : Int, 0 ≤ j → j ≤ s 76 b → S 104 j = L i j) → G LY X 34 [rv 75, iv a, iv b, iv (i + 1), none, none, none] [] S) (a := 0) (b := s 76 a) hna.1 ?_ ?_
    · rintro S ⟨k1, k2⟩
      have e76 : S 76 = s 76 := k1 76 (by decide) (by decide)
      refine kb_X12_feeOf_34 C r ⟨ha, ?_⟩
      rw [e76]
      exact ⟨⟨⟨by omega, by omega⟩, ⟨by omega, by omega⟩⟩, fun _ => ⟨hb, ⟨by omega, by omega⟩, k1, k2 _ hnb.1 (by omega)⟩, fun z => absurd z (by omega)⟩
    · rintro i i0 i1 ih S ⟨k1, k2⟩
      have e76 : S 76 = s 76 := k1 76 (by decide) (by decide)
      have e82 : S 82 = s 82 := k1 82 (by decide) (by decide)
      -- the row is taken over
      have copy : ∀ S : Sto, ((∀ c : Nat, c ≠ 104 → c ≠ 105 → S c = s c) ∧ (∀ j : Int, 0 ≤ j → j ≤ s 76 b → S 105 j = L (i + 1) j) ∧ ∀ j : Int, 0 ≤ j → j < 0 → S 104 j = L (i + 1) j) → G LY X 228 [rv 75, iv a, iv b, iv (i + 1), iv 0, none, none] [] S := by
        refine downI (P := fun k => ∀ S : Sto, ((∀ c : Nat, c ≠ 104 → c ≠ 105 → S c = s c) ∧ (∀ j : Int, 0 ≤ j → j ≤ s 76 b → S 105 j = L (i + 1) j) ∧ ∀ j : Int, 0 ≤ j → j < k → S 104 j = L (i + 1) j) → G LY X 228 [rv 75, iv a, iv b, iv (i + 1), iv k, none, none] [] S) (a := 0) (b := s 76 b + 1) (by omega) ?_ ?_
        · rintro S ⟨m1, m2, m3⟩
          have e76 : S 76 = s 76 := m1 76 (by decide) (by decide)
          refine kb_X12_feeOf_228 C r ⟨hb, ?_⟩
          rw [e76]
          exact ⟨⟨⟨by omega, by omega⟩, ⟨by omega, by omega⟩⟩, fun _ => ih S ⟨m1, fun j j1 j2 => m3 j j1 (by omega)⟩, fun z => absurd z (by omega)⟩
        · rintro k k0 k1 ihk S ⟨m1, m2, m3⟩
          have e76 : S 76 = s 76 := m1 76 (by decide) (by decide)
          refine kb_X12_feeOf_228 C r ⟨hb, ?_⟩
          rw [e76]
          refine ⟨⟨⟨by omega, by omega⟩, ⟨by omega, by omega⟩⟩, fun z => absurd z (by omega), fun _ => ⟨⟨by omega, by omega⟩, ⟨by omega, by omega⟩, ?_⟩⟩
          rintro t rfl
          refine ihk _ ⟨fun c g1 g2 => by rw [up_row g1, m1 c g1 g2], fun j j1 j2 => by rw [up_row (by decide), m2 j j1 j2], fun j j1 j2 => ?_⟩
          rw [up_if]
          by_cases q : j = k
          · rw [if_pos q, m2 k k0 (by omega), q]
          · rw [if_neg q, m3 j j1 (by omega)]
      have inner : ∀ S : Sto, ((∀ c : Nat, c ≠ 104 → c ≠ 105 → S c = s c) ∧ (∀ j : Int, 0 ≤ j → j ≤ s 76 b → S 104 j = L i j) ∧ ∀ j : Int, 0 ≤ j → j ≤ 0 → S 105 j = L (i + 1) j) → G LY X 61 [rv 75, iv a, iv b, iv (i + 1), iv (0 + 1), none, none] [] S := by
        refine downI (P := fun k => ∀ S : Sto, ((∀ c : Nat, c ≠ 104 → c ≠ 105 → S c = s c) ∧ (∀ j : Int, 0 ≤ j → j ≤ s 76 b → S 104 j = L i j) ∧ ∀ j : Int, 0 ≤ j → j ≤ k → S 105 j = L (i + 1) j) → G LY X 61 [rv 75, iv a, iv b, iv (i + 1), iv (k + 1), none, none] [] S) (a := 0) (b := s 76 b) hnb.1 ?_ ?_
        · rintro S ⟨m1, m2, m3⟩
          have e76 : S 76 = s 76 := m1 76 (by decide) (by decide)
          refine kb_X12_feeOf_61 C r ⟨hb, ?_⟩
          rw [e76]
          exact ⟨⟨⟨by omega, by omega⟩, ⟨by omega, by omega⟩⟩, fun _ => copy S ⟨m1, m3, fun j j1 j2 => absurd j2 (by omega)⟩, fun z => absurd z (by omega)⟩
        · rintro k k0 k1 ihk S ⟨m1, m2, m3⟩
          have e76 : S 76 = s 76 := m1 76 (by decide) (by decide)
          have e77 : S 77 = s 77 := m1 77 (by decide) (by decide)
          have e82 : S 82 = s 82 := m1 82 (by decide) (by decide)
          have b1 := bd i k ⟨by omega, by omega⟩ ⟨by omega, by omega⟩
          have b2 := bd i (k + 1) ⟨by omega, by omega⟩ ⟨by omega, by omega⟩
          have b3 := bd (i + 1) k ⟨by omega, by omega⟩ ⟨by omega, by omega⟩
          have q1 := hfa i i0 i1
          have q2 := hfb k k0 k1
          have lss := ls i k i0 k0
          have nx : ∀ v : Int, v = L (i + 1) (k + 1) → G LY X 61 [rv 75, iv a, iv b, iv (i + 1), iv (k + 1 + 1), none, none] [] (up S 105 (k + 1) v) := by
            intro v hv
            refine ihk _ ⟨fun c g1 g2 => by rw [up_row g2, m1 c g1 g2], fun j j1 j2 => by rw [up_row (by decide), m2 j j1 j2], fun j j1 j2 => ?_⟩
            rw [up_if]
            by_cases q : j = k + 1
            · rw [if_pos q, hv, q]
            · rw [if_neg q, m3 j j1 (by omega)]
          refine kb_X12_feeOf_61 C r ⟨hb, ?_⟩
          rw [e76, e77, e82, show 6 * a + (i + 1) - 1 = 6 * a + i by omega, show 6 * b + (k + 1) - 1 = 6 * b + k by omega, show k + 1 - 1 = k by omega, m2 k k0 (by omega), m2 (k + 1) (by omega) (by omega), m3 k k0 (by omega)]
          generalize s 77 (6 * a + i) = x1 at *
          generalize s 77 (6 * b + k) = x2 at *
          generalize s 82 2 = vc at *
          generalize s 82 3 = vt at *
          generalize s 82 4 = vd at *
          generalize L i k = y1 at *
          generalize L i (k + 1) = y2 at *
          generalize L (i + 1) k = y3 at *
          generalize L (i + 1) (k + 1) = y4 at *
          refine ⟨⟨⟨by omega, by omega⟩, ⟨by omega, by omega⟩⟩, fun z => absurd z (by omega), fun _ => ⟨⟨by omega, by omega⟩, ⟨by omega, by omega⟩, ⟨⟨by omega, by omega⟩, ⟨by omega, by omega⟩⟩, fun z => ?_, fun z => ?_⟩⟩
          · rw [if_neg z] at lss
            refine ⟨⟨by omega, by omega⟩, ⟨by omega, by omega⟩, ⟨⟨by omega, by omega⟩, ⟨by omega, by omega⟩⟩, fun z2 => ⟨⟨by omega, by omega⟩, ⟨⟨by omega, by omega⟩, ⟨by omega, by omega⟩⟩, fun z3 => ⟨⟨by omega, by omega⟩, ?_⟩, fun z3 => ⟨⟨by omega, by omega⟩, ⟨by omega, by omega⟩, ?_⟩⟩, fun z2 => ⟨⟨by omega, by omega⟩, ⟨by omega, by omega⟩, ⟨⟨by omega, by omega⟩, ⟨by omega, by omega⟩⟩, fun z3 => ⟨⟨by omega, by omega⟩, ?_⟩, fun z3 => ⟨⟨by omega, by omega⟩, ⟨by omega, by omega⟩, ?_⟩⟩⟩ <;> (rintro t rfl; exact nx _ (by omega))
          · rw [if_pos z] at lss
            refine ⟨⟨by omega, by omega⟩, ⟨by omega, by omega⟩, ⟨⟨by omega, by omega⟩, ⟨by omega, by omega⟩⟩, fun z2 => ⟨⟨by omega, by omega⟩, ⟨⟨by omega, by omega⟩, ⟨by omega, by omega⟩⟩, fun z3 => ⟨⟨by omega, by omega⟩, ?_⟩, fun z3 => ⟨⟨by omega, by omega⟩, ⟨by omega, by omega⟩, ?_⟩⟩, fun z2 => ⟨⟨by omega, by omega⟩, ⟨by omega, by omega⟩, ⟨⟨by omega, by omega⟩, ⟨by omega, by omega⟩⟩, fun z3 => ⟨⟨by omega, by omega⟩, ?_⟩, fun z3 => ⟨⟨by omega, by omega⟩, ⟨by omega, by omega⟩, ?_⟩⟩⟩ <;> (rintro t rfl; exact nx _ (by omega))
      refine kb_X12_feeOf_34 C r ⟨ha, ?_⟩
      rw [e76, e82]
      refine ⟨⟨⟨by omega, by omega⟩, ⟨by omega, by omega⟩⟩, fun z => absurd z (by omega), fun _ => ?_⟩
      rintro t rfl
      refine inner _ ⟨fun c g1 g2 => by rw [up_row g2, k1 c g1 g2], fun j j1 j2 => by rw [up_row (by decide), k2 j j1 j2], fun j j1 j2 => ?_⟩
      rw [show j = 0 by omega, up_at, li (i + 1) (by omega)]
  suffices H : ∀ S : Sto, ((∀ c : Nat, c ≠ 104 → c ≠ 105 → S c = s c) ∧ ∀ j : Int, 0 ≤ j → j < 0 → S 104 j = L 0 j) → G LY X 2 [rv 75, iv a, iv b, iv 0, none, none, none] [] S from H s ⟨fun _ _ _ => rfl, fun j j1 j2 => absurd j2 (by omega)⟩
  refine downI (P := fun k => ∀ S : Sto, ((∀ c : Nat, c ≠ 104 → c ≠ 105 → S c = s c) ∧ ∀ j : Int, 0 ≤ j → j < k → S 104 j = L 0 j) → G LY X 2 [rv 75, iv a, iv b, iv k, none, none, none] [] S) (a := 0) (b := s 76 b + 1) (by omega) ?_ ?_
  · rintro S ⟨m1, m2⟩
    refine kb_X12_feeOf_2 C r ⟨hb, ?_⟩
    rw [m1 76 (by decide) (by decide)]
    exact ⟨⟨⟨by omega, by omega⟩, ⟨by omega, by omega⟩⟩, fun _ => rows S ⟨m1, fun j j1 j2 => m2 j j1 (by omega)⟩, fun z => absurd z (by omega)⟩
  · rintro k k0 k1 ihk S ⟨m1, m2⟩
    refine kb_X12_feeOf_2 C r ⟨hb, ?_⟩
    rw [m1 76 (by decide) (by decide), m1 82 (by decide) (by decide)]
    refine ⟨⟨⟨by omega, by omega⟩, ⟨by omega, by omega⟩⟩, fun z => absurd z (by omega), fun _ => ⟨⟨by omega, by omega⟩, ?_⟩⟩
    rintro t rfl
    refine ihk _ ⟨fun c g1 g2 => by rw [up_row g1, m1 c g1 g2], fun j j1 j2 => ?_⟩
    rw [up_if]
    by_cases q : j = k
    · rw [if_pos q, q, l0 k k0]
    · rw [if_neg q, m2 j j1 (by omega)]
