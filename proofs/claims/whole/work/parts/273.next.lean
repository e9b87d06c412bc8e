/-! THE NEXT ORDER, in the class and in the reference -/
theorem t_X3_swap {a b : Int} {s : Sto} (ha : 0 ≤ a ∧ a < 8) (hb : 0 ≤ b ∧ b < 8) : ClV LY 0 MX3_swap [.inr 69, .inl a, .inl b] s (fun s' => s' = up (up s 72 a (s 72 b)) 72 b (s 72 a)) := by
  refine ClV.intro (by decide) rfl (Nat.le_of_ble_eq_true rfl) (fun X C r => ?_)
  refine kb_X3_swap_0 C r ⟨ha, hb, ha, ?_⟩
  rintro s1 rfl
  refine ⟨hb, ?_⟩
  rintro s2 rfl
  rfl
/-- the row behind a step -/
theorem nx_row {K : Int} {n f w : Nat} {r1 : Int → Int} (hK : 0 ≤ K) (hw : ∀ i : Nat, i < K.toNat → dgN K.toNat (nxN K.toNat n) i = ndN K.toNat n f w i) (fw : f < w) (wK : (w : Int) < K) (e1 : ∀ i : Int, 0 ≤ i → i < K → r1 i = if i = w then dgI K n f else if i = f then dgI K n w else dgI K n i) {i : Int} (i0 : 0 ≤ i) (i1 : i < K) : dgI K (nxN K.toNat n) i = if i ≤ f then r1 i else r1 (f + K - i) := by
  have h := hw i.toNat (by omega)
  have eI : ∀ j : Int, dgI K n j = ((dgN K.toNat n j.toNat : Nat) : Int) := fun _ => rfl
  have eN : ∀ j : Nat, dgI K n (j : Int) = ((dgN K.toNat n j : Nat) : Int) := fun j => by rw [eI, show ((j : Nat) : Int).toNat = j by omega]
  unfold dgI
  rw [h]
  unfold ndN
  by_cases q : i.toNat < f
  · rw [if_pos q, if_pos (by omega), e1 i i0 i1, if_neg (by omega), if_neg (by omega), eI]
  · rw [if_neg q]
    by_cases q2 : i.toNat = f
    · rw [if_pos q2, if_pos (by omega), e1 i i0 i1, if_neg (by omega), if_pos (by omega), eN]
    · rw [if_neg q2, if_neg (show ¬ i ≤ (f : Int) by omega), e1 (f + K - i) (by omega) (by omega)]
      by_cases q3 : K.toNat + f - i.toNat = w
      · rw [if_pos q3, if_pos (by omega), eN]
      · rw [if_neg q3, if_neg (by omega), if_neg (by omega), eI, show ((f : Int) + K - i).toNat = K.toNat + f - i.toNat by omega]
set_option maxHeartbeats 8000000 in
theorem t_X3_nextRow {K : Int} {n : Nat} {s : Sto} (hK : 2 ≤ K ∧ K ≤ 8) (hv : vdN K.toNat n = true) (hr : ∀ i : Int, 0 ≤ i → i < K → s 72 i = dgI K n i) : ClI LY 1 MX3_nextRow [.inr 69, .inl K] s (fun r s' => (∀ c : Nat, c ≠ 72 → s' c = s c) ∧ ((frN K.toNat n (K.toNat - 1) = 0 ∧ r = 0) ∨ (frN K.toNat n (K.toNat - 1) ≠ 0 ∧ r = 1 ∧ ∀ i : Int, 0 ≤ i → i < K → s' 72 i = dgI K (nxN K.toNat n) i))) := by
  refine ClI.introZ (by decide) rfl (Nat.le_of_ble_eq_true rfl) (fun X C r => ?_)
  refine kb_X3_nextRow_0 C r ?_
  have dN : ∀ i : Nat, (i : Int) < K → s 72 (i : Int) = ((dgN K.toNat n i : Nat) : Int) := fun i hi => by
    rw [hr i (by omega) hi]
    unfold dgI
    rw [show ((i : Nat) : Int).toNat = i by omega]
  have db : ∀ x : Nat, dgN K.toNat n x < 8 := fun x => Nat.mod_lt _ (by decide)
  have rr : ∀ i : Int, 0 ≤ i → i < K → rg (s 72 i) := fun i i0 i1 => by
    have := dN i.toNat (by omega)
    rw [Int.toNat_of_nonneg i0] at this
    have := db i.toNat
    exact ⟨by omega, by omega⟩
  by_cases q0 : frN K.toNat n (K.toNat - 1) = 0
  · -- the last one
    rcases fr_is (K := K.toNat) (n := n) (K.toNat - 1) with ⟨_, f1⟩ | ⟨f, _, f2, _⟩
    · have key : ∀ j : Int, -1 ≤ j → (j ≤ K - 2 → G LY X 4 [rv 69, iv K, iv j, none, none, none] [] s) := by
        refine risI (P := fun j => j ≤ K - 2 → G LY X 4 [rv 69, iv K, iv j, none, none, none] [] s) ?_ ?_
        · intro _
          exact kb_X3_nextRow_4 C r ⟨by decide, fun _ => ⟨by decide, fun z => absurd z (by decide), fun _ => ⟨fun _ _ => rfl, Or.inl ⟨q0, rfl⟩⟩⟩, fun z => absurd z (by decide)⟩
        · intro j j0 ih j1
          have a := f1 (j + 1).toNat (by omega)
          have e1 := dN (j + 1).toNat (by omega)
          have e2 := dN ((j + 1).toNat + 1) (by omega)
          rw [show (((j + 1).toNat + 1 : Nat) : Int) = j + 1 + 1 by omega] at e2
          rw [Int.toNat_of_nonneg (by omega)] at e1
          have ne : dgN K.toNat n (j + 1).toNat ≠ dgN K.toNat n ((j + 1).toNat + 1) := fun e => by
            have := (vd_is hv).2.1 _ _ (by omega) (by omega) e
            omega
          refine kb_X3_nextRow_4 C r ⟨⟨by omega, by omega⟩, fun z => absurd z (by omega), fun _ => ⟨⟨by omega, by omega⟩, ⟨by omega, by omega⟩, ⟨rr _ (by omega) (by omega), rr _ (by omega) (by omega)⟩, fun z => ?_, fun z => ?_⟩⟩
          · omega
          · rw [show j + 1 + (-1) = j by omega]
            exact ih (by omega)
      exact key (K - 2) (by omega) (Int.le_refl _)
    · omega
  · -- there is one
    obtain ⟨f, hf⟩ : ∃ f : Nat, frN K.toNat n (K.toNat - 1) = f + 1 := ⟨frN K.toNat n (K.toNat - 1) - 1, by omega⟩
    obtain ⟨w, w1, w2, w3, w4, w5, w6, w7, w8⟩ := nx_is (K := K.toNat) (by omega) hv hf
    have sf := dN f (by omega)
    have sf1 := dN (f + 1) (by omega)
    have sw := dN w (by omega)
    rw [show ((f + 1 : Nat) : Int) = (f : Int) + 1 by omega] at sf1
    -- turned round
    have turn : ∀ (r1 : Int → Int), (∀ i : Int, 0 ≤ i → i < K → r1 i = if i = w then dgI K n f else if i = f then dgI K n w else dgI K n i) → ∀ (m : Nat) (lo hi : Int) (S : Sto), ((f : Int) < lo ∧ lo ≤ K ∧ 0 ≤ hi ∧ hi < K) → lo + hi = f + K → hi - lo < m → (∀ c : Nat, c ≠ 72 → S c = s c) → (∀ i : Int, 0 ≤ i → i < K → S 72 i = if (f < i ∧ i < lo) ∨ hi < i then r1 (f + K - i) else r1 i) → G LY X 83 [rv 69, iv K, iv (f : Int), iv (w : Int), iv lo, iv hi] [] S := by
      intro r1 er m
      have close : ∀ (lo hi : Int) (S : Sto), ((f : Int) < lo ∧ lo ≤ K ∧ 0 ≤ hi ∧ hi < K) → lo + hi = f + K → hi ≤ lo → (∀ c : Nat, c ≠ 72 → S c = s c) → (∀ i : Int, 0 ≤ i → i < K → S 72 i = if (f < i ∧ i < lo) ∨ hi < i then r1 (f + K - i) else r1 i) → G LY X 83 [rv 69, iv K, iv (f : Int), iv (w : Int), iv lo, iv hi] [] S := by
        intro lo hi S h1 h2 h3 h4 h5
        refine kb_X3_nextRow_83 C r ⟨⟨⟨by omega, by omega⟩, ⟨by omega, by omega⟩⟩, fun _ => ⟨h4, Or.inr ⟨q0, rfl, fun i i0 i1 => ?_⟩⟩, fun z => absurd z (by omega)⟩
        rw [h5 i i0 i1, nx_row (by omega) w8 w2 (by omega) er i0 i1]
        by_cases z : i ≤ f
        · rw [if_pos z, if_neg (by omega)]
        · rw [if_neg z]
          by_cases z2 : (f < i ∧ i < lo) ∨ hi < i
          · rw [if_pos z2]
          · rw [if_neg z2, show (f : Int) + K - i = i by omega]
      induction m with
      | zero =>
        intro lo hi S h1 h2 h3 h4 h5
        exact close lo hi S h1 h2 (by omega) h4 h5
      | succ m ih =>
        intro lo hi S h1 h2 h3 h4 h5
        by_cases g : hi ≤ lo
        · exact close lo hi S h1 h2 g h4 h5
        · refine kb_X3_nextRow_83 C r ⟨⟨⟨by omega, by omega⟩, ⟨by omega, by omega⟩⟩, fun z => absurd z g, fun _ => ⟨0, _, by decide, t_X3_swap (by omega) (by omega), ?_⟩⟩
          rintro T hT
          refine ih (lo + 1) (hi + (-1)) T (by omega) (by omega) (by omega) (fun c hc => by rw [hT, up_row hc, up_row hc, h4 c hc]) (fun i i0 i1 => ?_)
          rw [hT, up_if, up_if, h5 lo (by omega) (by omega), h5 hi (by omega) (by omega), h5 i i0 i1, if_neg (by omega : ¬ ((f < lo ∧ lo < lo) ∨ hi < lo)), if_neg (by omega : ¬ ((f < hi ∧ hi < lo) ∨ hi < hi))]
          by_cases e1 : i = hi
          · rw [if_pos e1, if_pos (by omega), show (f : Int) + K - i = lo by omega]
          · rw [if_neg e1]
            by_cases e2 : i = lo
            · rw [if_pos e2, if_pos (by omega), show (f : Int) + K - i = hi by omega]
            · rw [if_neg e2]
              by_cases z : (f < i ∧ i < lo) ∨ hi < i
              · rw [if_pos z, if_pos (by omega)]
              · rw [if_neg z, if_neg (by omega)]
    -- with whom it changes places
    have sw' : G LY X 41 [rv 69, iv K, iv (f : Int), iv (w : Int), none, none] [] s := by
      refine kb_X3_nextRow_41 C r ⟨⟨⟨by omega, by omega⟩, ⟨by omega, by omega⟩⟩, fun z => absurd z (by omega), fun _ => ⟨⟨by omega, by omega⟩, ⟨by omega, by omega⟩, ⟨rr _ (by omega) (by omega), rr _ (by omega) (by omega)⟩, fun _ => ⟨0, _, by decide, t_X3_swap (by omega) (by omega), ?_⟩, fun z => absurd z (by omega)⟩⟩
      rintro T hT
      refine turn (T 72) (fun i i0 i1 => ?_) (K.toNat + 1) (f + 1) (K - 1) T (by omega) (by omega) (by omega) (fun c hc => by rw [hT, up_row hc, up_row hc]) (fun i i0 i1 => by rw [if_neg (by omega)])
      rw [hT, up_if, up_if, hr f (by omega) (by omega), hr w (by omega) (by omega), hr i i0 i1]
    have wth : ∀ j : Int, (w : Int) ≤ j → (j ≤ K - 1 → G LY X 41 [rv 69, iv K, iv (f : Int), iv j, none, none] [] s) := by
      refine risI (P := fun j => j ≤ K - 1 → G LY X 41 [rv 69, iv K, iv (f : Int), iv j, none, none] [] s) (fun _ => sw') ?_
      intro j j0 ih j1
      have a := w7 (j + 1).toNat (by omega) (by omega)
      have e1 := dN (j + 1).toNat (by omega)
      rw [Int.toNat_of_nonneg (by omega)] at e1
      refine kb_X3_nextRow_41 C r ⟨⟨⟨by omega, by omega⟩, ⟨by omega, by omega⟩⟩, fun z => absurd z (by omega), fun _ => ⟨⟨by omega, by omega⟩, ⟨by omega, by omega⟩, ⟨rr _ (by omega) (by omega), rr _ (by omega) (by omega)⟩, fun z => absurd z (by omega), fun _ => ?_⟩⟩
      rw [show j + 1 + (-1) = j by omega]
      exact ih (by omega)
    have from' : ∀ j : Int, (f : Int) ≤ j → (j ≤ K - 2 → G LY X 4 [rv 69, iv K, iv j, none, none, none] [] s) := by
      refine risI (P := fun j => j ≤ K - 2 → G LY X 4 [rv 69, iv K, iv j, none, none, none] [] s) (fun _ => ?_) ?_
      · exact kb_X3_nextRow_4 C r ⟨⟨by omega, by omega⟩, fun z => absurd z (by omega), fun _ => ⟨⟨by omega, by omega⟩, ⟨by omega, by omega⟩, ⟨rr _ (by omega) (by omega), rr _ (by omega) (by omega)⟩, fun _ => ⟨⟨by omega, by omega⟩, fun _ => wth (K - 1) (by omega) (Int.le_refl _), fun z => absurd z (by omega)⟩, fun z => absurd z (by omega)⟩⟩
      · intro j j0 ih j1
        have a := w5 (j + 1).toNat (by omega) (by omega)
        have e1 := dN (j + 1).toNat (by omega)
        have e2 := dN ((j + 1).toNat + 1) (by omega)
        rw [show (((j + 1).toNat + 1 : Nat) : Int) = j + 1 + 1 by omega] at e2
        rw [Int.toNat_of_nonneg (by omega)] at e1
        refine kb_X3_nextRow_4 C r ⟨⟨by omega, by omega⟩, fun z => absurd z (by omega), fun _ => ⟨⟨by omega, by omega⟩, ⟨by omega, by omega⟩, ⟨rr _ (by omega) (by omega), rr _ (by omega) (by omega)⟩, fun z => absurd z (by omega), fun _ => ?_⟩⟩
        rw [show j + 1 + (-1) = j by omega]
        exact ih (by omega)
    exact from' (K - 2) (by omega) (Int.le_refl _)
set_option maxHeartbeats 8000000 in
theorem t_X12_nextOrder {K : Int} {n : Nat} {s : Sto} (h9 : s 75 9 = K) (hK : 2 ≤ K ∧ K ≤ 8) (hv : vdN K.toNat n = true) (hr : ∀ i : Int, 0 ≤ i → i < K → s 81 (152 + i) = dgI K n i) : ClI LY 0 MX12_nextOrder [.inr 75] s (fun r s' => ((∀ c : Nat, c ≠ 81 → s' c = s c) ∧ ∀ i : Int, ¬ (152 ≤ i ∧ i < 160) → s' 81 i = s 81 i) ∧ ((frN K.toNat n (K.toNat - 1) = 0 ∧ r = 0) ∨ (frN K.toNat n (K.toNat - 1) ≠ 0 ∧ r = 1 ∧ ∀ i : Int, 0 ≤ i → i < K → s' 81 (152 + i) = dgI K (nxN K.toNat n) i))) := by
  refine ClI.introZ (by decide) rfl (Nat.le_of_ble_eq_true rfl) (fun X C r => ?_)
  refine kb_X12_nextOrder_0 C r ?_
  rw [h9]
  have dN : ∀ i : Nat, (i : Int) < K → s 81 (152 + (i : Int)) = ((dgN K.toNat n i : Nat) : Int) := fun i hi => by
    rw [hr i (by omega) hi]
    unfold dgI
    rw [show ((i : Nat) : Int).toNat = i by omega]
  have db : ∀ x : Nat, dgN K.toNat n x < 8 := fun x => Nat.mod_lt _ (by decide)
  have rr : ∀ i : Int, 0 ≤ i → i < K → rg (s 81 (152 + i)) := fun i i0 i1 => by
    have := dN i.toNat (by omega)
    rw [Int.toNat_of_nonneg i0] at this
    have := db i.toNat
    exact ⟨by omega, by omega⟩
  have as1 : ∀ x : Int, 152 + x + 1 = 152 + (x + 1) := fun x => by omega
  by_cases q0 : frN K.toNat n (K.toNat - 1) = 0
  · rcases fr_is (K := K.toNat) (n := n) (K.toNat - 1) with ⟨_, f1⟩ | ⟨f, _, f2, _⟩
    · have key : ∀ j : Int, -1 ≤ j → (j ≤ K - 2 → G LY X 11 [rv 75, iv 152, iv j, none, none, none, none] [] s) := by
        refine risI (P := fun j => j ≤ K - 2 → G LY X 11 [rv 75, iv 152, iv j, none, none, none, none] [] s) ?_ ?_
        · intro _
          exact kb_X12_nextOrder_11 C r ⟨by decide, fun _ => ⟨by decide, fun z => absurd z (by decide), fun _ => ⟨⟨fun _ _ => rfl, fun _ _ => rfl⟩, Or.inl ⟨q0, rfl⟩⟩⟩, fun z => absurd z (by decide)⟩
        · intro j j0 ih j1
          have a := f1 (j + 1).toNat (by omega)
          have e1 := dN (j + 1).toNat (by omega)
          have e2 := dN ((j + 1).toNat + 1) (by omega)
          rw [show (((j + 1).toNat + 1 : Nat) : Int) = j + 1 + 1 by omega] at e2
          rw [Int.toNat_of_nonneg (by omega)] at e1
          have ne : dgN K.toNat n (j + 1).toNat ≠ dgN K.toNat n ((j + 1).toNat + 1) := fun e => by
            have := (vd_is hv).2.1 _ _ (by omega) (by omega) e
            omega
          refine kb_X12_nextOrder_11 C r ?_
          rw [as1]
          refine ⟨⟨by omega, by omega⟩, fun z => absurd z (by omega), fun _ => ⟨⟨by omega, by omega⟩, ⟨by omega, by omega⟩, ⟨rr _ (by omega) (by omega), rr _ (by omega) (by omega)⟩, fun z => ?_, fun z => ?_⟩⟩
          · omega
          · rw [show j + 1 - 1 = j by omega]
            exact ih (by omega)
      exact key (K - 2) (by omega) (Int.le_refl _)
    · omega
  · obtain ⟨f, hf⟩ : ∃ f : Nat, frN K.toNat n (K.toNat - 1) = f + 1 := ⟨frN K.toNat n (K.toNat - 1) - 1, by omega⟩
    obtain ⟨w, w1, w2, w3, w4, w5, w6, w7, w8⟩ := nx_is (K := K.toNat) (by omega) hv hf
    have sf := dN f (by omega)
    have sf1 := dN (f + 1) (by omega)
    have sw := dN w (by omega)
    rw [show ((f + 1 : Nat) : Int) = (f : Int) + 1 by omega] at sf1
    have turn : ∀ (r1 : Int → Int), (∀ i : Int, 0 ≤ i → i < K → r1 i = if i = w then dgI K n f else if i = f then dgI K n w else dgI K n i) → ∀ (m : Nat) (x lo hi : Int) (S : Sto), ((f : Int) < lo ∧ lo ≤ K ∧ 0 ≤ hi ∧ hi < K) → lo + hi = f + K → hi - lo < m → ((∀ c : Nat, c ≠ 81 → S c = s c) ∧ ∀ i : Int, ¬ (152 ≤ i ∧ i < 160) → S 81 i = s 81 i) → (∀ i : Int, 0 ≤ i → i < K → S 81 (152 + i) = if (f < i ∧ i < lo) ∨ hi < i then r1 (f + K - i) else r1 i) → G LY X 131 [rv 75, iv 152, iv (f : Int), iv (w : Int), iv x, iv lo, iv hi] [] S := by
      intro r1 er m
      have close : ∀ (x lo hi : Int) (S : Sto), ((f : Int) < lo ∧ lo ≤ K ∧ 0 ≤ hi ∧ hi < K) → lo + hi = f + K → hi ≤ lo → ((∀ c : Nat, c ≠ 81 → S c = s c) ∧ ∀ i : Int, ¬ (152 ≤ i ∧ i < 160) → S 81 i = s 81 i) → (∀ i : Int, 0 ≤ i → i < K → S 81 (152 + i) = if (f < i ∧ i < lo) ∨ hi < i then r1 (f + K - i) else r1 i) → G LY X 131 [rv 75, iv 152, iv (f : Int), iv (w : Int), iv x, iv lo, iv hi] [] S := by
        intro x lo hi S h1 h2 h3 h4 h5
        refine kb_X12_nextOrder_131 C r ⟨⟨⟨by omega, by omega⟩, ⟨by omega, by omega⟩⟩, fun _ => ⟨h4, Or.inr ⟨q0, rfl, fun i i0 i1 => ?_⟩⟩, fun z => absurd z (by omega)⟩
        rw [h5 i i0 i1, nx_row (by omega) w8 w2 (by omega) er i0 i1]
        by_cases z : i ≤ f
        · rw [if_pos z, if_neg (by omega)]
        · rw [if_neg z]
          by_cases z2 : (f < i ∧ i < lo) ∨ hi < i
          · rw [if_pos z2]
          · rw [if_neg z2, show (f : Int) + K - i = i by omega]
      induction m with
      | zero =>
        intro x lo hi S h1 h2 h3 h4 h5
        exact close x lo hi S h1 h2 (by omega) h4 h5
      | succ m ih =>
        intro x lo hi S h1 h2 h3 h4 h5
        by_cases g : hi ≤ lo
        · exact close x lo hi S h1 h2 g h4 h5
        · refine kb_X12_nextOrder_131 C r ⟨⟨⟨by omega, by omega⟩, ⟨by omega, by omega⟩⟩, fun z => absurd z g, fun _ => ⟨⟨by omega, by omega⟩, ⟨by omega, by omega⟩, ⟨by omega, by omega⟩, ?_⟩⟩
          rintro T1 hT1
          refine ⟨⟨by omega, by omega⟩, ?_⟩
          rintro T hT
          refine ih (S 81 (152 + lo)) (lo + 1) (hi - 1) T (by omega) (by omega) (by omega) ⟨fun c hc => by rw [hT, up_row hc, hT1, up_row hc, h4.1 c hc], fun i hi' => by rw [hT, up_idx (by omega), hT1, up_idx (by omega), h4.2 i hi']⟩ (fun i i0 i1 => ?_)
          rw [hT, up_if, hT1, up_if, h5 lo (by omega) (by omega), h5 hi (by omega) (by omega), h5 i i0 i1, if_neg (by omega : ¬ ((f < lo ∧ lo < lo) ∨ hi < lo)), if_neg (by omega : ¬ ((f < hi ∧ hi < lo) ∨ hi < hi))]
          by_cases e1 : i = hi
          · rw [if_pos (by omega), if_pos (by omega), show (f : Int) + K - i = lo by omega]
          · rw [if_neg (by omega)]
            by_cases e2 : i = lo
            · rw [if_pos (by omega), if_pos (by omega), show (f : Int) + K - i = hi by omega]
            · rw [if_neg (by omega)]
              by_cases z : (f < i ∧ i < lo) ∨ hi < i
              · rw [if_pos z, if_pos (by omega)]
              · rw [if_neg z, if_neg (by omega)]
    have sw' : G LY X 56 [rv 75, iv 152, iv (f : Int), iv (w : Int), none, none, none] [] s := by
      refine kb_X12_nextOrder_56 C r ⟨⟨by omega, by omega⟩, ⟨by omega, by omega⟩, ⟨rr _ (by omega) (by omega), rr _ (by omega) (by omega)⟩, fun _ => ⟨⟨by omega, by omega⟩, ⟨by omega, by omega⟩, ⟨by omega, by omega⟩, ?_⟩, fun z => absurd z (by omega)⟩
      rintro T1 hT1
      refine ⟨⟨by omega, by omega⟩, ?_⟩
      rintro T hT
      have T9 : T 75 9 = K := by rw [hT, up_row (by decide), hT1, up_row (by decide), h9]
      rw [T9]
      refine turn (fun i => T 81 (152 + i)) (fun i i0 i1 => ?_) (K.toNat + 1) _ (f + 1) (K - 1) T (by omega) (by omega) (by omega) ⟨fun c hc => by rw [hT, up_row hc, hT1, up_row hc], fun i hi' => by rw [hT, up_idx (by omega), hT1, up_idx (by omega)]⟩ (fun i i0 i1 => by rw [if_neg (by omega)])
      show T 81 (152 + i) = _
      rw [hT, up_if, hT1, up_if, hr f (by omega) (by omega), hr w (by omega) (by omega), hr i i0 i1]
      by_cases e1 : i = w
      · rw [if_pos (by omega), if_pos e1]
      · rw [if_neg (by omega), if_neg e1]
        by_cases e2 : i = f
        · rw [if_pos (by omega), if_pos e2]
        · rw [if_neg (by omega), if_neg e2]
    have wth : ∀ j : Int, (w : Int) ≤ j → (j ≤ K - 1 → G LY X 56 [rv 75, iv 152, iv (f : Int), iv j, none, none, none] [] s) := by
      refine risI (P := fun j => j ≤ K - 1 → G LY X 56 [rv 75, iv 152, iv (f : Int), iv j, none, none, none] [] s) (fun _ => sw') ?_
      intro j j0 ih j1
      have a := w7 (j + 1).toNat (by omega) (by omega)
      have e1 := dN (j + 1).toNat (by omega)
      rw [Int.toNat_of_nonneg (by omega)] at e1
      refine kb_X12_nextOrder_56 C r ⟨⟨by omega, by omega⟩, ⟨by omega, by omega⟩, ⟨rr _ (by omega) (by omega), rr _ (by omega) (by omega)⟩, fun z => absurd z (by omega), fun _ => ?_⟩
      rw [show j + 1 - 1 = j by omega]
      exact ih (by omega)
    have from' : ∀ j : Int, (f : Int) ≤ j → (j ≤ K - 2 → G LY X 11 [rv 75, iv 152, iv j, none, none, none, none] [] s) := by
      refine risI (P := fun j => j ≤ K - 2 → G LY X 11 [rv 75, iv 152, iv j, none, none, none, none] [] s) (fun _ => ?_) ?_
      · refine kb_X12_nextOrder_11 C r ?_
        rw [as1, h9]
        exact ⟨⟨by omega, by omega⟩, fun z => absurd z (by omega), fun _ => ⟨⟨by omega, by omega⟩, ⟨by omega, by omega⟩, ⟨rr _ (by omega) (by omega), rr _ (by omega) (by omega)⟩, fun _ => ⟨⟨by omega, by omega⟩, fun _ => wth (K - 1) (by omega) (Int.le_refl _), fun z => absurd z (by omega)⟩, fun z => absurd z (by omega)⟩⟩
      · intro j j0 ih j1
        have a := w5 (j + 1).toNat (by omega) (by omega)
        have e1 := dN (j + 1).toNat (by omega)
        have e2 := dN ((j + 1).toNat + 1) (by omega)
        rw [show (((j + 1).toNat + 1 : Nat) : Int) = j + 1 + 1 by omega] at e2
        rw [Int.toNat_of_nonneg (by omega)] at e1
        refine kb_X12_nextOrder_11 C r ?_
        rw [as1]
        refine ⟨⟨by omega, by omega⟩, fun z => absurd z (by omega), fun _ => ⟨⟨by omega, by omega⟩, ⟨by omega, by omega⟩, ⟨rr _ (by omega) (by omega), rr _ (by omega) (by omega)⟩, fun z => absurd z (by omega), fun _ => ?_⟩⟩
        rw [show j + 1 - 1 = j by omega]
        exact ih (by omega)
    exact from' (K - 2) (by omega) (Int.le_refl _)
