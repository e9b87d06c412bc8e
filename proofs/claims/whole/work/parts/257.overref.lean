/-! VOTES in the reference; the VOTERS of the set bo put the LETTER bf first -/
def plB (bo bf : Int) (f : Int → Int) (K v l : Int) : Int := if xand (xshr bo v) 1 = 1 then (if l = bf then 0 else if atF f l K.toNat < atF f bf K.toNat then atF f l K.toNat + 1 else atF f l K.toNat) else atF f l K.toNat
theorem plB_0 {bf K v l : Int} {f : Int → Int} (hv : 0 ≤ v ∧ v < 12) : plB 0 bf f K v l = atF f l K.toNat := by
  unfold plB
  rw [if_neg]
  have : v = 0 ∨ v = 1 ∨ v = 2 ∨ v = 3 ∨ v = 4 ∨ v = 5 ∨ v = 6 ∨ v = 7 ∨ v = 8 ∨ v = 9 ∨ v = 10 ∨ v = 11 := by omega
  rcases this with rfl | rfl | rfl | rfl | rfl | rfl | rfl | rfl | rfl | rfl | rfl | rfl <;> decide
theorem plB_bd {bo bf K v l : Int} {f : Int → Int} (hK : 0 ≤ K) : 0 ≤ plB bo bf f K v l ∧ plB bo bf f K v l ≤ K + 1 := by
  have := atF_bd f l K.toNat
  unfold plB
  split
  · split
    · omega
    · split <;> omega
  · omega
set_option maxHeartbeats 4000000 in
theorem t_X12_placeBy {v l : Int} {s : Sto} (hv : 0 ≤ v ∧ v < 12) (hl : rg l) (hK : 2 ≤ s 75 9 ∧ s 75 9 ≤ 8) (h59 : rg (s 75 59)) (ho : ∀ i : Int, 0 ≤ i → i < s 75 9 → rg (s 81 (8 * (7 + v) + i))) : ClI LY 0 MX12_placeBy [.inr 75, .inl v, .inl l] s (fun r s' => s' = s ∧ r = plB (s 75 58) (s 75 59) (fun i => s 81 (8 * (7 + v) + i)) (s 75 9) v l) := by
  refine ClI.intro (by decide) rfl (Nat.le_of_ble_eq_true rfl) (fun X C r => ?_)
  generalize hf : (fun i => s 81 (8 * (7 + v) + i)) = f at *
  have fe : ∀ i : Int, s 81 (8 * (7 + v) + i) = f i := fun i => by rw [← hf]
  have loop : ∀ fl : Int, (fl = 0 ∨ fl = 1) → (∀ x : Int, (x = if fl = 0 then atF f l (s 75 9).toNat else if atF f l (s 75 9).toNat < atF f (s 75 59) (s 75 9).toNat then atF f l (s 75 9).toNat + 1 else atF f l (s 75 9).toNat) → x = plB (s 75 58) (s 75 59) f (s 75 9) v l) → G LY X 41 [rv 75, iv v, iv l, iv fl, iv (atF f l (0 : Int).toNat), iv (atF f (s 75 59) (0 : Int).toNat), iv 0] [] s := by
    intro fl hfl hx
    refine downI (P := fun i => G LY X 41 [rv 75, iv v, iv l, iv fl, iv (atF f l i.toNat), iv (atF f (s 75 59) i.toNat), iv i] [] s) (a := 0) (b := s 75 9) (by omega) ?_ ?_
    · have b1 := atF_bd f l (s 75 9).toNat
      have b2 := atF_bd f (s 75 59) (s 75 9).toNat
      refine kb_X12_placeBy_41 C r ⟨⟨⟨by omega, by omega⟩, ⟨by omega, by omega⟩⟩, fun _ => ⟨⟨by omega, by omega⟩, fun z => ⟨rfl, hx _ (by rw [if_pos z])⟩, fun z => ⟨⟨⟨by omega, by omega⟩, ⟨by omega, by omega⟩⟩, fun z2 => ⟨rfl, hx _ (by rw [if_neg z, if_neg (by omega)])⟩, fun z2 => ⟨rfl, hx _ (by rw [if_neg z, if_pos z2])⟩⟩⟩, fun z => absurd z (by omega)⟩
    · intro i i0 i1 ih
      rw [atF_s _ _ i0, atF_s _ _ i0] at ih
      have ro := ho i i0 i1
      refine kb_X12_placeBy_41 C r ?_
      rw [fe] at ro ⊢
      refine ⟨⟨⟨by omega, by omega⟩, ⟨by omega, by omega⟩⟩, fun z => absurd z (by omega), fun _ => ⟨⟨by omega, by omega⟩, ⟨ro, hl⟩, fun z => ⟨⟨by omega, by omega⟩, ⟨ro, h59⟩, fun z2 => ?_, fun z2 => ?_⟩, fun z => ⟨⟨by omega, by omega⟩, ⟨ro, h59⟩, fun z2 => ?_, fun z2 => ?_⟩⟩⟩
      · rw [if_neg z, if_neg z2] at ih; exact ih
      · rw [if_neg z, if_pos z2] at ih; exact ih
      · rw [if_pos z, if_neg z2] at ih; exact ih
      · rw [if_pos z, if_pos z2] at ih; exact ih
  refine kb_X12_placeBy_0 C r ⟨fun z => loop 0 (Or.inl rfl) (fun x hx => ?_), fun z => ⟨⟨hl, h59⟩, fun z2 => loop 1 (Or.inr rfl) (fun x hx => ?_), fun z2 => ⟨rfl, ?_⟩⟩⟩
  · unfold plB
    rw [if_neg z, hx, if_pos rfl]
  · unfold plB
    rw [if_pos z, if_neg z2, hx, if_neg (by decide)]
  · unfold plB
    rw [if_pos z, if_pos z2]
set_option maxHeartbeats 4000000 in
theorem t_X12_findsOvers {s : Sto} {K n : Int} (hK : s 75 9 = K) (hn : s 75 18 = n) (hK8 : 2 ≤ K ∧ K ≤ 8) (hn12 : 0 ≤ n ∧ n ≤ 12) (h59 : rg (s 75 59)) (ho : ∀ v i : Int, 0 ≤ v → v < n → 0 ≤ i → i < K → rg (s 81 (8 * (7 + v) + i))) : ClV LY 1 MX12_findsOvers [.inr 75] s (fun s' => (∀ c : Nat, c ≠ 101 → c ≠ 110 → s' c = s c) ∧ ∀ a b : Int, 0 ≤ a → a < 8 → 0 ≤ b → b < 8 → s' 110 (8 * a + b) = if a < K ∧ b < K then ovF (fun v l => plB (s 75 58) (s 75 59) (fun i => s 81 (8 * (7 + v) + i)) K v l) (s 89) a b n.toNat else 0) := by
  refine ClV.intro (by decide) rfl (Nat.le_of_ble_eq_true rfl) (fun X C r => ?_)
  refine kb_X12_findsOvers_0 C r ?_
  generalize hP : (fun v l => plB (s 75 58) (s 75 59) (fun i => s 81 (8 * (7 + v) + i)) K v l) = P
  have Pe : ∀ v l : Int, P v l = plB (s 75 58) (s 75 59) (fun i => s 81 (8 * (7 + v) + i)) K v l := fun v l => by rw [← hP]
  have Pb : ∀ v l : Int, 0 ≤ P v l ∧ P v l ≤ K + 1 := fun v l => by rw [Pe]; exact plB_bd (by omega)
  have l23 : ∀ S : Sto, ((∀ c : Nat, c ≠ 101 → c ≠ 110 → S c = s c) ∧ ∀ a b : Int, 0 ≤ a → a < 8 → 0 ≤ b → b < 8 → S 110 (8 * a + b) = if a < K ∧ b < K then ovF P (s 89) a b (0 : Int).toNat else 0) → G LY X 23 [rv 75, iv 0, none, none] [] S := by
    refine downI (P := fun v => ∀ S : Sto, ((∀ c : Nat, c ≠ 101 → c ≠ 110 → S c = s c) ∧ ∀ a b : Int, 0 ≤ a → a < 8 → 0 ≤ b → b < 8 → S 110 (8 * a + b) = if a < K ∧ b < K then ovF P (s 89) a b v.toNat else 0) → G LY X 23 [rv 75, iv v, none, none] [] S) (a := 0) (b := n) hn12.1 ?_ ?_
    · rintro S ⟨k1, k2⟩
      refine kb_X12_findsOvers_23 C r ?_
      rw [k1 75 (by decide) (by decide), hn]
      exact ⟨⟨⟨by omega, by omega⟩, ⟨by omega, by omega⟩⟩, fun _ => ⟨k1, by rw [hP]; exact k2⟩, fun z => absurd z (by omega)⟩
    · rintro v v0 v1 ih S ⟨k1, k2⟩
      refine kb_X12_findsOvers_23 C r ?_
      rw [k1 75 (by decide) (by decide), hn]
      refine ⟨⟨⟨by omega, by omega⟩, ⟨by omega, by omega⟩⟩, fun z => absurd z (by omega), fun _ => ?_⟩
      -- sums, once the places stand
      have l61 : ∀ S : Sto, ((∀ c : Nat, c ≠ 101 → c ≠ 110 → S c = s c) ∧ (∀ l : Int, 0 ≤ l → l < K → S 101 l = P v l) ∧ ∀ a b : Int, 0 ≤ a → a < 8 → 0 ≤ b → b < 8 → S 110 (8 * a + b) = if a < K ∧ b < K then ovF P (s 89) a b v.toNat + (if P v a < P v b ∧ a < 0 then s 89 v else 0) else 0) → G LY X 61 [rv 75, iv v, iv 0, none] [] S := by
        refine downI (P := fun x => ∀ S : Sto, ((∀ c : Nat, c ≠ 101 → c ≠ 110 → S c = s c) ∧ (∀ l : Int, 0 ≤ l → l < K → S 101 l = P v l) ∧ ∀ a b : Int, 0 ≤ a → a < 8 → 0 ≤ b → b < 8 → S 110 (8 * a + b) = if a < K ∧ b < K then ovF P (s 89) a b v.toNat + (if P v a < P v b ∧ a < x then s 89 v else 0) else 0) → G LY X 61 [rv 75, iv v, iv x, none] [] S) (a := 0) (b := K) (by omega) ?_ ?_
        · rintro S ⟨k1, k2, k3⟩
          refine kb_X12_findsOvers_61 C r ?_
          rw [k1 75 (by decide) (by decide), hK]
          refine ⟨⟨⟨by omega, by omega⟩, ⟨by omega, by omega⟩⟩, fun _ => ih S ⟨k1, fun a b a0 a1 b0 b1 => ?_⟩, fun z => absurd z (by omega)⟩
          rw [k3 a b a0 a1 b0 b1, ovF_s _ _ _ _ v0]
          by_cases q : a < K ∧ b < K
          · rw [if_pos q, if_pos q]
            by_cases q2 : P v a < P v b
            · rw [if_pos ⟨q2, q.1⟩, if_pos q2]
            · rw [if_neg (fun z => q2 z.1), if_neg q2]
          · rw [if_neg q, if_neg q]
        · rintro x x0 x1 ih2 S ⟨k1, k2, k3⟩
          refine kb_X12_findsOvers_61 C r ?_
          rw [k1 75 (by decide) (by decide), hK]
          refine ⟨⟨⟨by omega, by omega⟩, ⟨by omega, by omega⟩⟩, fun z => absurd z (by omega), fun _ => ?_⟩
          have l71 : ∀ S : Sto, ((∀ c : Nat, c ≠ 101 → c ≠ 110 → S c = s c) ∧ (∀ l : Int, 0 ≤ l → l < K → S 101 l = P v l) ∧ ∀ a b : Int, 0 ≤ a → a < 8 → 0 ≤ b → b < 8 → S 110 (8 * a + b) = if a < K ∧ b < K then ovF P (s 89) a b v.toNat + (if P v a < P v b ∧ (a < x ∨ (a = x ∧ b < 0)) then s 89 v else 0) else 0) → G LY X 71 [rv 75, iv v, iv x, iv 0] [] S := by
            refine downI (P := fun y => ∀ S : Sto, ((∀ c : Nat, c ≠ 101 → c ≠ 110 → S c = s c) ∧ (∀ l : Int, 0 ≤ l → l < K → S 101 l = P v l) ∧ ∀ a b : Int, 0 ≤ a → a < 8 → 0 ≤ b → b < 8 → S 110 (8 * a + b) = if a < K ∧ b < K then ovF P (s 89) a b v.toNat + (if P v a < P v b ∧ (a < x ∨ (a = x ∧ b < y)) then s 89 v else 0) else 0) → G LY X 71 [rv 75, iv v, iv x, iv y] [] S) (a := 0) (b := K) (by omega) ?_ ?_
            · rintro S ⟨k1, k2, k3⟩
              refine kb_X12_findsOvers_71 C r ?_
              rw [k1 75 (by decide) (by decide), hK]
              refine ⟨⟨⟨by omega, by omega⟩, ⟨by omega, by omega⟩⟩, fun _ => ih2 S ⟨k1, k2, fun a b a0 a1 b0 b1 => ?_⟩, fun z => absurd z (by omega)⟩
              rw [k3 a b a0 a1 b0 b1]
              by_cases q : a < K ∧ b < K
              · rw [if_pos q, if_pos q]
                by_cases q2 : P v a < P v b ∧ a < x + 1
                · rw [if_pos q2, if_pos ⟨q2.1, by omega⟩]
                · rw [if_neg q2, if_neg (by omega)]
              · rw [if_neg q, if_neg q]
            · rintro y y0 y1 ih3 S ⟨k1, k2, k3⟩
              have e1 := k2 x x0 x1
              have e2 := k2 y y0 y1
              have c1 := Pb v x
              have c2 := Pb v y
              refine kb_X12_findsOvers_71 C r ?_
              rw [k1 75 (by decide) (by decide), hK, e1, e2, k1 89 (by decide) (by decide)]
              refine ⟨⟨⟨by omega, by omega⟩, ⟨by omega, by omega⟩⟩, fun z => absurd z (by omega), fun _ => ⟨⟨by omega, by omega⟩, ⟨by omega, by omega⟩, ⟨⟨by omega, by omega⟩, ⟨by omega, by omega⟩⟩, fun z => ih3 S ⟨k1, k2, fun a b a0 a1 b0 b1 => ?_⟩, fun z => ⟨⟨by omega, by omega⟩, ⟨by omega, by omega⟩, ⟨by omega, by omega⟩, ?_⟩⟩⟩
              · rw [k3 a b a0 a1 b0 b1]
                by_cases q : a < K ∧ b < K
                · rw [if_pos q, if_pos q]
                  by_cases e : a = x ∧ b = y
                  · rw [e.1, e.2, if_neg (by omega), if_neg (by omega)]
                  · by_cases q2 : P v a < P v b ∧ (a < x ∨ (a = x ∧ b < y))
                    · rw [if_pos q2, if_pos (by omega)]
                    · rw [if_neg q2, if_neg (by omega)]
                · rw [if_neg q, if_neg q]
              · rintro S' hS'
                refine ih3 S' ⟨fun c c1 c2 => by rw [hS', up_row c2, k1 c c1 c2], fun l l0 l1 => by rw [hS', up_row (by decide), k2 l l0 l1], fun a b a0 a1 b0 b1 => ?_⟩
                rw [hS', up_if]
                by_cases e : a = x ∧ b = y
                · rw [if_pos (by omega), if_pos (by omega), k3 x y (by omega) (by omega) (by omega) (by omega), if_pos (by omega), e.1, e.2, if_neg (by omega), if_pos (by omega)]
                  omega
                · rw [if_neg (by omega), k3 a b a0 a1 b0 b1]
                  by_cases q : a < K ∧ b < K
                  · rw [if_pos q, if_pos q]
                    by_cases q2 : P v a < P v b ∧ (a < x ∨ (a = x ∧ b < y))
                    · rw [if_pos q2, if_pos (by omega)]
                    · rw [if_neg q2, if_neg (by omega)]
                  · rw [if_neg q, if_neg q]
          refine l71 S ⟨k1, k2, fun a b a0 a1 b0 b1 => ?_⟩
          rw [k3 a b a0 a1 b0 b1]
          by_cases q : a < K ∧ b < K
          · rw [if_pos q, if_pos q]
            by_cases q2 : P v a < P v b ∧ a < x
            · rw [if_pos q2, if_pos (by omega)]
            · rw [if_neg q2, if_neg (by omega)]
          · rw [if_neg q, if_neg q]
      -- the places
      have l33 : ∀ S' : Sto, ((∀ c : Nat, c ≠ 101 → S' c = S c) ∧ ∀ l : Int, 0 ≤ l → l < 0 → S' 101 l = P v l) → G LY X 33 [rv 75, iv v, iv 0, none] [] S' := by
        refine downI (P := fun x => ∀ S' : Sto, ((∀ c : Nat, c ≠ 101 → S' c = S c) ∧ ∀ l : Int, 0 ≤ l → l < x → S' 101 l = P v l) → G LY X 33 [rv 75, iv v, iv x, none] [] S') (a := 0) (b := K) (by omega) ?_ ?_
        · rintro S' ⟨j1, j2⟩
          refine kb_X12_findsOvers_33 C r ?_
          rw [j1 75 (by decide), k1 75 (by decide) (by decide), hK]
          refine ⟨⟨⟨by omega, by omega⟩, ⟨by omega, by omega⟩⟩, fun _ => l61 S' ⟨fun c c1 c2 => by rw [j1 c c1, k1 c c1 c2], j2, fun a b a0 a1 b0 b1 => ?_⟩, fun z => absurd z (by omega)⟩
          rw [j1 110 (by decide), k2 a b a0 a1 b0 b1]
          by_cases q : a < K ∧ b < K
          · rw [if_pos q, if_pos q, if_neg (by omega)]
            omega
          · rw [if_neg q, if_neg q]
        · rintro x x0 x1 ih2 S' ⟨j1, j2⟩
          have e75 : S' 75 = s 75 := by rw [j1 75 (by decide), k1 75 (by decide) (by decide)]
          have e81 : S' 81 = s 81 := by rw [j1 81 (by decide), k1 81 (by decide) (by decide)]
          refine kb_X12_findsOvers_33 C r ?_
          rw [e75, hK]
          refine ⟨⟨⟨by omega, by omega⟩, ⟨by omega, by omega⟩⟩, fun z => absurd z (by omega), fun _ => ⟨0, _, by decide, t_X12_placeBy (s := S') (v := v) (l := x) (by omega) ⟨by omega, by omega⟩ (by rw [e75, hK]; exact hK8) (by rw [e75]; exact h59) (by rw [e75, hK, e81]; exact fun i i0 i1 => ho v i v0 v1 i0 i1), ?_⟩⟩
          rintro pl y ⟨hy, hpl⟩
          rw [hy]
          refine ⟨⟨by omega, by omega⟩, ?_⟩
          rintro y' hy'
          refine ih2 y' ⟨fun c hc => by rw [hy', up_row hc, j1 c hc], fun l l0 l1 => ?_⟩
          rw [hy', up_if]
          by_cases e : l = x
          · rw [if_pos e, hpl, Pe, e75, e81, hK, e]
          · rw [if_neg e]; exact j2 l l0 (by omega)
      exact l33 S ⟨fun _ _ => rfl, fun l l0 l1 => absurd l1 (by omega)⟩
  have l2 : ∀ S : Sto, ((∀ c : Nat, c ≠ 101 → c ≠ 110 → S c = s c) ∧ ∀ j : Int, 0 ≤ j → j < 0 → S 110 j = 0) → G LY X 2 [rv 75, iv 0, none, none] [] S := by
    refine downI (P := fun i => ∀ S : Sto, ((∀ c : Nat, c ≠ 101 → c ≠ 110 → S c = s c) ∧ ∀ j : Int, 0 ≤ j → j < i → S 110 j = 0) → G LY X 2 [rv 75, iv i, none, none] [] S) (a := 0) (b := 64) (by decide) ?_ ?_
    · rintro S ⟨k1, k2⟩
      refine kb_X12_findsOvers_2 C r ⟨by decide, fun _ => l23 S ⟨k1, fun a b a0 a1 b0 b1 => ?_⟩, fun z => absurd z (by decide)⟩
      rw [k2 _ (by omega) (by omega)]
      by_cases q : a < K ∧ b < K
      · rw [if_pos q]; rfl
      · rw [if_neg q]
    · rintro i i0 i1 ih S ⟨k1, k2⟩
      refine kb_X12_findsOvers_2 C r ⟨⟨by omega, by omega⟩, fun z => absurd z (by omega), fun _ => ⟨⟨by omega, by omega⟩, ?_⟩⟩
      rintro y hy
      refine ih y ⟨fun c c1 c2 => by rw [hy, up_row c2, k1 c c1 c2], fun j j0 j1 => ?_⟩
      rw [hy, up_if]
      by_cases e : j = i
      · rw [if_pos e]
      · rw [if_neg e]; exact k2 j j0 (by omega)
  exact l2 s ⟨fun _ _ _ => rfl, fun j j0 j1 => absurd j1 (by omega)⟩
