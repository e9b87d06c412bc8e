/-! VOTES BOUGHT, in the class -/
set_option maxHeartbeats 4000000 in
theorem t_X0_notePassed {s : Sto} {K n a : Int} {f : Int → Int → Int} (hK : s 3 0 = K) (hn : s 3 11 = n) (hK8 : 2 ≤ K ∧ K ≤ 8) (hn12 : 0 ≤ n ∧ n ≤ 12) (ha : 0 ≤ a ∧ a < K) (hV : ∀ v : Int, 0 ≤ v → v < n → OdR K (s 14 v) (f v)) : ClV LY 1 MX0_notePassed [.inr 59, .inr 3, .inl a] s (fun s' => (∀ c : Nat, c ≠ 67 → s' c = s c) ∧ ∀ v b : Int, 0 ≤ v → v < n → 0 ≤ b → b < K → s' 67 (v * 8 + b) = if atF (f v) b K.toNat < atF (f v) a K.toNat then s 15 v else 0) := by
  refine ClV.intro (by decide) rfl (Nat.le_of_ble_eq_true rfl) (fun X C r => ?_)
  refine kb_X0_notePassed_0 C r ?_
  have main : ∀ S : Sto, ((∀ c : Nat, c ≠ 67 → S c = s c) ∧ ∀ v b : Int, 0 ≤ v → v < 0 → 0 ≤ b → b < K → S 67 (v * 8 + b) = if atF (f v) b K.toNat < atF (f v) a K.toNat then s 15 v else 0) → G LY X 2 [rv 59, rv 3, iv a, iv 0, none, none, none] [] S := by
    refine downI (P := fun u => ∀ S : Sto, ((∀ c : Nat, c ≠ 67 → S c = s c) ∧ ∀ v b : Int, 0 ≤ v → v < u → 0 ≤ b → b < K → S 67 (v * 8 + b) = if atF (f v) b K.toNat < atF (f v) a K.toNat then s 15 v else 0) → G LY X 2 [rv 59, rv 3, iv a, iv u, none, none, none] [] S) (a := 0) (b := n) hn12.1 ?_ ?_
    · rintro S ⟨k1, k2⟩
      refine kb_X0_notePassed_2 C r ?_
      rw [k1 3 (by decide), hn]
      exact ⟨⟨⟨by omega, by omega⟩, ⟨by omega, by omega⟩⟩, fun _ => ⟨k1, k2⟩, fun z => absurd z (by omega)⟩
    · rintro u u0 u1 ih S ⟨k1, k2⟩
      have od := hV u u0 u1
      have A := od.at' ha.1 ha.2
      refine kb_X0_notePassed_2 C r ?_
      rw [k1 3 (by decide), hn]
      refine ⟨⟨⟨by omega, by omega⟩, ⟨by omega, by omega⟩⟩, fun z => absurd z (by omega), fun _ => ?_⟩
      have inner : ∀ (S : Sto) (fl : Int), ((fl = 1 ∧ 0 ≤ atF (f u) a K.toNat) ∨ (fl = 0 ∧ atF (f u) a K.toNat < 0)) → ((∀ c : Nat, c ≠ 67 → S c = s c) ∧ (∀ v b : Int, 0 ≤ v → v < u → 0 ≤ b → b < K → S 67 (v * 8 + b) = if atF (f v) b K.toNat < atF (f v) a K.toNat then s 15 v else 0) ∧ ∀ b : Int, 0 ≤ b → b < K → atF (f u) b K.toNat < 0 → S 67 (u * 8 + b) = if atF (f u) b K.toNat < atF (f u) a K.toNat then s 15 u else 0) → G LY X 16 [rv 59, rv 3, iv a, iv u, iv fl, iv 0, none] [] S := by
        refine downI (P := fun i => ∀ (S : Sto) (fl : Int), ((fl = 1 ∧ i ≤ atF (f u) a K.toNat) ∨ (fl = 0 ∧ atF (f u) a K.toNat < i)) → ((∀ c : Nat, c ≠ 67 → S c = s c) ∧ (∀ v b : Int, 0 ≤ v → v < u → 0 ≤ b → b < K → S 67 (v * 8 + b) = if atF (f v) b K.toNat < atF (f v) a K.toNat then s 15 v else 0) ∧ ∀ b : Int, 0 ≤ b → b < K → atF (f u) b K.toNat < i → S 67 (u * 8 + b) = if atF (f u) b K.toNat < atF (f u) a K.toNat then s 15 u else 0) → G LY X 16 [rv 59, rv 3, iv a, iv u, iv fl, iv i, none] [] S) (a := 0) (b := K) (by omega) ?_ ?_
        · rintro S fl hfl ⟨j1, j2, j3⟩
          refine kb_X0_notePassed_16 C r ?_
          rw [j1 3 (by decide), hK]
          refine ⟨⟨⟨by omega, by omega⟩, ⟨by omega, by omega⟩⟩, fun _ => ih S ⟨j1, fun v b v0 v1 b0 b1 => ?_⟩, fun z => absurd z (by omega)⟩
          by_cases e : v = u
          · subst e; exact j3 b b0 b1 (od.at' b0 b1).1.2
          · exact j2 v b v0 (by omega) b0 b1
        · rintro i i0 i1 ih2 S fl hfl ⟨j1, j2, j3⟩
          have fi := od.2.1 i i0 i1
          have ai := od.at_ i0 i1
          refine kb_X0_notePassed_16 C r ?_
          rw [j1 3 (by decide), hK, j1 14 (by decide)]
          refine ⟨⟨⟨by omega, by omega⟩, ⟨by omega, by omega⟩⟩, fun z => absurd z (by omega), fun _ => ⟨⟨by omega, by omega⟩, 0, _, by decide, t_X5_orderLetter, ?_⟩⟩
          rintro le S' ⟨hS', hle⟩
          rw [od.letter ⟨i0, i1⟩] at hle
          rw [hS', hle]
          have put : ∀ (x fl' : Int) (y : Sto), y = up S 67 (u * 8 + f u i) x → (x = if i < atF (f u) a K.toNat then s 15 u else 0) → ((fl' = 1 ∧ i + 1 ≤ atF (f u) a K.toNat) ∨ (fl' = 0 ∧ atF (f u) a K.toNat < i + 1)) → G LY X 16 [rv 59, rv 3, iv a, iv u, iv fl', iv (i + 1), none] [] y := fun x fl' y hy hx hf => by
            refine ih2 y fl' hf ⟨fun c hc => by rw [hy, up_row hc, j1 c hc], fun v b v0 v1 b0 b1 => ?_, fun b b0 b1 hb => ?_⟩
            · rw [hy, up_idx (by omega)]; exact j2 v b v0 v1 b0 b1
            · rw [hy, up_if]
              by_cases e : b = f u i
              · rw [if_pos (by rw [e]), hx, e, ai]
              · have nb : atF (f u) b K.toNat ≠ i := fun z => e (by rw [← (od.at' b0 b1).2, z])
                rw [if_neg (by omega)]
                exact j3 b b0 b1 (by omega)
          have x0 : xand fl 0 = 0 := by rcases hfl with z | z <;> rw [z.1] <;> decide
          have x1 : xand fl 1 = fl := by rcases hfl with z | z <;> rw [z.1] <;> decide
          rw [x0, x1, j1 15 (by decide)]
          refine ⟨⟨⟨by omega, by omega⟩, ⟨by omega, by omega⟩⟩, fun z => ⟨fun _ => ⟨⟨by omega, by omega⟩, ?_⟩, fun q => absurd rfl q⟩, fun z => ⟨fun q => ⟨⟨by omega, by omega⟩, ?_⟩, fun q => ⟨⟨by omega, by omega⟩, ⟨by omega, by omega⟩, ?_⟩⟩⟩
          · rintro y hy
            have w : atF (f u) a K.toNat = i := by rw [← z]; exact ai
            exact put 0 0 y hy (by rw [if_neg (by omega)]) (Or.inr ⟨rfl, by omega⟩)
          · rintro y hy
            exact put 0 fl y hy (by rw [if_neg (by omega)]) (by omega)
          · rintro y hy
            have ne : atF (f u) a K.toNat ≠ i := fun w => z (by rw [← w]; exact A.2)
            exact put _ fl y hy (by rw [if_pos (by omega)]) (by omega)
      refine inner S 1 (Or.inl ⟨rfl, A.1.1⟩) ⟨k1, k2, fun b b0 b1 hb => ?_⟩
      have := (od.at' b0 b1).1
      omega
  exact main s ⟨fun _ _ => rfl, fun v b v0 v1 => absurd v1 (by omega)⟩
set_option maxHeartbeats 4000000 in
theorem t_X0_sway {s : Sto} {K n a bo : Int} {ov : Int → Int → Int} {mo : Int → Int} (hK : s 3 0 = K) (hn : s 3 11 = n) (hK8 : 2 ≤ K ∧ K ≤ 8) (hn12 : 0 ≤ n ∧ n ≤ 12) (ha : 0 ≤ a ∧ a < K) (h68 : ∀ x y : Int, 0 ≤ x → x < K → 0 ≤ y → y < K → s 68 (x * 8 + y) = ov x y) (hmo : ∀ b : Int, 0 ≤ b → b < K → sumF (fun v => xand (xshr bo v) 1 * s 67 (v * 8 + b)) n.toNat = mo b) (moa : mo a = 0) (h60 : ∀ x y : Int, 0 ≤ x → x < K → 0 ≤ y → y < K → x ≠ a → y ≠ a → s 60 (x * 8 + y) = ov x y) : ClV LY 0 MX0_sway [.inr 59, .inr 3, .inl bo, .inl a] s (fun s' => (∀ c : Nat, c ≠ 60 → s' c = s c) ∧ ∀ x y : Int, 0 ≤ x → x < K → 0 ≤ y → y < K → s' 60 (x * 8 + y) = if x = a then ov x y + mo y else if y = a then ov x y - mo x else ov x y) := by
  refine ClV.intro (by decide) rfl (Nat.le_of_ble_eq_true rfl) (fun X C r => ?_)
  refine kb_X0_sway_0 C r ?_
  have main : ∀ S : Sto, ((∀ c : Nat, c ≠ 60 → S c = s c) ∧ ∀ x y : Int, 0 ≤ x → x < K → 0 ≤ y → y < K → ((x ≠ a ∧ y ≠ a) ∨ (x = a ∧ y < 0) ∨ (y = a ∧ x < 0)) → S 60 (x * 8 + y) = if x = a then ov x y + mo y else if y = a then ov x y - mo x else ov x y) → G LY X 3 [rv 59, rv 3, iv bo, iv a, iv 0, none, none] [] S := by
    refine downI (P := fun b => ∀ S : Sto, ((∀ c : Nat, c ≠ 60 → S c = s c) ∧ ∀ x y : Int, 0 ≤ x → x < K → 0 ≤ y → y < K → ((x ≠ a ∧ y ≠ a) ∨ (x = a ∧ y < b) ∨ (y = a ∧ x < b)) → S 60 (x * 8 + y) = if x = a then ov x y + mo y else if y = a then ov x y - mo x else ov x y) → G LY X 3 [rv 59, rv 3, iv bo, iv a, iv b, none, none] [] S) (a := 0) (b := K) (by omega) ?_ ?_
    · rintro S ⟨k1, k2⟩
      refine kb_X0_sway_3 C r ?_
      rw [k1 3 (by decide), hK]
      exact ⟨⟨⟨by omega, by omega⟩, ⟨by omega, by omega⟩⟩, fun _ => ⟨k1, fun x y x0 x1 y0 y1 => k2 x y x0 x1 y0 y1 (by omega)⟩, fun z => absurd z (by omega)⟩
    · rintro b b0 b1 ih S ⟨k1, k2⟩
      refine kb_X0_sway_3 C r ?_
      rw [k1 3 (by decide), hK]
      refine ⟨⟨⟨by omega, by omega⟩, ⟨by omega, by omega⟩⟩, fun z => absurd z (by omega), fun _ => ?_⟩
      have inner : G LY X 18 [rv 59, rv 3, iv bo, iv a, iv b, iv (sumF (fun v => xand (xshr bo v) 1 * s 67 (v * 8 + b)) (0 : Int).toNat), iv 0] [] S := by
        refine downI (P := fun v => G LY X 18 [rv 59, rv 3, iv bo, iv a, iv b, iv (sumF (fun v => xand (xshr bo v) 1 * s 67 (v * 8 + b)) v.toNat), iv v] [] S) (a := 0) (b := n) hn12.1 ?_ ?_
        · refine kb_X0_sway_18 C r ?_
          rw [k1 3 (by decide), hn, hmo b b0 b1, k1 68 (by decide), h68 a b ha.1 ha.2 b0 b1]
          refine ⟨⟨⟨by omega, by omega⟩, ⟨by omega, by omega⟩⟩, fun _ => ⟨⟨by omega, by omega⟩, ⟨by omega, by omega⟩, ?_⟩, fun z => absurd z (by omega)⟩
          rintro S1 hS1
          have e68 : S1 68 (b * 8 + a) = ov b a := by rw [hS1, up_row (by decide), k1 68 (by decide), h68 b a b0 b1 ha.1 ha.2]
          rw [e68]
          refine ⟨⟨by omega, by omega⟩, ⟨by omega, by omega⟩, ?_⟩
          rintro S2 hS2
          refine ih S2 ⟨fun c hc => by rw [hS2, up_row hc, hS1, up_row hc, k1 c hc], fun x y x0 x1 y0 y1 hxy => ?_⟩
          rw [hS2, up_if]
          by_cases e1 : x = b ∧ y = a
          · rw [if_pos (by omega), e1.1, e1.2]
            by_cases e2 : b = a
            · rw [if_pos e2, e2, moa]; omega
            · rw [if_neg e2, if_pos rfl]
          · rw [if_neg (by omega), hS1, up_if]
            by_cases e3 : x = a ∧ y = b
            · rw [if_pos (by omega), if_pos e3.1, e3.1, e3.2]
            · rw [if_neg (by omega)]
              exact k2 x y x0 x1 y0 y1 (by omega)
        · intro v v0 v1 ih2
          rw [sumF_s _ v0] at ih2
          refine kb_X0_sway_18 C r ?_
          rw [k1 3 (by decide), hn, k1 67 (by decide)]
          exact ⟨⟨⟨by omega, by omega⟩, ⟨by omega, by omega⟩⟩, fun z => absurd z (by omega), fun _ => ⟨⟨by omega, by omega⟩, ih2⟩⟩
      exact inner
  refine main s ⟨fun _ _ => rfl, fun x y x0 x1 y0 y1 hxy => ?_⟩
  have xy : x ≠ a ∧ y ≠ a := by omega
  rw [if_neg xy.1, if_neg xy.2]
  exact h60 x y x0 x1 y0 y1 xy.1 xy.2
theorem t_X0_priceOf {s : Sto} {n bo : Int} (hn : s 3 11 = n) (hn12 : 0 ≤ n ∧ n ≤ 12) : ClI LY 0 MX0_priceOf [.inr 3, .inl bo] s (fun r s' => s' = s ∧ r = sumF (fun v => xand (xshr bo v) 1 * s 16 v) n.toNat) := by
  refine ClI.intro (by decide) rfl (Nat.le_of_ble_eq_true rfl) (fun X C r => ?_)
  refine kb_X0_priceOf_0 C r ?_
  have key : G LY X 4 [rv 3, iv bo, iv (sumF (fun v => xand (xshr bo v) 1 * s 16 v) (0 : Int).toNat), iv 0] [] s := by
    refine downI (P := fun v => G LY X 4 [rv 3, iv bo, iv (sumF (fun v => xand (xshr bo v) 1 * s 16 v) v.toNat), iv v] [] s) (a := 0) (b := n) hn12.1 ?_ ?_
    · refine kb_X0_priceOf_4 C r ?_
      rw [hn]
      exact ⟨⟨⟨by omega, by omega⟩, ⟨by omega, by omega⟩⟩, fun _ => ⟨rfl, rfl⟩, fun z => absurd z (by omega)⟩
    · intro v v0 v1 ih
      rw [sumF_s _ v0] at ih
      refine kb_X0_priceOf_4 C r ?_
      rw [hn]
      exact ⟨⟨⟨by omega, by omega⟩, ⟨by omega, by omega⟩⟩, fun z => absurd z (by omega), fun _ => ⟨⟨by omega, by omega⟩, ih⟩⟩
  exact key
theorem t_X0_isCheaper {s : Sto} {k : Nat} {price : Int} (hk : k < 4096) (hp : rg price) (h9 : -1 ≤ s 59 9 ∧ s 59 9 < 4096) (h10 : rg (s 59 10)) : ClI LY 1 MX0_isCheaper [.inr 59, .inl (k : Int), .inl price] s (fun r s' => s' = s ∧ r = oneIf (s 59 9 = -1 ∨ price < s 59 10 ∨ (price = s 59 10 ∧ pcF k 20 < pcF (s 59 9).toNat 20))) := by
  refine ClI.introZ (by decide) rfl (Nat.le_of_ble_eq_true rfl) (fun X C r => ?_)
  have r9 : rg (s 59 9) := ⟨by omega, by omega⟩
  refine kb_X0_isCheaper_0 C r ⟨r9, fun z => ⟨r9, fun _ => ⟨rfl, (oneIf_t (Or.inl z)).symm⟩, fun z2 => absurd z z2⟩, fun z => ⟨⟨hp, h10⟩, fun z2 => ⟨0, _, by decide, t_bitCount (by omega), ?_⟩, fun z2 => ⟨r9, fun z3 => absurd z3 z, fun _ => ⟨⟨hp, h10⟩, fun z3 => ⟨rfl, (oneIf_f (by omega)).symm⟩, fun z3 => ⟨rfl, (oneIf_t (Or.inr (Or.inl z3))).symm⟩⟩⟩⟩⟩
  rintro x y ⟨hy, hx⟩
  rw [hy]
  obtain ⟨m, hm⟩ := Int.eq_ofNat_of_zero_le (show 0 ≤ s 59 9 by omega)
  have b1 : pcF k 20 ≤ 20 := pcF_le k 20
  have b2 : pcF m 20 ≤ 20 := pcF_le m 20
  rw [hm]
  refine ⟨0, _, by decide, t_bitCount (n := m) (by omega), ?_⟩
  rintro x' y' ⟨hy', hx'⟩
  rw [hy', hx, hx', show ((m : Nat) : Int).toNat = m by omega]
  exact ⟨⟨⟨by omega, by omega⟩, ⟨by omega, by omega⟩⟩, fun z3 => ⟨rfl, (oneIf_f (by omega)).symm⟩, fun z3 => ⟨rfl, (oneIf_t (by omega)).symm⟩⟩
theorem t_X0_supportAcross {K : Int} {p q : Nat} {s : Sto} {ov : Int → Int → Int} (hK : 2 ≤ K ∧ K ≤ 8) (hp : p < 256) (hq : q < 256) (h : OVR s K ov) : ClI LY 2 MX0_supportAcross [.inr 59, .inl (p : Int), .inl (q : Int), .inl K] s (fun r s' => s' = s ∧ r = sovF (fun _ x => sovF ov q x K.toNat) p 0 K.toNat) := by
  refine ClI.intro (by decide) rfl (Nat.le_of_ble_eq_true rfl) (fun X C r => ?_)
  refine kb_X0_supportAcross_0 C r ?_
  have rK : rg K := ⟨by omega, by omega⟩
  have key : G LY X 6 [rv 59, iv (p : Int), iv (q : Int), iv K, iv (sovF (fun _ x => sovF ov q x K.toNat) p 0 (0 : Int).toNat), iv 0] [] s := by
    refine downI (P := fun b => G LY X 6 [rv 59, iv (p : Int), iv (q : Int), iv K, iv (sovF (fun _ x => sovF ov q x K.toNat) p 0 b.toNat), iv b] [] s) (a := 0) (b := K) (by omega) ?_ ?_
    · exact kb_X0_supportAcross_6 C r ⟨⟨rK, rK⟩, fun _ => ⟨rfl, rfl⟩, fun z => absurd z (by omega)⟩
    · intro b b0 b1 ih
      rw [sovF_s _ _ _ b0] at ih
      have bt := bit_iff (n := p) (i := b) (by omega) (by omega)
      refine kb_X0_supportAcross_6 C r ⟨⟨⟨by omega, by omega⟩, rK⟩, fun z => absurd z (by omega), fun _ => ⟨fun z => ?_, fun z => ⟨1, _, by decide, t_X0_supportOverAll hK ⟨b0, b1⟩ hq h, ?_⟩⟩⟩
      · rw [if_neg (fun q => z (bt.mpr q)), Int.add_zero] at ih; exact ih
      · rintro x y ⟨hy, hx⟩
        rw [hy, hx]
        rw [if_pos (bt.mp z)] at ih
        exact ih
  exact key
