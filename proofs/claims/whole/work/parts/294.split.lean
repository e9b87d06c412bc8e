/-! VOTES BOUGHT: the nearest ORDER around a LETTER, in the class -/
theorem all_mask {K a : Int} (hK : 2 ≤ K ∧ K ≤ 8) (ha : 0 ≤ a ∧ a < K) : xand (xshl 1 K - 1) (xxor (xshl 1 a) (-1)) = ((clr (2 ^ K.toNat - 1) a.toNat : Nat) : Int) := by
  have p2 := pow_256 (K := K) hK.2
  have p0 : 0 < (2 : Nat) ^ K.toNat := Nat.pow_pos (by decide)
  have sh1 : xshl 1 K = ((2 ^ K.toNat : Nat) : Int) := by
    have := xshl_nat (n := 1) (b := K.toNat) (by omega) (by omega)
    rw [show ((1 : Nat) : Int) = 1 from rfl, Int.toNat_of_nonneg (by omega), Nat.one_mul] at this
    exact this
  have := xclr (m := 2 ^ K.toNat - 1) (l := a.toNat) (by omega) (by omega)
  rw [show ((2 ^ K.toNat - 1 : Nat) : Int) = xshl 1 K - 1 by omega, Int.toNat_of_nonneg ha.1] at this
  exact this
theorem full_bit {K : Int} {j : Nat} (hj : (j : Int) < K) : (2 ^ K.toNat - 1).testBit j = true := by
  rw [Nat.testBit_two_pow_sub_one]
  exact decide_eq_true (by omega)
set_option maxHeartbeats 8000000 in
theorem t_X0_splitAround {K a : Int} {s : Sto} {ov : Int → Int → Int} (hK : 2 ≤ K ∧ K ≤ 8) (ha : 0 ≤ a ∧ a < K) (h : OVR s K ov) : ClV LY 3 MX0_splitAround [.inr 59, .inl K, .inl a] s (fun s' => (∀ c : Nat, ¬ (62 ≤ c ∧ c ≤ 65) → s' c = s c) ∧ ∀ p q : Nat, Cut (clr (2 ^ K.toNat - 1) a.toNat) p q → s' 64 (p : Int) = agA ov K p + agA ov K q + sovF (fun _ x => sovF ov q x K.toNat) p 0 K.toNat ∧ s' 65 (p : Int) = cutO ov K a p q) := by
  have hK' : 0 ≤ K ∧ K ≤ 8 := by omega
  have p2 := pow_256 (K := K) hK.2
  have p0 : 0 < (2 : Nat) ^ K.toNat := Nat.pow_pos (by decide)
  have hb := h.bd
  have mask := all_mask hK ha
  have hA' : ∀ j : Nat, (clr (2 ^ K.toNat - 1) a.toNat).testBit j = true ↔ (2 ^ K.toNat - 1).testBit j = true ∧ j ≠ a.toNat := fun j => clr_bits' (by omega) (by omega)
  have Ale := clr_le (m := 2 ^ K.toNat - 1) (l := a.toNat) (by omega) (by omega)
  have am : (2 ^ K.toNat - 1).testBit a.toNat = true := full_bit (by omega)
  generalize clr (2 ^ K.toNat - 1) a.toNat = A at mask hA' Ale ⊢
  refine ClV.intro (by decide) rfl (Nat.le_of_ble_eq_true rfl) (fun X C r => ?_)
  refine kb_X0_splitAround_0 C r ⟨2, _, by decide, t_X0_findNearest hK h, ?_⟩
  rintro t ⟨t1, t2⟩
  rw [mask]
  have main : ∀ S : Sto, ((∀ c : Nat, c ≠ 64 → c ≠ 65 → S c = t c) ∧ ∀ p q : Nat, Cut A p q → (p : Int) < 0 → S 64 (p : Int) = agA ov K p + agA ov K q + sovF (fun _ x => sovF ov q x K.toNat) p 0 K.toNat ∧ S 65 (p : Int) = cutO ov K a p q) → G LY X 20 [rv 59, iv K, iv a, iv (A : Int), iv 0, none, none] [] S := by
    refine downI (P := fun v => ∀ S : Sto, ((∀ c : Nat, c ≠ 64 → c ≠ 65 → S c = t c) ∧ ∀ p q : Nat, Cut A p q → (p : Int) < v → S 64 (p : Int) = agA ov K p + agA ov K q + sovF (fun _ x => sovF ov q x K.toNat) p 0 K.toNat ∧ S 65 (p : Int) = cutO ov K a p q) → G LY X 20 [rv 59, iv K, iv a, iv (A : Int), iv v, none, none] [] S) (a := 0) (b := (A : Int) + 1) (by omega) ?_ ?_
    · rintro S ⟨k1, k2⟩
      refine kb_X0_splitAround_20 C r ⟨⟨⟨by omega, by omega⟩, ⟨by omega, by omega⟩⟩, fun _ => ⟨fun c hc => by rw [k1 c (by omega) (by omega), t1 c (by omega) (by omega)], fun p q c => k2 p q c ?_⟩, fun z => absurd z (by omega)⟩
      have := sub_le (by omega) (by have := (c.bd (n := 8) (by omega)).1; omega) c.1
      omega
    · rintro v v0 v1 ih S ⟨k1, k2⟩
      obtain ⟨p, rfl⟩ := Int.eq_ofNat_of_zero_le v0
      have pl : p ≤ A := by omega
      have si := sub_iff (A := A) (p := p) (by omega) (by omega)
      refine kb_X0_splitAround_20 C r ⟨⟨⟨by omega, by omega⟩, ⟨by omega, by omega⟩⟩, fun z => absurd z (by omega), fun _ => ⟨fun z => ih S ⟨k1, fun p' q' c hp => ?_⟩, fun z => ?_⟩⟩
      · by_cases e : p' = p
        · subst e; exact absurd (si.mpr c.1) z
        · exact k2 p' q' c (by omega)
      obtain ⟨q, q1, c⟩ := Cut.ex (A := A) (p := p) (by omega) (by omega) (si.mp z)
      have cb := c.bd (n := K.toNat) (by omega)
      rw [q1]
      refine ⟨0, _, by decide, t_bitCount (by omega), ?_⟩
      rintro bc y ⟨hy, hbc⟩
      have pcq := (pc8_all ⟨q, by omega⟩).2
      simp only at pcq
      rw [pcq] at hbc
      rw [hy]
      refine ⟨⟨by omega, by omega⟩, ⟨by omega, by omega⟩, 2, _, by decide, t_X0_supportAcross hK (by omega) (by omega) (fun x y x0 x1 y0 y1 => by rw [k1 60 (by decide) (by decide), t1 60 (by decide) (by decide)]; exact h x y x0 x1 y0 y1), ?_⟩
      rintro sa y2 ⟨hy2, hsa⟩
      rw [hy2, k1 62 (by decide) (by decide), (t2 p cb.1).1, (t2 q cb.2).1]
      refine ⟨⟨by omega, by omega⟩, ?_⟩
      rintro S3 hS3
      have e63 : S3 63 = t 63 := by rw [hS3, up_row (by decide), k1 63 (by decide) (by decide)]
      refine ⟨⟨by omega, by omega⟩, ⟨by omega, by omega⟩, ⟨by omega, by omega⟩, ?_⟩
      have ob := cutO_bd (M := 2 ^ K.toNat - 1) hb hK' (by omega) ha.1 am hA' c
      have pb : ∀ m : Nat, m < 2 ^ K.toNat → 0 ≤ pq 8 (rwA ov K m) (pcF m 8) ∧ pq 8 (rwA ov K m) (pcF m 8) < 8 ^ (pcF m 8) := fun m hm => pq_bd (by decide) _ (fun i hi => by
        have := rwA_is hb hK' hm (i := (i : Int)) (by omega) (by omega)
        omega)
      have oc := or_cut (n := pcF q 8) (m := pcF p 8) (a := a) ob.2 (pb p cb.1) (by omega) (pb q cb.2)
      rw [e63, (t2 p cb.1).2, (t2 q cb.2).2, hbc, oc]
      rintro S4 hS4
      refine ih S4 ⟨fun c' c1 c2 => by rw [hS4, up_row c2, hS3, up_row c1, k1 c' c1 c2], fun p' q' c' hp => ?_⟩
      by_cases e : p' = p
      · subst e
        have eq := c.uniq c'
        subst eq
        refine ⟨?_, ?_⟩
        · rw [hS4, up_row (by decide), hS3, up_at, hsa]
        · rw [hS4, up_at]; rfl
      · have g := k2 p' q' c' (by omega)
        refine ⟨?_, ?_⟩
        · rw [hS4, up_row (by decide), hS3, up_idx (by omega)]; exact g.1
        · rw [hS4, up_idx (by omega), hS3, up_row (by decide)]; exact g.2
  exact main t ⟨fun _ _ _ => rfl, fun p q c z => absurd z (by omega)⟩
theorem t_X0_swayOf {K a : Int} {m : Nat} {s : Sto} {ov2 : Int → Int → Int} (hK : 2 ≤ K ∧ K ≤ 8) (ha : 0 ≤ a ∧ a < K) (h0 : m ≠ 0) (hm : m < 2 ^ K.toNat) (h : OVR s K ov2) (h66 : ∀ l : Nat, m.testBit l = true → s 66 ((clr m l : Nat) : Int) = sovF (fun _ x => ov2 x a - ov2 a x) (clr m l) 0 K.toNat) : ClI LY 1 MX0_swayOf [.inr 59, .inl (m : Int), .inl a] s (fun r s' => s' = s ∧ r = sovF (fun _ x => ov2 x a - ov2 a x) m 0 K.toNat) := by
  have p2 := pow_256 (K := K) hK.2
  obtain ⟨l, l1, l2, l3, l4⟩ := low_all ⟨m, by omega⟩ h0
  simp only at l1 l2 l3
  have lK := bit_lt hm l1
  have l8 := l.isLt
  have cl := clr_le (m := m) (l := l.val) (by omega) l8
  have pl : (2 : Nat) ^ l.val ≤ 2 ^ 8 := Nat.pow_le_pow_right (by decide) (by omega)
  refine ClI.intro (by decide) rfl (Nat.le_of_ble_eq_true rfl) (fun X C r => ?_)
  refine kb_X0_swayOf_0 C r ?_
  rw [l2, l3]
  refine ⟨0, _, by decide, t_bitCount (by omega), ?_⟩
  rintro x y ⟨hy, hx⟩
  rw [l4] at hx
  rw [hy, hx]
  refine ⟨⟨by omega, by omega⟩, 0, _, by decide, t_X0_supportOf (by omega), ?_⟩
  rintro x1 y1 ⟨hy1, hx1⟩
  rw [hy1, hx1]
  refine ⟨0, _, by decide, t_X0_supportOf (by omega), ?_⟩
  rintro x2 y2 ⟨hy2, hx2⟩
  rw [hy2, hx2, h66 l.val l1, (h (l.val : Int) a (by omega) lK ha.1 ha.2).1, (h a (l.val : Int) ha.1 ha.2 (by omega) lK).1]
  refine ⟨rfl, ?_⟩
  rw [sov_clr (y := l.val) (by omega) l1 K.toNat (by omega), if_pos (by omega)]
  omega
set_option maxHeartbeats 8000000 in
theorem t_X0_isAheadByNearest {K a b : Int} {s : Sto} {ov ov2 : Int → Int → Int} (hK : 2 ≤ K ∧ K ≤ 8) (ha : 0 ≤ a ∧ a < K) (hb : 0 ≤ b ∧ b < K) (ab : a ≠ b) (hov : ∀ a b : Int, 0 ≤ a → a < K → 0 ≤ b → b < K → 0 ≤ ov a b ∧ ov a b ≤ 108) (h : OVR s K ov2) (e : ∀ x y : Int, 0 ≤ x → x < K → 0 ≤ y → y < K → x ≠ a → y ≠ a → ov2 x y = ov x y) (h64 : ∀ p q : Nat, Cut (clr (2 ^ K.toNat - 1) a.toNat) p q → s 64 (p : Int) = agA ov K p + agA ov K q + sovF (fun _ x => sovF ov q x K.toNat) p 0 K.toNat ∧ s 65 (p : Int) = cutO ov K a p q) : ClI LY 2 MX0_isAheadByNearest [.inr 59, .inl K, .inl a, .inl b] s (fun r s' => (∀ c : Nat, c ≠ 66 → s' c = s c) ∧ r = oneIf (atF (rwA ov2 K (2 ^ K.toNat - 1)) a K.toNat < atF (rwA ov2 K (2 ^ K.toNat - 1)) b K.toNat)) := by
  have hK' : 0 ≤ K ∧ K ≤ 8 := by omega
  have p2 := pow_256 (K := K) hK.2
  have p0 : 0 < (2 : Nat) ^ K.toNat := Nat.pow_pos (by decide)
  have hov2 := h.bd
  have mask := all_mask hK ha
  have hA' : ∀ j : Nat, (clr (2 ^ K.toNat - 1) a.toNat).testBit j = true ↔ (2 ^ K.toNat - 1).testBit j = true ∧ j ≠ a.toNat := fun j => clr_bits' (by omega) (by omega)
  have Ale := clr_le (m := 2 ^ K.toNat - 1) (l := a.toNat) (by omega) (by omega)
  have am : (2 ^ K.toNat - 1).testBit a.toNat = true := full_bit (by omega)
  generalize clr (2 ^ K.toNat - 1) a.toNat = A at mask hA' Ale h64 ⊢
  have ahead := fun B C c opt => cut_ahead (B := B) (C := C) hov hov2 hK ha hb ab hA' e c opt
  have tb : ∀ p q : Nat, Cut A p q → -500000 ≤ cutT ov ov2 K a p q ∧ cutT ov ov2 K a p q ≤ 500000 := fun p q _ => by
    have x := cutX_bd (p := p) (q := q) hov hov2 hK' ha
    have a1 := agA_bd hov hK' p
    have a2 := agA_bd hov hK' q
    unfold cutT cutX
    omega
  have ob : ∀ p q : Nat, Cut A p q → 0 ≤ cutO ov K a p q ∧ cutO ov K a p q < 16777216 := fun p q c => (cutO_bd (M := 2 ^ K.toNat - 1) hov hK' (by omega) ha.1 am hA' c).1
  refine ClI.introZ (by decide) rfl (Nat.le_of_ble_eq_true rfl) (fun X C r => ?_)
  refine kb_X0_isAheadByNearest_0 C r ?_
  rintro t ht
  rw [mask]
  have main : ∀ (S : Sto) (B D : Nat), Cut A B D → ((B : Int) < 1 ∧ (∀ c : Nat, c ≠ 66 → S c = s c) ∧ ∀ p q : Nat, Cut A p q → (p : Int) < 1 → S 66 (p : Int) = sovF (fun _ x => ov2 x a - ov2 a x) p 0 K.toNat ∧ (cutT ov ov2 K a p q < cutT ov ov2 K a B D ∨ (cutT ov ov2 K a p q = cutT ov ov2 K a B D ∧ cutO ov K a B D ≤ cutO ov K a p q))) → G LY X 26 [rv 59, iv K, iv a, iv b, iv (A : Int), iv (B : Int), iv 1, none] [] S := by
    refine downI (P := fun v => ∀ (S : Sto) (B D : Nat), Cut A B D → ((B : Int) < v ∧ (∀ c : Nat, c ≠ 66 → S c = s c) ∧ ∀ p q : Nat, Cut A p q → (p : Int) < v → S 66 (p : Int) = sovF (fun _ x => ov2 x a - ov2 a x) p 0 K.toNat ∧ (cutT ov ov2 K a p q < cutT ov ov2 K a B D ∨ (cutT ov ov2 K a p q = cutT ov ov2 K a B D ∧ cutO ov K a B D ≤ cutO ov K a p q))) → G LY X 26 [rv 59, iv K, iv a, iv b, iv (A : Int), iv (B : Int), iv v, none] [] S) (a := 1) (b := (A : Int) + 1) (by omega) ?_ ?_
    · rintro S B D cB ⟨k0, k1, k2⟩
      have opt : ∀ p q : Nat, Cut A p q → cutT ov ov2 K a p q < cutT ov ov2 K a B D ∨ (cutT ov ov2 K a p q = cutT ov ov2 K a B D ∧ cutO ov K a B D ≤ cutO ov K a p q) := fun p q c => (k2 p q c (by
        have := sub_le (by omega) (by have := (c.bd (n := 8) (by omega)).1; omega) c.1
        omega)).2
      have ah := ahead B D cB opt
      have bt := bit_iff (n := B) (i := b) (by omega) (by omega)
      refine kb_X0_isAheadByNearest_26 C r ⟨⟨⟨by omega, by omega⟩, ⟨by omega, by omega⟩⟩, fun _ => ⟨fun z => ⟨k1, ?_⟩, fun z => ⟨k1, ?_⟩⟩, fun z => absurd z (by omega)⟩
      · refine (oneIf_f (fun w => ?_)).symm
        have w' := ah.mpr w
        rcases xand01 (xshr (B : Int) b) with z2 | z2
        · exact z z2
        · rw [bt.mp z2] at w'; exact absurd w' (by decide)
      · refine (oneIf_t (ah.mp ?_)).symm
        cases w : B.testBit b.toNat with
        | false => rfl
        | true => have := bt.mpr w; omega
    · rintro v v0 v1 ih S B D cB ⟨k0, k1, k2⟩
      obtain ⟨p, rfl⟩ := Int.eq_ofNat_of_zero_le (show 0 ≤ v by omega)
      have pl : p ≤ A := by omega
      have si := sub_iff (A := A) (p := p) (by omega) (by omega)
      refine kb_X0_isAheadByNearest_26 C r ⟨⟨⟨by omega, by omega⟩, ⟨by omega, by omega⟩⟩, fun z => absurd z (by omega), fun _ => ⟨fun z => ih S B D cB ⟨by omega, k1, fun p' q' c hp => ?_⟩, fun z => ?_⟩⟩
      · by_cases e : p' = p
        · subst e; exact absurd (si.mpr c.1) z
        · exact k2 p' q' c (by omega)
      obtain ⟨q, q1, c⟩ := Cut.ex (A := A) (p := p) (by omega) (by omega) (si.mp z)
      have cb := c.bd (n := K.toNat) (by omega)
      refine ⟨1, _, by decide, t_X0_swayOf (m := p) (ov2 := ov2) hK ha (by omega) cb.1 (fun x y x0 x1 y0 y1 => by rw [k1 60 (by decide)]; exact h x y x0 x1 y0 y1) (fun l hl => ?_), ?_⟩
      · have l8 := b256 (by omega) hl
        have cl := clr_lt (m := p) (l := l) (by omega) l8 hl
        obtain ⟨q', _, c'⟩ := Cut.ex (A := A) (p := clr p l) (by omega) (by omega) (fun j hj => c.1 j ((clr_bits' (by omega) l8).mp hj).1)
        exact (k2 _ q' c' (by omega)).1
      · rintro sw y ⟨hy, hsw⟩
        rw [hy]
        refine ⟨⟨by omega, by omega⟩, ?_⟩
        rintro S2 hS2
        have e64 : S2 64 = s 64 := by rw [hS2, up_row (by decide), k1 64 (by decide)]
        have e65 : S2 65 = s 65 := by rw [hS2, up_row (by decide), k1 65 (by decide)]
        have ep : S2 66 (p : Int) = sovF (fun _ x => ov2 x a - ov2 a x) p 0 K.toNat := by rw [hS2, up_at, hsw]
        have eB : S2 66 (B : Int) = sovF (fun _ x => ov2 x a - ov2 a x) B 0 K.toNat := by rw [hS2, up_idx (by omega)]; exact (k2 B D cB k0).1
        have m1 := h64 p q c
        have m2 := h64 B D cB
        have tp : s 64 (p : Int) + S2 66 (p : Int) = cutT ov ov2 K a p q := by
          rw [m1.1, ep]; unfold cutT cutX; omega
        have tB : s 64 (B : Int) + S2 66 (B : Int) = cutT ov ov2 K a B D := by
          rw [m2.1, eB]; unfold cutT cutX; omega
        have b1 := tb p q c
        have b2 := tb B D cB
        have o1 := ob p q c
        have o2 := ob B D cB
        have f2 : ∀ c : Nat, c ≠ 66 → S2 c = s c := fun c hc => by rw [hS2, up_row hc, k1 c hc]
        have old : ∀ p' q' : Nat, Cut A p' q' → p' ≠ p → (p' : Int) < (p : Int) + 1 → S2 66 (p' : Int) = sovF (fun _ x => ov2 x a - ov2 a x) p' 0 K.toNat ∧ (cutT ov ov2 K a p' q' < cutT ov ov2 K a B D ∨ (cutT ov ov2 K a p' q' = cutT ov ov2 K a B D ∧ cutO ov K a B D ≤ cutO ov K a p' q')) := fun p' q' c' np hp => by
          have g := k2 p' q' c' (by omega)
          exact ⟨by rw [hS2, up_idx (by omega)]; exact g.1, g.2⟩
        have keep : cutT ov ov2 K a p q < cutT ov ov2 K a B D ∨ (cutT ov ov2 K a p q = cutT ov ov2 K a B D ∧ cutO ov K a B D ≤ cutO ov K a p q) → G LY X 26 [rv 59, iv K, iv a, iv b, iv (A : Int), iv (B : Int), iv ((p : Int) + 1), none] [] S2 := fun w => by
          refine ih S2 B D cB ⟨by omega, f2, fun p' q' c' hp => ?_⟩
          by_cases e : p' = p
          · subst e
            have eq := c.uniq c'
            subst eq
            exact ⟨ep, w⟩
          · exact old p' q' c' e hp
        have take : cutT ov ov2 K a B D < cutT ov ov2 K a p q ∨ (cutT ov ov2 K a B D = cutT ov ov2 K a p q ∧ cutO ov K a p q ≤ cutO ov K a B D) → G LY X 26 [rv 59, iv K, iv a, iv b, iv (A : Int), iv (p : Int), iv ((p : Int) + 1), none] [] S2 := fun w => by
          refine ih S2 p q c ⟨by omega, f2, fun p' q' c' hp => ?_⟩
          by_cases e : p' = p
          · subst e
            have eq := c.uniq c'
            subst eq
            exact ⟨ep, Or.inr ⟨rfl, Int.le_refl _⟩⟩
          · have g := old p' q' c' e hp
            exact ⟨g.1, by omega⟩
        have B256 : B < 256 := by omega
        rw [e64, e65, m1.2, m2.2]
        refine ⟨⟨by omega, by omega⟩, ⟨by omega, by omega⟩, ⟨by omega, by omega⟩, ⟨by omega, by omega⟩, ⟨by omega, by omega⟩, fun z => take (by omega), fun z => ⟨⟨by omega, by omega⟩, fun z2 => keep (by omega), fun z2 => ⟨⟨by omega, by omega⟩, ⟨by omega, by omega⟩, ⟨⟨by omega, by omega⟩, ⟨by omega, by omega⟩⟩, fun z3 => keep (by omega), fun z3 => take (by omega)⟩⟩⟩
  have c0 : ∃ D : Nat, Cut A 0 D := by
    obtain ⟨D, _, c⟩ := Cut.ex (A := A) (p := 0) (by omega) (by omega) (fun j hj => by rw [Nat.zero_testBit] at hj; exact absurd hj (by decide))
    exact ⟨D, c⟩
  obtain ⟨D, cD⟩ := c0
  refine main t 0 D cD ⟨by decide, fun c hc => by rw [ht, up_row hc], fun p q c hp => ?_⟩
  obtain rfl : p = 0 := by omega
  have eq := cD.uniq c
  subst eq
  refine ⟨?_, Or.inr ⟨rfl, Int.le_refl _⟩⟩
  rw [ht, sov_0]
  exact up_at ..
