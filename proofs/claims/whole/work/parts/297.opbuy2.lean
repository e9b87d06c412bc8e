/-! OPERATION: buy, both sides -/
theorem bit_if {x y : Int} : xand x 1 * y = if xand x 1 = 1 then y else 0 := by
  rcases xand01 x with z | z
  · rw [z, if_neg (by decide)]; omega
  · rw [z, if_pos rfl]; omega
set_option maxHeartbeats 8000000 in
theorem op_buy [Inhabited YT] {s : Sto} (h : Inv s) {a b rule what : Int} (ha : rg a) (hb : rg b) (hr : rg rule) (hw : rg what) : OpI MX11_buy MX12_buy [.inl a, .inl b, .inl rule, .inl what] s := by
  obtain ⟨v1, v2, v3, v4⟩ := h.vts
  obtain ⟨sh, n0, n1⟩ := shl_n h
  refine ⟨7, 5, (fun r1 s1 => (∀ c : Nat, ¬ (59 ≤ c ∧ c ≤ 68) → s1 c = s c) ∧ ((¬ (((0 ≤ a ∧ a < s 75 9) ∧ (0 ≤ b ∧ b < s 75 9) ∧ a ≠ b) ∧ (0 ≤ rule ∧ rule ≤ 2) ∧ 0 ≤ what ∧ what ≤ 1) ∧ r1 = -1) ∨ ((((0 ≤ a ∧ a < s 75 9) ∧ (0 ≤ b ∧ b < s 75 9) ∧ a ≠ b) ∧ (0 ≤ rule ∧ rule ≤ 2) ∧ 0 ≤ what ∧ what ≤ 1) ∧ r1 = if what = 0 then bst (priceB s) (aheadB s a b rule) (2 ^ (s 75 18).toNat) else leastB s a b rule (-1) (2 ^ (s 75 18).toNat)))), by decide, by decide, ?_, ?_⟩
  · refine ClI.intro (by decide) rfl (Nat.le_of_ble_eq_true rfl) (fun X C r => ?_)
    have nil : ∀ c : Nat, ¬ (59 ≤ c ∧ c ≤ 68) → s c = s c := fun _ _ => rfl
    refine kb_X11_buy_0 C r ⟨0, _, by decide, t_X11_areTwoLetters ha hb (by omega), ?_⟩
    rintro q t ⟨ht, q1, q2⟩
    rw [ht]
    rw [v1.1] at q2
    refine ⟨⟨by omega, by omega⟩, fun z => ⟨nil, Or.inl ⟨fun w => by have := q2.mpr w.1; omega, rfl⟩⟩, fun z => ⟨hr, fun z2 => ⟨nil, Or.inl ⟨by omega, rfl⟩⟩, fun z2 => ⟨hr, fun z3 => ⟨nil, Or.inl ⟨by omega, rfl⟩⟩, fun z3 => ⟨hw, fun z4 => ⟨nil, Or.inl ⟨by omega, rfl⟩⟩, fun z4 => ⟨hw, fun z5 => ?_, fun z5 => ⟨nil, Or.inl ⟨by omega, rfl⟩⟩⟩⟩⟩⟩⟩
    have c := q2.mp (by omega)
    refine ⟨6, _, by decide, t_X0_buyCheapest h c.1 c.2.1 c.2.2 hr, ?_⟩
    rintro u ⟨u1, u2, u3⟩
    refine ⟨hw, fun z6 => ⟨u1, Or.inr ⟨⟨c, by omega, by omega⟩, ?_⟩⟩, fun z6 => ⟨u1, Or.inr ⟨⟨c, by omega, by omega⟩, ?_⟩⟩⟩
    · rw [u3, if_neg z6]
    · rw [u2, if_pos z6]
  · rintro r1 s1 ⟨g1, g2⟩
    have iz : Inv (up s1 75 0 0) := (h.scr (fun c j hc => by rw [g1 c (by unfold pers perM at hc; omega)])).told 0
    have ez : ∀ c : Nat, c ≠ 75 → ¬ (59 ≤ c ∧ c ≤ 68) → up s1 75 0 0 c = s c := fun c c2 c3 => by rw [up_row c2, g1 c c3]
    have z75 : ∀ j : Int, j ≠ 0 → up s1 75 0 0 75 j = s 75 j := fun j hj => by rw [up_idx hj, g1 75 (by decide)]
    have no : ¬ (((0 ≤ a ∧ a < s 75 9) ∧ (0 ≤ b ∧ b < s 75 9) ∧ a ≠ b) ∧ (0 ≤ rule ∧ rule ≤ 2) ∧ 0 ≤ what ∧ what ≤ 1) → -1 = r1 := fun q => by
      rcases g2 with g | g
      · exact g.2.symm
      · exact absurd g.1 q
    have bb := bst_bd (priceB s) (aheadB s a b rule) (2 ^ (s 75 18).toNat)
    have lb := leastB_bd h (a := a) (b := b) (rule := rule) (z := -1) (k := 2 ^ (s 75 18).toNat) (by decide)
    have hr1 : rg r1 := by
      rcases g2 with g | g
      · rw [g.2]; decide
      · rw [g.2]
        split
        · exact ⟨by omega, by omega⟩
        · exact ⟨by omega, by omega⟩
    refine ⟨hr1, ?_⟩
    generalize hz : up s1 75 0 0 = z at *
    refine ClI.intro (by decide) rfl (Nat.le_of_ble_eq_true rfl) (fun X C r => ?_)
    refine kb_X12_buy_0 C r ?_
    rintro z' hz'
    rw [hz] at hz'
    rw [hz']
    refine ⟨0, _, by decide, t_X12_isLetterOf ha (by rw [z75 9 (by decide)]; exact ⟨by omega, by omega⟩), ?_⟩
    rw [z75 9 (by decide)]
    rintro q t ⟨ht, q1, q2⟩
    rw [ht]
    refine ⟨⟨by omega, by omega⟩, fun k1 => ⟨no (by omega), iz⟩, fun k1 => ⟨0, _, by decide, t_X12_isLetterOf hb (by rw [z75 9 (by decide)]; exact ⟨by omega, by omega⟩), ?_⟩⟩
    rw [z75 9 (by decide)]
    rintro q' t' ⟨ht', q1', q2'⟩
    rw [ht']
    refine ⟨⟨by omega, by omega⟩, fun k2 => ⟨no (by omega), iz⟩, fun k2 => ⟨⟨ha, hb⟩, fun k3 => ⟨no (by omega), iz⟩, fun k3 => ⟨0, _, by decide, t_X12_isIn hr (by decide) (by decide), ?_⟩⟩⟩
    rintro q3 t3 ⟨ht3, q31, q32⟩
    rw [ht3]
    refine ⟨⟨by omega, by omega⟩, fun k4 => ⟨no (by omega), iz⟩, fun k4 => ⟨0, _, by decide, t_X12_isIn hw (by decide) (by decide), ?_⟩⟩
    rintro q4 t4 ⟨ht4, q41, q42⟩
    rw [ht4]
    refine ⟨⟨by omega, by omega⟩, fun k5 => ?_, fun k5 => ⟨no (by omega), iz⟩⟩
    rintro y hy
    have cc : ((0 ≤ a ∧ a < s 75 9) ∧ (0 ≤ b ∧ b < s 75 9) ∧ a ≠ b) ∧ (0 ≤ rule ∧ rule ≤ 2) ∧ 0 ≤ what ∧ what ≤ 1 := by omega
    have er : r1 = if what = 0 then bst (priceB s) (aheadB s a b rule) (2 ^ (s 75 18).toNat) else leastB s a b rule (-1) (2 ^ (s 75 18).toNat) := by
      rcases g2 with g | g
      · exact absurd cc g.1
      · exact g.2
    have ca := cc.1.1
    have cb := cc.1.2.1
    have cab := cc.1.2.2
    have bq : BQ s y a := by
      have y75 : ∀ j : Int, j ≠ 0 → j ≠ 59 → y 75 j = s 75 j := fun j j1 j2 => by rw [hy, up_idx j2, z75 j j1]
      have yc : ∀ c : Nat, c ≠ 75 → ¬ (59 ≤ c ∧ c ≤ 68) → y c = s c := fun c c1 c2 => by rw [hy, up_row c1, ez c c1 c2]
      refine ⟨iz.bf (fun c i _ hn => by rw [hy, up_ne hn]) (by rw [hy, up_at]; exact ha), y75 9 (by decide) (by decide), y75 18 (by decide) (by decide), by rw [hy, up_at], fun i _ _ => by rw [yc 81 (by decide) (by decide)], fun i _ _ => by rw [begS_81 (s := s) (y75 22 (by decide) (by decide)) (yc 81 (by decide) (by decide))], yc 89 (by decide) (by decide), yc 90 (by decide) (by decide)⟩
    have main : ∀ S : Sto, BQ s S a → G LY X 63 [rv 75, iv a, iv b, iv rule, iv what, iv (bst (priceB s) (aheadB s a b rule) (0 : Int).toNat), iv (leastB s a b rule 0 (0 : Int).toNat), iv 0, none, none] [] S := by
      refine downI (P := fun k => ∀ S : Sto, BQ s S a → G LY X 63 [rv 75, iv a, iv b, iv rule, iv what, iv (bst (priceB s) (aheadB s a b rule) k.toNat), iv (leastB s a b rule 0 k.toNat), iv k, none, none] [] S) (a := 0) (b := ((2 ^ (s 75 18).toNat : Nat) : Int)) (by omega) ?_ ?_
      · rintro S q
        obtain ⟨q0, qa, qb, _⟩ := id q
        refine kb_X12_buy_63 C r ?_
        rw [qb, sh, show ((2 ^ (s 75 18).toNat : Nat) : Int).toNat = 2 ^ (s 75 18).toNat by omega]
        refine ⟨⟨by omega, by omega⟩, fun _ => ?_, fun w => absurd w (by omega)⟩
        rintro W hW
        have iw : Inv W := q0.scr (fun c j hc => by rw [hW, up_ne (by unfold pers perM at hc; omega)])
        refine ⟨⟨by omega, by omega⟩, fun w => ⟨?_, iw⟩, fun w => ⟨hw, fun w2 => ⟨?_, iw⟩, fun w2 => ⟨?_, iw⟩⟩⟩
        · rw [er]
          by_cases e : what = 0
          · rw [if_pos e]
          · rw [if_neg e]
            unfold leastB
            rw [if_pos w, w]
        · rw [er, if_neg w2]
          unfold leastB
          rw [if_neg w, if_neg w]
        · rw [er, if_pos w2]
      · rintro k' k0 kn ih S q
        obtain ⟨k, rfl⟩ := Int.eq_ofNat_of_zero_le k0
        rw [show ((k : Nat) : Int).toNat = k by omega]
        rw [show ((k : Int) + 1).toNat = k + 1 by omega] at ih
        obtain ⟨q0, qa, qb, qc, qd, qe, qf, qg⟩ := id q
        have k12 : k < 4096 := by omega
        have bk := bst_bd (priceB s) (aheadB s a b rule) k
        have lk := leastB_bd h (a := a) (b := b) (rule := rule) (z := 0) (k := k) (by decide)
        have pb := priceB_bd h k
        have bring := fun (S : Sto) (q : BQ s S a) => t_bringsB (k := k) h ca cb cab hr q
        have ab01 := oneIf_bd (aheadB s a b rule k)
        -- the set is tried
        have trial : (bst (priceB s) (aheadB s a b rule) k = -1 ∨ priceB s k < priceB s (bst (priceB s) (aheadB s a b rule) k).toNat ∨ (priceB s k = priceB s (bst (priceB s) (aheadB s a b rule) k).toNat ∧ pcF k 20 < pcF (bst (priceB s) (aheadB s a b rule) k).toNat 20)) → ∀ (x : Int) (W : Sto), (BQ s W a ∧ x = oneIf (aheadB s a b rule k)) → rg x ∧ ((x ≠ 0 → G LY X 63 [rv 75, iv a, iv b, iv rule, iv what, iv (k : Int), iv (priceB s k), iv ((k : Int) + 1), none, none] [] W) ∧ (x = 0 → G LY X 63 [rv 75, iv a, iv b, iv rule, iv what, iv (bst (priceB s) (aheadB s a b rule) k), iv (leastB s a b rule 0 k), iv ((k : Int) + 1), none, none] [] W)) := fun ch x W hx => by
          have i2 := ih W hx.1
          have e := hx.2
          refine ⟨⟨by omega, by omega⟩, fun w => ?_, fun w => ?_⟩
          · have eb : bst (priceB s) (aheadB s a b rule) (k + 1) = k := bst_t ⟨ch, oneIf_1.mp (by omega)⟩
            have el : leastB s a b rule 0 (k + 1) = priceB s k := by
              unfold leastB
              rw [eb, if_neg (by omega), show ((k : Nat) : Int).toNat = k by omega]
            rw [eb, el] at i2
            exact i2
          · have eb : bst (priceB s) (aheadB s a b rule) (k + 1) = bst (priceB s) (aheadB s a b rule) k := bst_f (fun c => oneIf_0.mp (by omega) c.2)
            have el : leastB s a b rule 0 (k + 1) = leastB s a b rule 0 k := by
              unfold leastB
              rw [eb]
            rw [eb, el] at i2
            exact i2
        have skip : ¬ (bst (priceB s) (aheadB s a b rule) k = -1 ∨ priceB s k < priceB s (bst (priceB s) (aheadB s a b rule) k).toNat ∨ (priceB s k = priceB s (bst (priceB s) (aheadB s a b rule) k).toNat ∧ pcF k 20 < pcF (bst (priceB s) (aheadB s a b rule) k).toNat 20)) → G LY X 63 [rv 75, iv a, iv b, iv rule, iv what, iv (bst (priceB s) (aheadB s a b rule) k), iv (leastB s a b rule 0 k), iv ((k : Int) + 1), none, none] [] S := fun nc => by
          have i2 := ih S q
          have eb : bst (priceB s) (aheadB s a b rule) (k + 1) = bst (priceB s) (aheadB s a b rule) k := bst_f (fun c => nc c.1)
          have el : leastB s a b rule 0 (k + 1) = leastB s a b rule 0 k := by
            unfold leastB
            rw [eb]
          rw [eb, el] at i2
          exact i2
        refine kb_X12_buy_63 C r ?_
        rw [qb, sh]
        refine ⟨⟨by omega, by omega⟩, fun w => absurd w (by omega), fun _ => ?_⟩
        have inner : G LY X 80 [rv 75, iv a, iv b, iv rule, iv what, iv (bst (priceB s) (aheadB s a b rule) k), iv (leastB s a b rule 0 k), iv (k : Int), iv (sumF (fun v => xand (xshr (k : Int) v) 1 * s 90 v) (0 : Int).toNat), iv 0] [] S := by
          refine downI (P := fun v => G LY X 80 [rv 75, iv a, iv b, iv rule, iv what, iv (bst (priceB s) (aheadB s a b rule) k), iv (leastB s a b rule 0 k), iv (k : Int), iv (sumF (fun v => xand (xshr (k : Int) v) 1 * s 90 v) v.toNat), iv v] [] S) (a := 0) (b := s 75 18) v3.1 ?_ ?_
          · have ep : sumF (fun v => xand (xshr (k : Int) v) 1 * s 90 v) (s 75 18).toNat = priceB s k := rfl
            rw [ep]
            refine kb_X12_buy_80 C r ?_
            rw [qb]
            refine ⟨⟨⟨by omega, by omega⟩, ⟨by omega, by omega⟩⟩, fun _ => ⟨⟨by omega, by omega⟩, fun w => ?_, fun w => ?_⟩, fun w => absurd w (by omega)⟩
            · rintro V rfl
              exact ⟨3, _, by decide, bring S q, trial (Or.inl w)⟩
            have el : leastB s a b rule 0 k = priceB s (bst (priceB s) (aheadB s a b rule) k).toNat := if_neg w
            refine ⟨⟨⟨by omega, by omega⟩, ⟨by omega, by omega⟩⟩, fun w2 => skip (by omega), fun w2 => ⟨⟨⟨by omega, by omega⟩, ⟨by omega, by omega⟩⟩, fun w3 => ?_, fun w3 => ?_⟩⟩
            · rintro V rfl
              exact ⟨3, _, by decide, bring S q, trial (by omega)⟩
            · refine ⟨0, _, by decide, t_X12_ones k12, ?_⟩
              rintro c1 y1 ⟨hy1, hc1⟩
              rw [hy1]
              obtain ⟨m, hm⟩ := Int.eq_ofNat_of_zero_le (show 0 ≤ bst (priceB s) (aheadB s a b rule) k by omega)
              have b1 : pcF k 20 ≤ 20 := pcF_le k 20
              have b2 : pcF m 20 ≤ 20 := pcF_le m 20
              have tm : (bst (priceB s) (aheadB s a b rule) k).toNat = m := by omega
              have on := t_X12_ones (n := m) (s := S) (by omega)
              rw [← hm] at on
              refine ⟨0, _, by decide, on, ?_⟩
              rintro c2 y2 ⟨hy2, hc2⟩
              rw [hy2, hc1, hc2]
              refine ⟨⟨⟨by omega, by omega⟩, ⟨by omega, by omega⟩⟩, fun w4 => ?_, fun w4 => skip (by rw [tm]; rw [tm] at el; omega)⟩
              rintro V rfl
              exact ⟨3, _, by decide, bring S q, trial (by rw [tm]; rw [tm] at el; omega)⟩
          · intro v v0 v1' ih2
            rw [sumF_s _ v0, bit_if] at ih2
            refine kb_X12_buy_80 C r ?_
            rw [qb, qg]
            refine ⟨⟨⟨by omega, by omega⟩, ⟨by omega, by omega⟩⟩, fun w => absurd w (by omega), fun _ => ⟨fun w => ?_, fun w => ⟨⟨by omega, by omega⟩, ?_⟩⟩⟩
            · rw [if_neg w, Int.add_zero] at ih2; exact ih2
            · rw [if_pos w] at ih2; exact ih2
        exact inner
    have l0 : leastB s a b rule 0 (0 : Int).toNat = 0 := by unfold leastB; exact if_pos rfl
    have m0 := main y bq
    rw [l0] at m0
    exact m0
