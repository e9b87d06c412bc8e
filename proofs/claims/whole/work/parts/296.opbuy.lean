/-! OPERATION: buy -/
theorem Inv.bf [Inhabited YT] {s s' : Sto} (h : Inv s) (e : ∀ (c : Nat) (i : Int), pers c i → ¬ (c = 75 ∧ i = 59) → s' c i = s c i) (r : rg (s' 75 59)) : Inv s' := by
  have er : ∀ c : Nat, c ≤ 38 ∨ c = 91 ∨ c = 92 ∨ c = 118 → s' c = s c := fun c hc => funext (fun i => e c i (by unfold pers; omega) (by omega))
  obtain ⟨⟨h1, h2⟩, h3, h4, ⟨h5, h6, h7⟩, h8, h9, h10⟩ := h
  refine ⟨⟨?_, ?_⟩, h3.congr (fun c i a b => e c i (by unfold pers; omega) (by omega)) (fun c i hc => e c i (Or.inr (Or.inr (Or.inl hc))) (by unfold perM at hc; omega)), ?_, ⟨?_, ?_, ?_⟩, ?_, ?_, ?_⟩
  · rw [er 1 (by omega), e 75 24 (by unfold pers; omega) (by omega)]; exact h1
  · rw [er 1 (by omega), er 2 (by omega), er 91 (by omega)]; exact h2
  · rw [e 39 4 (by unfold pers; omega) (by omega), e 39 5 (by unfold pers; omega) (by omega), e 75 42 (by unfold pers; omega) (by omega), e 75 43 (by unfold pers; omega) (by omega)]; exact h4
  · rw [er 0 (by omega), e 75 69 (by unfold pers; omega) (by omega)]; exact h5
  · rw [er 0 (by omega)]; exact h6
  · intro q
    rw [er 0 (by omega)] at q
    obtain ⟨m, k1, k2, k3⟩ := h7 q
    refine ⟨m, k1.congr (fun c i a b => e c i (by unfold pers; omega) (by omega)) (fun _ _ _ => rfl), by rw [er 118 (by omega)]; exact k2, k3⟩
  · rw [e 75 22 (by unfold pers perM; omega) (by omega)]; exact h8
  · exact r
  · rw [er 92 (by omega)]; exact h10
/-- what is FOR, once bought, of what it was -/
theorem ovB_eq [Inhabited YT] {s : Sto} (h : Inv s) {bo a x y : Int} (ha : 0 ≤ a ∧ a < s 75 9) (hx : 0 ≤ x ∧ x < s 75 9) (hy : 0 ≤ y ∧ y < s 75 9) : ovB s bo a x y = if x = a then ovS s x y + moS bo (fun v l => atF (fun i => s 81 (8 * (7 + v) + i)) l (s 75 9).toNat) (s 89) a y (s 75 18).toNat else if y = a then ovS s x y - moS bo (fun v l => atF (fun i => s 81 (8 * (7 + v) + i)) l (s 75 9).toNat) (s 89) a x (s 75 18).toNat else ovS s x y := by
  obtain ⟨_, _, v3, v4⟩ := h.vts
  have hV : ∀ v : Int, 0 ≤ v → v < s 75 18 → PBj (fun l => atF (fun i => s 81 (8 * (7 + v) + i)) l (s 75 9).toNat) (s 75 9) := fun v v0 v1 => (v4 v v0 v1).1.pbj
  unfold ovB ovS
  by_cases e1 : x = a
  · rw [if_pos e1, e1]
    exact (ov_put (bo := bo) (w := s 89) (f := fun v i => s 81 (8 * (7 + v) + i)) ha hV hy (s 75 18).toNat (by omega)).1
  · rw [if_neg e1]
    by_cases e2 : y = a
    · rw [if_pos e2, e2]
      exact (ov_put (bo := bo) (w := s 89) (f := fun v i => s 81 (8 * (7 + v) + i)) ha hV hx (s 75 18).toNat (by omega)).2
    · rw [if_neg e2]
      exact ov_off (bo := bo) (w := s 89) (f := fun v i => s 81 (8 * (7 + v) + i)) ha hV hx hy e1 e2 (s 75 18).toNat (by omega)
noncomputable def leastB (s : Sto) (a b rule z : Int) (k : Nat) : Int := if bst (priceB s) (aheadB s a b rule) k = -1 then z else priceB s (bst (priceB s) (aheadB s a b rule) k).toNat
theorem leastB_bd [Inhabited YT] {s : Sto} (h : Inv s) {a b rule z : Int} {k : Nat} (hz : -1 ≤ z ∧ z ≤ 0) : -1 ≤ leastB s a b rule z k ∧ leastB s a b rule z k ≤ 11988 := by
  have := priceB_bd h (bst (priceB s) (aheadB s a b rule) k).toNat
  unfold leastB
  split <;> omega
theorem shl_n [Inhabited YT] {s : Sto} (h : Inv s) : xshl 1 (s 75 18) = ((2 ^ (s 75 18).toNat : Nat) : Int) ∧ 0 < 2 ^ (s 75 18).toNat ∧ 2 ^ (s 75 18).toNat ≤ 4096 := by
  obtain ⟨_, _, v3, _⟩ := h.vts
  have p0 : 0 < (2 : Nat) ^ (s 75 18).toNat := Nat.pow_pos (by decide)
  have p2 : (2 : Nat) ^ (s 75 18).toNat ≤ 2 ^ 12 := Nat.pow_le_pow_right (by decide) (by omega)
  have := xshl_nat (n := 1) (b := (s 75 18).toNat) (by omega) (by omega)
  rw [show ((1 : Nat) : Int) = 1 from rfl, Int.toNat_of_nonneg (by omega), Nat.one_mul] at this
  exact ⟨this, p0, p2⟩
set_option maxHeartbeats 8000000 in
theorem t_X0_buyCheapest [Inhabited YT] {s : Sto} (h : Inv s) {a b rule : Int} (ha : 0 ≤ a ∧ a < s 75 9) (hb : 0 ≤ b ∧ b < s 75 9) (ab : a ≠ b) (hr : rg rule) : ClV LY 6 MX0_buyCheapest [.inr 59, .inr 3, .inl a, .inl b, .inl rule] s (fun s' => (∀ c : Nat, ¬ (59 ≤ c ∧ c ≤ 68) → s' c = s c) ∧ s' 59 9 = bst (priceB s) (aheadB s a b rule) (2 ^ (s 75 18).toNat) ∧ s' 59 10 = leastB s a b rule (-1) (2 ^ (s 75 18).toNat)) := by
  obtain ⟨v1, v2, v3, v4⟩ := h.vts
  obtain ⟨sh, n0, n1⟩ := shl_n h
  have bd := ovS_bd h
  refine ClV.intro (by decide) rfl (Nat.le_of_ble_eq_true rfl) (fun X C r => ?_)
  refine kb_X0_buyCheapest_0 C r (by omega) ?_
  rintro s1 hs1 s2 hs2
  have e2 : ∀ c : Nat, c ≠ 59 → s2 c = s c := fun c hc => by rw [hs2, up_row hc, hs1, up_row hc]
  have e9 : s2 59 9 = -1 := by rw [hs2, up_idx (by decide), hs1, up_at]
  have e10 : s2 59 10 = -1 := by rw [hs2, up_at]
  rw [e2 3 (by decide), v1.2]
  refine ⟨⟨by omega, by omega⟩, fun zn => ?_, fun zn => ?_⟩
  · -- there are VOTERS
    refine ⟨1, _, by decide, t_cnt (t := s2) h (fun c hc => e2 c (by omega)), ?_⟩
    rintro s3 ⟨c1, c2⟩
    rintro s4 hs4
    have e4 : ∀ c : Nat, c ≠ 59 → c ≠ 60 → c ≠ 68 → s4 c = s c := fun c a1 a2 a3 => by rw [hs4, cpy_row a3, c1 c a2, e2 c a1]
    have e459 : s4 59 = s2 59 := by rw [hs4, cpy_row (by decide), c1 59 (by decide)]
    have f60 : ∀ x y : Int, 0 ≤ x → x < s 75 9 → 0 ≤ y → y < s 75 9 → s4 60 (x * 8 + y) = ovS s x y := fun x y x0 x1 y0 y1 => by
      rw [hs4, cpy_row (by decide), c2 x y x0 (by omega) y0 (by omega), if_pos ⟨x1, y1⟩]
    have f68 : ∀ x y : Int, 0 ≤ x → x < s 75 9 → 0 ≤ y → y < s 75 9 → s4 68 (x * 8 + y) = ovS s x y := fun x y x0 x1 y0 y1 => by
      rw [hs4, cpy_in (by omega), show 0 + (x * 8 + y - 0) = x * 8 + y by omega, c2 x y x0 (by omega) y0 (by omega), if_pos ⟨x1, y1⟩]
    refine ⟨1, _, by decide, t_X0_notePassed (s := s4) (K := s 75 9) (n := s 75 18) (f := fun v i => s 81 (8 * (7 + v) + i)) (by rw [e4 3 (by decide) (by decide) (by decide)]; exact v1.1) (by rw [e4 3 (by decide) (by decide) (by decide)]; exact v1.2) v2 v3 ha (fun v v0 v1' => by rw [e4 14 (by decide) (by decide) (by decide)]; exact (v4 v v0 v1').1), ?_⟩
    rintro s5 ⟨p1, p2⟩
    have mo : ∀ (bo y : Int), 0 ≤ y → y < s 75 9 → sumF (fun v => xand (xshr bo v) 1 * s5 67 (v * 8 + y)) (s 75 18).toNat = moS bo (fun v l => atF (fun i => s 81 (8 * (7 + v) + i)) l (s 75 9).toNat) (s 89) a y (s 75 18).toNat := fun bo y y0 y1 => by
      unfold moS
      refine sumF_congr _ (fun v v0 v1' => ?_)
      rw [p2 v y v0 (by omega) y0 y1, e4 15 (by decide) (by decide) (by decide), (v4 v v0 (by omega)).2.1.1]
    have main : ∀ S : Sto, ((∀ c : Nat, ¬ (59 ≤ c ∧ c ≤ 68) → S c = s c) ∧ S 67 = s5 67 ∧ S 68 = s4 68 ∧ (∀ x y : Int, 0 ≤ x → x < s 75 9 → 0 ≤ y → y < s 75 9 → x ≠ a → y ≠ a → S 60 (x * 8 + y) = ovS s x y) ∧ (rule = 2 → ∀ p q : Nat, Cut (clr (2 ^ (s 75 9).toNat - 1) a.toNat) p q → S 64 (p : Int) = agA (ovS s) (s 75 9) p + agA (ovS s) (s 75 9) q + sovF (fun _ x => sovF (ovS s) q x (s 75 9).toNat) p 0 (s 75 9).toNat ∧ S 65 (p : Int) = cutO (ovS s) (s 75 9) a p q) ∧ S 59 9 = bst (priceB s) (aheadB s a b rule) (0 : Int).toNat ∧ S 59 10 = leastB s a b rule (-1) (0 : Int).toNat) → G LY X 72 [rv 59, rv 3, iv a, iv b, iv rule, iv 0, none] [] S := by
      refine downI (P := fun k => ∀ S : Sto, ((∀ c : Nat, ¬ (59 ≤ c ∧ c ≤ 68) → S c = s c) ∧ S 67 = s5 67 ∧ S 68 = s4 68 ∧ (∀ x y : Int, 0 ≤ x → x < s 75 9 → 0 ≤ y → y < s 75 9 → x ≠ a → y ≠ a → S 60 (x * 8 + y) = ovS s x y) ∧ (rule = 2 → ∀ p q : Nat, Cut (clr (2 ^ (s 75 9).toNat - 1) a.toNat) p q → S 64 (p : Int) = agA (ovS s) (s 75 9) p + agA (ovS s) (s 75 9) q + sovF (fun _ x => sovF (ovS s) q x (s 75 9).toNat) p 0 (s 75 9).toNat ∧ S 65 (p : Int) = cutO (ovS s) (s 75 9) a p q) ∧ S 59 9 = bst (priceB s) (aheadB s a b rule) k.toNat ∧ S 59 10 = leastB s a b rule (-1) k.toNat) → G LY X 72 [rv 59, rv 3, iv a, iv b, iv rule, iv k, none] [] S) (a := 0) (b := ((2 ^ (s 75 18).toNat : Nat) : Int)) (by omega) ?_ ?_
      · rintro S ⟨k1, k2, k3, k4, k5, k6, k7⟩
        refine kb_X0_buyCheapest_72 C r ?_
        rw [k1 3 (by omega), v1.2, sh]
        refine ⟨⟨by omega, by omega⟩, fun _ => ⟨k1, ?_, ?_⟩, fun z => absurd z (by omega)⟩
        · rw [k6]; rfl
        · rw [k7]; rfl
      · rintro k' k0 kn ih S ⟨k1, k2, k3, k4, k5, k6, k7⟩
        obtain ⟨k, rfl⟩ := Int.eq_ofNat_of_zero_le k0
        rw [show ((k : Nat) : Int).toNat = k by omega] at k6 k7
        rw [show ((k : Int) + 1).toNat = k + 1 by omega] at ih
        have k12 : k < 4096 := by omega
        have bb := bst_bd (priceB s) (aheadB s a b rule) k
        have lb := leastB_bd h (a := a) (b := b) (rule := rule) (z := -1) (k := k) (by decide)
        have pb := priceB_bd h k
        refine kb_X0_buyCheapest_72 C r ?_
        rw [k1 3 (by omega), v1.2, sh]
        refine ⟨⟨by omega, by omega⟩, fun z => absurd z (by omega), fun _ => ⟨0, _, by decide, t_X0_priceOf (s := S) (n := s 75 18) (by rw [k1 3 (by omega)]; exact v1.2) v3, ?_⟩⟩
        rintro pr y ⟨hy, hpr⟩
        have epr : pr = priceB s k := by
          rw [hpr, k1 16 (by omega)]
          unfold priceB
          exact sumF_congr _ (fun v v0 v1' => by rw [(v4 v v0 (by omega)).2.2.1])
        rw [hy, epr]
        refine ⟨1, _, by decide, t_X0_isCheaper (s := S) (k := k) (price := priceB s k) k12 ⟨by omega, by omega⟩ (by rw [k6]; omega) (by rw [k7]; exact ⟨by omega, by omega⟩), ?_⟩
        rintro ch y2 ⟨hy2, hch⟩
        rw [hy2]
        rw [k6, k7] at hch
        have cq : (bst (priceB s) (aheadB s a b rule) k = -1 ∨ priceB s k < leastB s a b rule (-1) k ∨ (priceB s k = leastB s a b rule (-1) k ∧ pcF k 20 < pcF (bst (priceB s) (aheadB s a b rule) k).toNat 20)) ↔ (bst (priceB s) (aheadB s a b rule) k = -1 ∨ priceB s k < priceB s (bst (priceB s) (aheadB s a b rule) k).toNat ∨ (priceB s k = priceB s (bst (priceB s) (aheadB s a b rule) k).toNat ∧ pcF k 20 < pcF (bst (priceB s) (aheadB s a b rule) k).toNat 20)) := by
          unfold leastB
          by_cases w : bst (priceB s) (aheadB s a b rule) k = -1
          · rw [if_pos w]
            exact ⟨fun _ => Or.inl w, fun _ => Or.inl w⟩
          · rw [if_neg w]
        have cb := oneIf_bd (bst (priceB s) (aheadB s a b rule) k = -1 ∨ priceB s k < leastB s a b rule (-1) k ∨ (priceB s k = leastB s a b rule (-1) k ∧ pcF k 20 < pcF (bst (priceB s) (aheadB s a b rule) k).toNat 20))
        -- the set is left
        have stay : ∀ U : Sto, (∀ c : Nat, c ≠ 60 → c ≠ 66 → U c = S c) → (∀ x y : Int, 0 ≤ x → x < s 75 9 → 0 ≤ y → y < s 75 9 → x ≠ a → y ≠ a → U 60 (x * 8 + y) = ovS s x y) → ¬ ((bst (priceB s) (aheadB s a b rule) k = -1 ∨ priceB s k < priceB s (bst (priceB s) (aheadB s a b rule) k).toNat ∨ (priceB s k = priceB s (bst (priceB s) (aheadB s a b rule) k).toNat ∧ pcF k 20 < pcF (bst (priceB s) (aheadB s a b rule) k).toNat 20)) ∧ aheadB s a b rule k) → G LY X 72 [rv 59, rv 3, iv a, iv b, iv rule, iv ((k : Int) + 1), none] [] U := fun U u1 u2 nc => by
          have eb := bst_f nc
          refine ih U ⟨fun c hc => by rw [u1 c (by omega) (by omega), k1 c hc], by rw [u1 67 (by decide) (by decide), k2], by rw [u1 68 (by decide) (by decide), k3], u2, fun z => by rw [u1 64 (by decide) (by decide), u1 65 (by decide) (by decide)]; exact k5 z, ?_, ?_⟩
          · rw [u1 59 (by decide) (by decide), k6, eb]
          · rw [u1 59 (by decide) (by decide), k7]
            unfold leastB
            rw [eb]
        -- the set is taken
        have take : ∀ U V W : Sto, (∀ c : Nat, c ≠ 60 → c ≠ 66 → U c = S c) → (∀ x y : Int, 0 ≤ x → x < s 75 9 → 0 ≤ y → y < s 75 9 → x ≠ a → y ≠ a → U 60 (x * 8 + y) = ovS s x y) → V = up U 59 9 (k : Int) → W = up V 59 10 (priceB s k) → ((bst (priceB s) (aheadB s a b rule) k = -1 ∨ priceB s k < priceB s (bst (priceB s) (aheadB s a b rule) k).toNat ∨ (priceB s k = priceB s (bst (priceB s) (aheadB s a b rule) k).toNat ∧ pcF k 20 < pcF (bst (priceB s) (aheadB s a b rule) k).toNat 20)) ∧ aheadB s a b rule k) → G LY X 72 [rv 59, rv 3, iv a, iv b, iv rule, iv ((k : Int) + 1), none] [] W := fun U V W u1 u2 hV hW c => by
          have eb := bst_t c
          have w1 : ∀ c : Nat, c ≠ 59 → W c = U c := fun c hc => by rw [hW, up_row hc, hV, up_row hc]
          refine ih W ⟨fun c hc => by rw [w1 c (by omega), u1 c (by omega) (by omega), k1 c hc], by rw [w1 67 (by decide), u1 67 (by decide) (by decide), k2], by rw [w1 68 (by decide), u1 68 (by decide) (by decide), k3], by rw [w1 60 (by decide)]; exact u2, fun z => by rw [w1 64 (by decide), w1 65 (by decide), u1 64 (by decide) (by decide), u1 65 (by decide) (by decide)]; exact k5 z, ?_, ?_⟩
          · rw [hW, up_idx (by decide), hV, up_at, eb]
          · rw [hW, up_at]
            unfold leastB
            rw [eb, if_neg (by omega), show ((k : Nat) : Int).toNat = k by omega]
        refine ⟨by rw [hch]; exact ⟨by omega, by omega⟩, fun z => stay S (fun _ _ _ => rfl) k4 (fun w => ?_), fun z => ?_⟩
        · rw [hch] at z
          exact oneIf_0.mp z (cq.mpr w.1)
        have cheap : bst (priceB s) (aheadB s a b rule) k = -1 ∨ priceB s k < priceB s (bst (priceB s) (aheadB s a b rule) k).toNat ∨ (priceB s k = priceB s (bst (priceB s) (aheadB s a b rule) k).toNat ∧ pcF k 20 < pcF (bst (priceB s) (aheadB s a b rule) k).toNat 20) := cq.mp (oneIf_1.mp (by rw [← hch]; omega))
        refine ⟨0, _, by decide, t_X0_sway (s := S) (K := s 75 9) (n := s 75 18) (a := a) (bo := (k : Int)) (ov := ovS s) (mo := fun y => moS (k : Int) (fun v l => atF (fun i => s 81 (8 * (7 + v) + i)) l (s 75 9).toNat) (s 89) a y (s 75 18).toNat) (by rw [k1 3 (by omega)]; exact v1.1) (by rw [k1 3 (by omega)]; exact v1.2) v2 v3 ha (by rw [k3]; exact f68) (fun y y0 y1 => by rw [k2]; exact mo (k : Int) y y0 y1) (moS_a _ _ _ _ _) k4, ?_⟩
        rintro U ⟨u1, u2⟩
        have u2' : ∀ x y : Int, 0 ≤ x → x < s 75 9 → 0 ≤ y → y < s 75 9 → U 60 (x * 8 + y) = ovB s (k : Int) a x y := fun x y x0 x1 y0 y1 => by
          rw [ovB_eq h ha ⟨x0, x1⟩ ⟨y0, y1⟩]
          exact u2 x y x0 x1 y0 y1
        have off : ∀ x y : Int, 0 ≤ x → x < s 75 9 → 0 ≤ y → y < s 75 9 → x ≠ a → y ≠ a → ovB s (k : Int) a x y = ovS s x y := fun x y x0 x1 y0 y1 xa ya => by
          rw [ovB_eq h ha ⟨x0, x1⟩ ⟨y0, y1⟩, if_neg xa, if_neg ya]
        have u60 : ∀ x y : Int, 0 ≤ x → x < s 75 9 → 0 ≤ y → y < s 75 9 → x ≠ a → y ≠ a → U 60 (x * 8 + y) = ovS s x y := fun x y x0 x1 y0 y1 xa ya => by
          rw [u2' x y x0 x1 y0 y1, off x y x0 x1 y0 y1 xa ya]
        have ovr : OVR U (s 75 9) (ovB s (k : Int) a) := fun x y x0 x1 y0 y1 => ⟨u2' x y x0 x1 y0 y1, ovB_bd h (k : Int) a x y⟩
        have U3 : U 3 0 = s 75 9 := by rw [u1 3 (by decide), k1 3 (by omega)]; exact v1.1
        rw [U3]
        refine ⟨hr, fun z2 => ⟨3, _, by decide, t_X0_isAheadByMerit v2 hr ha hb ovr, ?_⟩, fun z2 => ⟨2, _, by decide, t_X0_isAheadByNearest (ov := ovS s) (ov2 := ovB s (k : Int) a) v2 ha hb ab (fun x y _ _ _ _ => bd x y) ovr off (by rw [u1 64 (by decide), u1 65 (by decide)]; exact k5 z2), ?_⟩⟩
        · rintro q y3 ⟨hy3, hq⟩
          have iff : aheadB s a b rule k ↔ amR (mrF (ovB s (k : Int) a) (s 75 9) rule) a b := by
            have ef : voB s (k : Int) a rule = omF (mrF (ovB s (k : Int) a) (s 75 9) rule) (s 75 9) := by
              funext i
              unfold voB voF
              rw [if_neg zn, if_neg z2]
            unfold aheadB
            rw [ef]
            exact om_ahead v2 ha hb ab
          have qb := oneIf_bd (amR (mrF (ovB s (k : Int) a) (s 75 9) rule) a b)
          rw [hy3]
          refine ⟨by rw [hq]; exact ⟨by omega, by omega⟩, fun w => stay U (fun c d1 _ => u1 c d1) u60 (fun w2 => ?_), fun w => ?_⟩
          · rw [hq] at w
            exact oneIf_0.mp w (iff.mp w2.2)
          · rintro V hV W hW
            exact take U V W (fun c d1 _ => u1 c d1) u60 hV hW ⟨cheap, iff.mpr (oneIf_1.mp (by rw [← hq]; omega))⟩
        · rintro q y3 ⟨hy3, hq⟩
          have iff : aheadB s a b rule k ↔ atF (rwA (ovB s (k : Int) a) (s 75 9) (2 ^ (s 75 9).toNat - 1)) a (s 75 9).toNat < atF (rwA (ovB s (k : Int) a) (s 75 9) (2 ^ (s 75 9).toNat - 1)) b (s 75 9).toNat := by
            have ef : voB s (k : Int) a rule = rwA (ovB s (k : Int) a) (s 75 9) (2 ^ (s 75 9).toNat - 1) := by
              funext i
              unfold voB voF
              rw [if_neg zn, if_pos z2]
            unfold aheadB
            rw [ef]
          have qb := oneIf_bd (atF (rwA (ovB s (k : Int) a) (s 75 9) (2 ^ (s 75 9).toNat - 1)) a (s 75 9).toNat < atF (rwA (ovB s (k : Int) a) (s 75 9) (2 ^ (s 75 9).toNat - 1)) b (s 75 9).toNat)
          have y60 : ∀ x y : Int, 0 ≤ x → x < s 75 9 → 0 ≤ y → y < s 75 9 → x ≠ a → y ≠ a → y3 60 (x * 8 + y) = ovS s x y := by rw [hy3 60 (by decide)]; exact u60
          have yS : ∀ c : Nat, c ≠ 60 → c ≠ 66 → y3 c = S c := fun c d1 d2 => by rw [hy3 c d2, u1 c d1]
          refine ⟨by rw [hq]; exact ⟨by omega, by omega⟩, fun w => stay y3 yS y60 (fun w2 => ?_), fun w => ?_⟩
          · rw [hq] at w
            exact oneIf_0.mp w (iff.mp w2.2)
          · rintro V hV W hW
            exact take y3 V W yS y60 hV hW ⟨cheap, iff.mpr (oneIf_1.mp (by rw [← hq]; omega))⟩
    have e5 : ∀ c : Nat, ¬ (59 ≤ c ∧ c ≤ 68) → s5 c = s c := fun c hc => by rw [p1 c (by omega), e4 c (by omega) (by omega) (by omega)]
    have i9 : s5 59 9 = -1 := by rw [p1 59 (by decide), e459, e9]
    have i10 : s5 59 10 = -1 := by rw [p1 59 (by decide), e459, e10]
    have b0 : bst (priceB s) (aheadB s a b rule) (0 : Int).toNat = -1 := rfl
    have l0 : leastB s a b rule (-1) (0 : Int).toNat = -1 := by unfold leastB; exact if_pos b0
    have ovr5 : OVR s5 (s 75 9) (ovS s) := fun x y x0 x1 y0 y1 => ⟨by rw [p1 60 (by decide)]; exact f60 x y x0 x1 y0 y1, bd x y⟩
    refine ⟨hr, fun z2 => main s5 ⟨e5, rfl, p1 68 (by decide), fun x y x0 x1 y0 y1 _ _ => (ovr5 x y x0 x1 y0 y1).1, fun z => absurd z z2, by rw [i9, b0], by rw [i10, l0]⟩, fun z2 => ?_⟩
    have s53 : s5 3 0 = s 75 9 := by rw [e5 3 (by omega)]; exact v1.1
    rw [s53]
    refine ⟨3, _, by decide, t_X0_splitAround v2 ha ovr5, ?_⟩
    rintro s6 ⟨g1, g2⟩
    exact main s6 ⟨fun c hc => by rw [g1 c (by omega), e5 c hc], g1 67 (by omega), by rw [g1 68 (by omega), p1 68 (by decide)], fun x y x0 x1 y0 y1 _ _ => by rw [g1 60 (by omega)]; exact (ovr5 x y x0 x1 y0 y1).1, fun _ => g2, by rw [g1 59 (by omega), i9, b0], by rw [g1 59 (by omega), i10, l0]⟩
  · -- nobody votes
    obtain ⟨b3, _, _⟩ := landB h
    rw [v1.1] at b3
    have ra : rg a := ⟨by omega, by omega⟩
    have rb : rg b := ⟨by omega, by omega⟩
    have PA := b3.at' ha.1 ha.2
    have PB := b3.at' hb.1 hb.2
    have pl : ∀ {l x : Int}, 0 ≤ x → x ≤ s 75 9 → (∀ j : Int, 0 ≤ j → j < x → begS s 81 j ≠ l) → (x < s 75 9 → begS s 81 x = l) → (0 ≤ l ∧ l < s 75 9) → x = atF (begS s 81) l (s 75 9).toNat := fun {l x} x0 x1 x2 x3 hl => by
      have P := b3.at' hl.1 hl.2
      have g : ¬ atF (begS s 81) l (s 75 9).toNat < x := fun z => x2 _ P.1.1 z P.2
      have e := b3.at_ (i := x) x0 (by omega)
      rw [x3 (by omega)] at e
      exact e.symm
    have iff : aheadB s a b rule 0 ↔ atF (begS s 81) a (s 75 9).toNat < atF (begS s 81) b (s 75 9).toNat := by
      have ef : voB s ((0 : Nat) : Int) a rule = begS s 81 := by
        funext i
        unfold voB
        rw [if_pos zn]
      unfold aheadB
      rw [ef]
    have N1 : (2 : Nat) ^ (s 75 18).toNat = 0 + 1 := by rw [zn]; rfl
    have p0 : priceB s 0 = 0 := by unfold priceB; rw [zn]; rfl
    refine ⟨1, (fun s' => (∀ c : Nat, ¬ (59 ≤ c ∧ c ≤ 68) → s' c = s c) ∧ s' 59 9 = bst (priceB s) (aheadB s a b rule) (2 ^ (s 75 18).toNat) ∧ s' 59 10 = leastB s a b rule (-1) (2 ^ (s 75 18).toNat)), by decide, ?_, fun _ q => q⟩
    refine ClV.intro (by decide) rfl (Nat.le_of_ble_eq_true rfl) (fun X C r => ?_)
    refine kb_X0_buyWithoutVoters_0 C r ?_
    rw [e2 3 (by decide), v1.1]
    refine ⟨0, _, by decide, t_X5_orderPlace b3 ra, ?_⟩
    rintro x y ⟨hy, x0, x1, x2, x3⟩
    have ex := pl x0 x1 x2 x3 ha
    rw [hy, e2 3 (by decide), v1.1]
    refine ⟨0, _, by decide, t_X5_orderPlace b3 rb, ?_⟩
    rintro x' y' ⟨hy', x0', x1', x2', x3'⟩
    have ex' := pl x0' x1' x2' x3' hb
    rw [hy', N1]
    refine ⟨⟨⟨by omega, by omega⟩, ⟨by omega, by omega⟩⟩, fun z => ?_, fun z => ?_⟩
    · have eb : bst (priceB s) (aheadB s a b rule) (0 + 1) = -1 := bst_f (fun w => by have := iff.mp w.2; omega)
      refine ⟨fun c hc => e2 c (by omega), by rw [e9, eb], ?_⟩
      unfold leastB
      rw [if_pos eb, e10]
    · have eb : bst (priceB s) (aheadB s a b rule) (0 + 1) = ((0 : Nat) : Int) := bst_t ⟨Or.inl rfl, iff.mpr (by omega)⟩
      rintro V hV W hW
      refine ⟨fun c hc => by rw [hW, up_row (by omega), hV, up_row (by omega), e2 c (by omega)], ?_, ?_⟩
      · rw [hW, up_idx (by decide), hV, up_at, eb]; rfl
      · unfold leastB
        rw [if_neg (by rw [eb]; decide), eb, hW, up_at]
        exact p0.symm
