/-! OPERATION: wed -/
theorem t_X11_betterOnes {u : Sto} {sx W : Int → Int} {n p : Int} (hn : u 5 0 = n) (n20 : 0 ≤ n ∧ n ≤ 20) (hp : 0 ≤ p ∧ p < n) (hs : ∀ x : Int, 0 ≤ x → x < n → u 7 x = sx x ∧ (sx x = 0 ∨ sx x = 1)) (hW : ∀ x : Int, 0 ≤ x → x < n → -594 ≤ W x ∧ W x ≤ 594) (hC : ∀ x : Int, 0 ≤ x → x < n → ClI LY 0 MX7_worthOf [.inr 46, .inl x] u (fun r s' => s' = u ∧ r = W x)) : ClI LY 1 MX11_betterOnes [.inr 0, .inl p] u (fun r s' => s' = u ∧ r = rkS sx W n p) := by
  refine ClI.intro (by decide) rfl (Nat.le_of_ble_eq_true rfl) (fun X C r => ?_)
  have rn : rg n := ⟨by omega, by omega⟩
  refine kb_X11_betterOnes_0 C r ⟨0, _, by decide, hC p hp.1 hp.2, ?_⟩
  rintro wp y ⟨hy, hwp⟩
  rw [hy, hwp]
  have w1 := hW p hp.1 hp.2
  have key : G LY X 14 [rv 0, iv p, iv (W p), iv (cntI (fun q => sx q = sx p ∧ amR W q p) (0 : Int).toNat), iv 0, none] [] u := by
    refine downI (P := fun o => G LY X 14 [rv 0, iv p, iv (W p), iv (cntI (fun q => sx q = sx p ∧ amR W q p) o.toNat), iv o, none] [] u) (a := 0) (b := n) n20.1 ?_ ?_
    · refine kb_X11_betterOnes_14 C r ?_
      rw [hn]
      exact ⟨⟨rn, rn⟩, fun _ => ⟨rfl, rfl⟩, fun z => absurd z (by omega)⟩
    · intro o o0 o1 ih
      rw [cntI_s _ o0] at ih
      have w2 := hW o o0 o1
      have so := hs o o0 o1
      have sp := hs p hp.1 hp.2
      have no : ¬ (sx o = sx p ∧ amR W o p) → G LY X 14 [rv 0, iv p, iv (W p), iv (cntI (fun q => sx q = sx p ∧ amR W q p) o.toNat), iv (o + 1), none] [] u := fun h => by
        rw [oneIf_f h, Int.add_zero] at ih
        exact ih
      have yes : (sx o = sx p ∧ amR W o p) → G LY X 14 [rv 0, iv p, iv (W p), iv (cntI (fun q => sx q = sx p ∧ amR W q p) o.toNat + 1), iv (o + 1), none] [] u := fun h => by
        rw [oneIf_t h] at ih
        exact ih
      refine kb_X11_betterOnes_14 C r ?_
      rw [hn]
      refine ⟨⟨⟨by omega, by omega⟩, rn⟩, fun z => absurd z (by omega), fun _ => ⟨0, _, by decide, hC o o0 o1, ?_⟩⟩
      rintro wo y' ⟨hy', hwo⟩
      rw [hy', hwo, so.1, sp.1]
      refine ⟨⟨by omega, by omega⟩, ⟨by omega, by omega⟩, ⟨⟨by omega, by omega⟩, ⟨by omega, by omega⟩⟩, fun z => no (fun g => z g.1), fun z => ⟨⟨⟨by omega, by omega⟩, ⟨by omega, by omega⟩⟩, fun z2 => yes ⟨z, amR_iff.mpr (Or.inl z2)⟩, fun z2 => ⟨⟨⟨by omega, by omega⟩, ⟨by omega, by omega⟩⟩, fun z3 => no (fun g => by have := amR_iff.mp g.2; omega), fun z3 => ⟨⟨⟨by omega, by omega⟩, ⟨by omega, by omega⟩⟩, fun z4 => no (fun g => by have := amR_iff.mp g.2; omega), fun z4 => yes ⟨z, amR_iff.mpr (Or.inr ⟨z3, z4⟩)⟩⟩⟩⟩⟩
  exact key
theorem t_X11_partnerOf {u : Sto} {sx W : Int → Int} {n p : Int} (hn : u 5 0 = n) (n20 : 0 ≤ n ∧ n ≤ 20) (hp : 0 ≤ p ∧ p < n) (hs : ∀ x : Int, 0 ≤ x → x < n → u 7 x = sx x ∧ (sx x = 0 ∨ sx x = 1)) (hW : ∀ x : Int, 0 ≤ x → x < n → -594 ≤ W x ∧ W x ≤ 594) (hC : ∀ x : Int, 0 ≤ x → x < n → ClI LY 0 MX7_worthOf [.inr 46, .inl x] u (fun r s' => s' = u ∧ r = W x)) : ClI LY 2 MX11_partnerOf [.inr 0, .inl p] u (fun r s' => s' = u ∧ PT sx W n p r) := by
  refine ClI.intro (by decide) rfl (Nat.le_of_ble_eq_true rfl) (fun X C r => ?_)
  have rn : rg n := ⟨by omega, by omega⟩
  have sp := hs p hp.1 hp.2
  have rp := rkS_bd sx W hp
  refine kb_X11_partnerOf_0 C r ⟨1, _, by decide, t_X11_betterOnes hn n20 hp hs hW hC, ?_⟩
  rintro k y ⟨hy, hk⟩
  rw [hy, hk]
  refine downI (P := fun q => (∀ x : Int, 0 ≤ x → x < q → sx x ≠ sx p → rkS sx W n x ≠ rkS sx W n p) → G LY X 8 [rv 0, iv p, iv (rkS sx W n p), iv q] [] u) (a := 0) (b := n) n20.1 ?_ ?_ (fun x x0 x1 => absurd x1 (by omega))
  · intro H
    refine kb_X11_partnerOf_8 C r ?_
    rw [hn]
    exact ⟨⟨rn, rn⟩, fun _ => ⟨rfl, Or.inl ⟨rfl, H⟩⟩, fun z => absurd z (by omega)⟩
  · intro q q0 q1 ih H
    have sq := hs q q0 q1
    have rq := rkS_bd sx W (n := n) (p := q) ⟨q0, q1⟩
    have nx : (sx q ≠ sx p → rkS sx W n q ≠ rkS sx W n p) → G LY X 8 [rv 0, iv p, iv (rkS sx W n p), iv (q + 1)] [] u := fun g => ih (fun x x0 x1 xs => by
      by_cases e : x = q
      · rw [e] at xs ⊢; exact g xs
      · exact H x x0 (by omega) xs)
    refine kb_X11_partnerOf_8 C r ?_
    rw [hn, sq.1, sp.1]
    refine ⟨⟨⟨by omega, by omega⟩, rn⟩, fun z => absurd z (by omega), fun _ => ⟨⟨by omega, by omega⟩, ⟨by omega, by omega⟩, ⟨⟨by omega, by omega⟩, ⟨by omega, by omega⟩⟩, fun z => nx (fun g => absurd z g), fun z => ⟨1, _, by decide, t_X11_betterOnes hn n20 ⟨q0, q1⟩ hs hW hC, ?_⟩⟩⟩
    rintro k' y' ⟨hy', hk'⟩
    rw [hy', hk']
    exact ⟨⟨⟨by omega, by omega⟩, ⟨by omega, by omega⟩⟩, fun z2 => nx (fun _ => z2), fun z2 => ⟨rfl, Or.inr ⟨⟨q0, q1⟩, z, z2⟩⟩⟩
/-- what wed() tells of p, who weds q -/
def wedV (sx W : Int → Int) (p i q : Int) : Int := if i = 0 then q else if q = -1 then (if i = 1 then -1 else 0) else if i = 1 then (if sx p = 0 then (if W p < W q then q else p) else (if W q < W p then p else q)) else if W p < W q then W q - W p else W p - W q
theorem wedV_rg {sx W : Int → Int} {n p i q : Int} (n20 : n ≤ 20) (hp : 0 ≤ p ∧ p < n) (hW : ∀ x : Int, 0 ≤ x → x < n → -594 ≤ W x ∧ W x ≤ 594) (h : PT sx W n p q) : rg (wedV sx W p i q) := by
  have hq : q = -1 ∨ (0 ≤ q ∧ q < n) := by
    rcases h with h | h
    · exact Or.inl h.1
    · exact Or.inr h.1
  have w1 := hW p hp.1 hp.2
  unfold wedV
  split
  · exact ⟨by omega, by omega⟩
  · split
    · split <;> exact ⟨by omega, by omega⟩
    · have w2 := hW q (by omega) (by omega)
      split
      · split
        · split <;> exact ⟨by omega, by omega⟩
        · split <;> exact ⟨by omega, by omega⟩
      · split <;> exact ⟨by omega, by omega⟩
set_option maxHeartbeats 4000000 in
theorem t_X11_wed [Inhabited YT] {s : Sto} (h : Inv s) {p i : Int} (hp : rg p) (hi : rg i) : ClI LY 3 MX11_wed [.inr 0, .inl p, .inl i] s (fun r s' => (∀ c : Nat, ¬ (47 ≤ c ∧ c ≤ 51) → s' c = s c) ∧ ((¬ ((0 ≤ p ∧ p < s 75 4) ∧ 0 ≤ i ∧ i ≤ 2) ∧ r = -1000000) ∨ (((0 ≤ p ∧ p < s 75 4) ∧ 0 ≤ i ∧ i ≤ 2) ∧ ∃ q : Int, PT (s 78) (wvF s (fun k => begS s 81 (8 * 0 + k))) (s 75 4) p q ∧ r = wedV (s 78) (wvF s (fun k => begS s 81 (8 * 0 + k))) p i q))) := by
  obtain ⟨a1, a2, a3, a4, a5, a6, a7, a8, a9, a10, a11, a12, a13, a14, a15⟩ := h.2.1
  have e6 : s 5 0 = s 75 4 := a6.1
  have b6 : 0 ≤ s 5 0 ∧ s 5 0 ≤ 20 := a6.2
  have lr := h.lr
  generalize hod : (fun k => begS s 81 (8 * 0 + k)) = od at lr ⊢
  refine ClI.intro (by decide) rfl (Nat.le_of_ble_eq_true rfl) (fun X C r => ?_)
  have nil : ∀ c : Nat, ¬ (47 ≤ c ∧ c ≤ 51) → s c = s c := fun _ _ => rfl
  refine kb_X11_wed_0 C r (by omega) ⟨0, _, by decide, t_X6_has hp ⟨by omega, by omega⟩, ?_⟩
  rintro q t ⟨ht, q1, q2⟩
  rw [ht]
  refine ⟨⟨by omega, by omega⟩, fun z => ⟨nil, Or.inl ⟨by omega, rfl⟩⟩, fun z => ⟨hi, fun z2 => ⟨nil, Or.inl ⟨by omega, rfl⟩⟩, fun z2 => ⟨hi, fun z3 => ⟨2, _, by decide, t_payL lr, ?_⟩, fun z3 => ⟨nil, Or.inl ⟨by omega, rfl⟩⟩⟩⟩⟩
  have hpp : 0 ≤ p ∧ p < s 75 4 := by omega
  have cond : (0 ≤ p ∧ p < s 75 4) ∧ 0 ≤ i ∧ i ≤ 2 := by omega
  rintro v ⟨v1, v2⟩
  have lrv : LR v s od := lr.congr (fun c c1 c2 => v1 c (by omega))
  refine ⟨2, _, by decide, t_lineL (o := v 3 2) (oq := od) lrv (by rw [v1 5 (by decide), v1 6 (by decide)]; exact h.namesR) lrv.2.1, ?_⟩
  rintro w ⟨w1, pl, w2, w3, w4, w5, w6⟩
  have w7 : ∀ x : Int, 0 ≤ x → x < s 75 4 → w 51 x = psm (s 83) (s 84) (s 85) (s 86) (s 75 4) x 6 := fun x x0 x1 => by rw [w1 51 (by decide) (by decide) (by decide) (by decide), v2 x x0 x1]
  have ew : ∀ c : Nat, ¬ (47 ≤ c ∧ c ≤ 51) → w c = s c := fun c hc => by rw [w1 c (by omega) (by omega) (by omega) (by omega), v1 c (by omega)]
  have hC : ∀ x : Int, 0 ≤ x → x < s 75 4 → ClI LY 0 MX7_worthOf [.inr 46, .inl x] w (fun r s' => s' = w ∧ r = wvF s od x) := fun x x0 x1 => t_wof lrv.nms lrv.2.1 w2 w5 w6 w7 ⟨x0, x1⟩
  have hW : ∀ x : Int, 0 ≤ x → x < s 75 4 → -594 ≤ wvF s od x ∧ wvF s od x ≤ 594 := fun x x0 x1 => lr.wvb ⟨x0, x1⟩
  have hs : ∀ x : Int, 0 ≤ x → x < s 75 4 → w 7 x = s 78 x ∧ (s 78 x = 0 ∨ s 78 x = 1) := fun x x0 x1 => by
    have g := (a8 x x0 (by show x < s 5 0; omega)).1
    have g' : s 7 x = s 78 x ∧ (s 7 x = 0 ∨ s 7 x = 1) := g
    rw [ew 7 (by decide)]
    omega
  generalize wvF s od = W at *
  refine ⟨2, _, by decide, t_X11_partnerOf (sx := s 78) (W := W) (n := s 75 4) (by rw [ew 5 (by decide)]; exact e6) (by omega) hpp hs hW hC, ?_⟩
  rintro o y ⟨hy, ho⟩
  rw [hy]
  have ob : o = -1 ∨ (0 ≤ o ∧ o < s 75 4) := by
    rcases ho with g | g
    · exact Or.inl g.1
    · exact Or.inr g.1
  have sp := hs p hpp.1 hpp.2
  have wp := hW p hpp.1 hpp.2
  have done : ∀ x : Int, x = wedV (s 78) W p i o → (∀ c : Nat, ¬ (47 ≤ c ∧ c ≤ 51) → w c = s c) ∧ ((¬ ((0 ≤ p ∧ p < s 75 4) ∧ 0 ≤ i ∧ i ≤ 2) ∧ x = -1000000) ∨ (((0 ≤ p ∧ p < s 75 4) ∧ 0 ≤ i ∧ i ≤ 2) ∧ ∃ q : Int, PT (s 78) W (s 75 4) p q ∧ x = wedV (s 78) W p i q)) := fun x hx => ⟨ew, Or.inr ⟨cond, o, ho, hx⟩⟩
  refine ⟨hi, fun z4 => ⟨⟨by omega, by omega⟩, fun z5 => ⟨⟨by omega, by omega⟩, ?_⟩, fun z5 => ⟨hi, fun z6 => done _ (by unfold wedV; rw [if_neg z4, if_pos z5, if_neg z6]), fun z6 => done _ (by unfold wedV; rw [if_neg z4, if_pos z5, if_pos z6])⟩⟩, fun z4 => done _ (by unfold wedV; rw [if_pos z4])⟩
  have ob' : 0 ≤ o ∧ o < s 75 4 := by omega
  have wo := hW o ob'.1 ob'.2
  have op : o ≠ p := fun e => by
    rcases ho with g | g
    · omega
    · exact g.2.1 (by rw [e])
  have cp := hC p hpp.1 hpp.2
  have co := hC o ob'.1 ob'.2
  rw [sp.1]
  refine ⟨⟨by omega, by omega⟩, fun z6 => ⟨⟨⟨by omega, by omega⟩, ⟨by omega, by omega⟩⟩, fun _ => ⟨0, _, by decide, co, ?_⟩, fun e => absurd e op⟩, fun z6 => ⟨⟨⟨by omega, by omega⟩, ⟨by omega, by omega⟩⟩, fun e => absurd rfl e, fun _ => ⟨0, _, by decide, cp, ?_⟩⟩⟩
  · rintro x1 y1 ⟨hy1, hx1⟩
    rw [hy1]
    refine ⟨0, _, by decide, cp, ?_⟩
    rintro x2 y2 ⟨hy2, hx2⟩
    rw [hy2, hx1, hx2]
    refine ⟨hi, fun z7 => ⟨⟨by omega, by omega⟩, done _ ?_⟩, fun z7 => ⟨⟨by omega, by omega⟩, fun z8 => done _ ?_, fun z8 => done _ ?_⟩⟩
    · unfold wedV xabs
      rw [if_neg z4, if_neg z5, if_neg z7]
      by_cases g : W p < W o
      · rw [if_pos g, if_pos (by omega)]
      · rw [if_neg g]
        by_cases g2 : 0 ≤ W o - W p
        · rw [if_pos g2]; omega
        · rw [if_neg g2]; omega
    · unfold wedV
      rw [if_neg z4, if_neg z5, if_pos z7, if_neg z6, if_pos (by omega)]
    · unfold wedV
      rw [if_neg z4, if_neg z5, if_pos z7, if_neg z6, if_neg (by omega)]
  · rintro x1 y1 ⟨hy1, hx1⟩
    rw [hy1]
    refine ⟨0, _, by decide, co, ?_⟩
    rintro x2 y2 ⟨hy2, hx2⟩
    rw [hy2, hx1, hx2]
    refine ⟨hi, fun z7 => ⟨⟨by omega, by omega⟩, done _ ?_⟩, fun z7 => ⟨⟨by omega, by omega⟩, fun z8 => done _ ?_, fun z8 => done _ ?_⟩⟩
    · unfold wedV xabs
      rw [if_neg z4, if_neg z5, if_neg z7]
      by_cases g : W p < W o
      · rw [if_pos g, if_neg (by omega)]; omega
      · rw [if_neg g, if_pos (by omega)]
    · unfold wedV
      rw [if_neg z4, if_neg z5, if_pos z7, if_pos z6, if_pos (by omega)]
    · unfold wedV
      rw [if_neg z4, if_neg z5, if_pos z7, if_pos z6, if_neg (by omega)]
set_option maxHeartbeats 4000000 in
theorem op_wed [Inhabited YT] {s : Sto} (h : Inv s) {p i : Int} (hp : rg p) (hi : rg i) : OpI MX11_wed MX12_wed [.inl p, .inl i] s := by
  obtain ⟨a1, a2, a3, a4, a5, a6, a7, a8, a9, a10, a11, a12, a13, a14, a15⟩ := h.2.1
  have lr := h.lr
  have n1 := h.nms.1
  have e5 : s 5 0 = s 75 4 := a6.1
  have hs : ∀ x : Int, 0 ≤ x → x < s 75 4 → s 78 x = 0 ∨ s 78 x = 1 := fun x x0 x1 => by
    have g' : s 7 x = s 78 x ∧ (s 7 x = 0 ∨ s 7 x = 1) := (a8 x x0 (by show x < s 5 0; omega)).1
    omega
  have hW : ∀ x : Int, 0 ≤ x → x < s 75 4 → -594 ≤ wvF s (fun k => begS s 81 (8 * 0 + k)) x ∧ wvF s (fun k => begS s 81 (8 * 0 + k)) x ≤ 594 := fun x x0 x1 => lr.wvb ⟨x0, x1⟩
  refine ⟨3, 6, _, by decide, by decide, t_X11_wed h hp hi, ?_⟩
  rintro r1 s1 ⟨g1, g2⟩
  have iz : Inv (up s1 75 0 0) := (h.scr (fun c j hc => by rw [g1 c (by unfold pers perM at hc; omega)])).told 0
  have ez : ∀ c : Nat, c ≠ 75 → ¬ (47 ≤ c ∧ c ≤ 51) → up s1 75 0 0 c = s c := fun c c2 c3 => by rw [up_row c2, g1 c c3]
  have z75 : ∀ j : Int, j ≠ 0 → up s1 75 0 0 75 j = s 75 j := fun j hj => by rw [up_idx hj, g1 75 (by decide)]
  have hr1 : rg r1 := by
    rcases g2 with g | ⟨gc, q, g3, g4⟩
    · rw [g.2]; decide
    · rw [g4]; exact wedV_rg n1.2 gc.1 hW g3
  have no : ¬ ((0 ≤ p ∧ p < s 75 4) ∧ 0 ≤ i ∧ i ≤ 2) → -1000000 = r1 := fun q => by
    rcases g2 with g | g
    · exact g.2.symm
    · exact absurd g.1 q
  refine ⟨hr1, ?_⟩
  generalize hz : up s1 75 0 0 = z at *
  have sT : samN s z := ⟨fun c c1 c2 c3 c4 c5 => ez c (by omega) (by omega), z75 _ (by decide), z75 _ (by decide), z75 _ (by decide)⟩
  have e81 : begS z 81 = begS s 81 := begS_81 (z75 _ (by decide)) (ez 81 (by decide) (by decide))
  have lm : LM s z (fun k => begS s 81 (8 * 0 + k)) := ⟨lr.sam sT, ⟨by rw [z75 _ (by decide)]; exact h.2.2.2.2.1, fun i => by rw [e81]⟩, fun c c1 c2 => ez c (by omega) (by omega)⟩
  generalize (fun k => begS s 81 (8 * 0 + k)) = od at *
  have e78 : z 78 = s 78 := ez 78 (by decide) (by decide)
  refine ClI.intro (by decide) rfl (Nat.le_of_ble_eq_true rfl) (fun X C r => ?_)
  refine kb_X12_wed_0 C r ?_
  rintro z' hz'
  rw [hz] at hz'
  rw [hz']
  refine ⟨0, _, by decide, t_X12_isOne hp (by rw [z75 4 (by decide)]; exact ⟨by omega, by omega⟩), ?_⟩
  rw [z75 4 (by decide)]
  rintro q t ⟨ht, q1, q2⟩
  rw [ht]
  refine ⟨⟨by omega, by omega⟩, fun q3 => kb_X12_wed_23 C r ⟨no (by omega), iz⟩, fun q3 => ⟨0, _, by decide, t_X12_isIn hi (by decide) (by decide), ?_⟩⟩
  rintro q' t' ⟨ht', q1', q2'⟩
  rw [ht']
  refine ⟨⟨by omega, by omega⟩, fun k2 => ⟨5, _, by decide, t_wedM lm (n := s 75 4) (z75 4 (by decide)) (by rw [e78]; exact hs), ?_⟩, fun k2 => kb_X12_wed_23 C r ⟨no (by omega), iz⟩⟩
  rintro x ⟨x1, x2, x3⟩
  have hpp : 0 ≤ p ∧ p < s 75 4 := by omega
  have ix : Inv x := iz.beg.scr (fun c j hc => by rw [x1 c (by unfold pers perM at hc; omega)])
  have x78 : x 78 = s 78 := by rw [x1 78 (by decide), begS_row (by decide) (by decide), e78]
  have xW : ∀ y : Int, 0 ≤ y → y < s 75 4 → x 103 y = wvF s od y := fun y y0 y1 => by rw [x2 y y0 y1, sT.wv]
  have wz : wvF z od = wvF s od := funext (fun y => sT.wv od y)
  have pt := x3 p hpp.1 hpp.2
  rw [wz, e78] at pt
  have ans : ∀ y : Int, y = wedV (s 78) (wvF s od) p i (x 108 p) → y = r1 ∧ Inv x := fun y hy => by
    refine ⟨?_, ix⟩
    rcases g2 with g | ⟨_, o, g3, g4⟩
    · exact absurd ⟨hpp, by omega⟩ g.1
    · rw [hy, g4, PT.uniq hs hpp pt g3]
  generalize x 108 p = o at *
  have ob : o = -1 ∨ (0 ≤ o ∧ o < s 75 4) := by
    rcases pt with g | g
    · exact Or.inl g.1
    · exact Or.inr g.1
  have sp := hs p hpp.1 hpp.2
  have wp := hW p hpp.1 hpp.2
  rw [x78]
  refine ⟨⟨by omega, by omega⟩, hi, fun z4 => ⟨⟨by omega, by omega⟩, fun z5 => ⟨⟨by omega, by omega⟩, ?_⟩, fun z5 => ⟨hi, fun z6 => ans _ (by unfold wedV; rw [if_neg z4, if_pos z5, if_neg z6]), fun z6 => ans _ (by unfold wedV; rw [if_neg z4, if_pos z5, if_pos z6])⟩⟩, fun z4 => ans _ (by unfold wedV; rw [if_pos z4])⟩
  have ob' : 0 ≤ o ∧ o < s 75 4 := by omega
  have wo := hW o ob'.1 ob'.2
  have op : o ≠ p := fun e => by
    rcases pt with g | g
    · omega
    · exact g.2.1 (by rw [e])
  rw [xW p hpp.1 hpp.2, xW o ob'.1 ob'.2]
  generalize wvF s od = W at *
  have ro : rg o := ⟨by omega, by omega⟩
  have rp : rg p := ⟨by omega, by omega⟩
  have b20 : 0 ≤ o ∧ o < 20 := ⟨by omega, by omega⟩
  have p20 : 0 ≤ p ∧ p < 20 := ⟨by omega, by omega⟩
  have rWp : rg (W p) := ⟨by omega, by omega⟩
  have rWo : rg (W o) := ⟨by omega, by omega⟩
  refine ⟨⟨by omega, by omega⟩, fun z6 => ⟨⟨ro, rp⟩, fun _ => ⟨p20, b20, ⟨rWp, rWo⟩, fun z7 => ⟨hi, fun z8 => ⟨b20, ⟨ro, ro⟩, fun e => absurd rfl e, fun _ => ⟨p20, ans _ ?_⟩⟩, fun z8 => ans _ ?_⟩, fun z7 => ⟨hi, fun z8 => ⟨p20, ⟨rp, ro⟩, fun _ => ⟨b20, ans _ ?_⟩, fun e => absurd e.symm op⟩, fun z8 => ans _ ?_⟩⟩, fun e => absurd e op⟩, fun z6 => ⟨⟨rp, rp⟩, fun e => absurd rfl e, fun _ => ⟨b20, p20, ⟨rWo, rWp⟩, fun z7 => ⟨hi, fun z8 => ⟨p20, ⟨rp, rp⟩, fun e => absurd rfl e, fun _ => ⟨b20, ans _ ?_⟩⟩, fun z8 => ans _ ?_⟩, fun z7 => ⟨hi, fun z8 => ⟨b20, ⟨ro, rp⟩, fun _ => ⟨p20, ans _ ?_⟩, fun e => absurd e op⟩, fun z8 => ans _ ?_⟩⟩⟩⟩
  · unfold wedV
    rw [if_neg z4, if_neg z5, if_neg z8]
    by_cases g : W p < W o
    · rw [if_pos g]
    · rw [if_neg g]; omega
  · unfold wedV
    rw [if_neg z4, if_neg z5, if_pos z8, if_neg z6, if_neg (by omega)]
  · unfold wedV
    rw [if_neg z4, if_neg z5, if_neg z8, if_neg (by omega)]
  · unfold wedV
    rw [if_neg z4, if_neg z5, if_pos z8, if_neg z6, if_pos z7]
  · unfold wedV
    rw [if_neg z4, if_neg z5, if_neg z8, if_neg (by omega)]
  · unfold wedV
    rw [if_neg z4, if_neg z5, if_pos z8, if_pos z6, if_neg (by omega)]
  · unfold wedV
    rw [if_neg z4, if_neg z5, if_neg z8, if_pos z7]
  · unfold wedV
    rw [if_neg z4, if_neg z5, if_pos z8, if_pos z6, if_pos z7]
