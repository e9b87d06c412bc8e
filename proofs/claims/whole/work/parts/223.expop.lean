noncomputable def chF (s : Sto) (p : Int) : Int → Int := fun j => wvF s (fun i => begS s 81 (8 * (1 + j) + i)) p
noncomputable def expV (S W w : Int) : Int := if W = 0 then 0 else xdiv (if w = 0 then S else W) (euc 64 (xabs S) W)
theorem expV_rg (S W w : Int) : rg (expV S W w) := by
  unfold expV
  split
  · decide
  · exact oI_rg _
theorem begS_i {s : Sto} (h : s 75 22 = 0 ∨ s 75 22 = 1) : begS (begS s) = begS s := by
  have := begS_22 h
  generalize begS s = u at *
  unfold begS
  rw [if_neg (by omega)]
/-- what both loops have of the CHANCES -/
theorem Inv.chs [Inhabited YT] {s : Sto} (h : Inv s) (p : Int) (hp : 0 ≤ p ∧ p < s 75 4) : (∀ j : Int, 0 ≤ j → j < 6 → 0 ≤ s 87 j ∧ s 87 j ≤ 99) ∧ (∀ j : Int, 0 ≤ j → j < 6 → (s 88 j = 0 ∧ s 11 j = -1) ∨ (s 88 j = 1 ∧ OdR (s 75 9) (s 11 j) (fun i => begS s 81 (8 * (1 + j) + i)))) ∧ (∀ j : Int, 0 ≤ j → j < 6 → s 12 j = s 87 j) := by
  obtain ⟨a1, a2, a3, a4, a5, a6, a7, a8, a9, a10, a11, a12, a13, a14, a15⟩ := h.2.1
  obtain ⟨b3, b10, b14⟩ := landB h
  have e1 : s 3 0 = s 75 9 := a1.1
  rw [e1] at b10
  refine ⟨fun j j1 j2 => ?_, fun j j1 j2 => (b10 j j1 j2).2, fun j j1 j2 => (b10 j j1 j2).1.1⟩
  have := (b10 j j1 j2).1
  rw [this.1] at this
  exact this.2
/-- there is a WORTH -/
theorem WV.ex [Inhabited YT] {s : Sto} (h : Inv s) {o p : Int} {od : Int → Int} (hO : OdR (s 75 9) o od) (hp : 0 ≤ p ∧ p < s 75 4) : WV s od p (wvF s od p) := by
  refine Classical.epsilon_spec (p := fun v => WV s od p v) ?_
  have hn := h.nms.1
  have hpl : ∀ l : Int, ∃ i : Int, (0 ≤ l ∧ l < s 75 9) → 0 ≤ i ∧ i < s 75 9 ∧ od i = l := by
    intro l
    by_cases q : 0 ≤ l ∧ l < s 75 9
    · obtain ⟨i, g⟩ := hO.onto q.1 q.2
      exact ⟨i, fun _ => g⟩
    · exact ⟨0, fun z => absurd z q⟩
  let pl : Int → Int := fun l => Classical.choose (hpl l)
  have hP : PlR (s 75 9) od pl := by
    intro i i1 i2
    have b := hO.2.1 i i1 i2
    have g := Classical.choose_spec (hpl (od i)) b
    exact hO.2.2.1 _ _ g.1 g.2.1 i1 i2 g.2.2
  have R : RowR (fun i => (quS s pl).getD (s 75 4 - 1 - i).toNat 0) ((s 75 4).toNat : Nat) (quS s pl) := by
    rw [Int.toNat_of_nonneg hn.1]
    refine ⟨?_, fun i _ _ => rfl⟩
    unfold quS
    rw [srtL_len, Int.toNat_of_nonneg hn.1]
  obtain ⟨i, i1, i2, i3⟩ := RowR.onto (row := fun i => (quS s pl).getD (s 75 4 - 1 - i).toNat 0) R (p := p) hp.1 (by omega)
  exact ⟨_, pl, i, hP, i1, by omega, i3, rfl⟩
theorem chF_bd [Inhabited YT] {s : Sto} (h : Inv s) {p : Int} (hp : 0 ≤ p ∧ p < s 75 4) : ∀ j : Int, 0 ≤ j → j < 6 → s 88 j ≠ 0 → -594 ≤ chF s p j ∧ chF s p j ≤ 594 := by
  intro j j1 j2 q
  rcases (h.chs p hp).2.1 j j1 j2 with g | g
  · exact absurd g.1 q
  · exact (WV.ex h g.2 hp).bd h
set_option maxHeartbeats 2000000 in
theorem t_X11_expected [Inhabited YT] {s : Sto} (h : Inv s) {p w : Int} (hp : rg p) (hw : rg w) : ClI LY 4 MX11_expected [.inr 0, .inl p, .inl w] s (fun r s' => (∀ c : Nat, ¬ (47 ≤ c ∧ c ≤ 51) → s' c = s c) ∧ r = if (0 ≤ p ∧ p < s 75 4) ∧ 0 ≤ w ∧ w ≤ 1 then expV (smS (s 88) (s 87) (chF s p) 6) (smW (s 88) (s 87) 6) w else -1000000) := by
  obtain ⟨a1, a2, a3, a4, a5, a6, a7, a8, a9, a10, a11, a12, a13, a14, a15⟩ := h.2.1
  have e6 : s 5 0 = s 75 4 := a6.1
  have n1 := h.nms.1
  refine ClI.intro (by decide) rfl (Nat.le_of_ble_eq_true rfl) (fun X C r => ?_)
  refine kb_X11_expected_0 C r ⟨0, _, by decide, t_X6_has hp ⟨by omega, by omega⟩, ?_⟩
  rintro q t ⟨ht, q1, q2⟩
  rw [ht]
  have nil : ∀ c : Nat, ¬ (47 ≤ c ∧ c ≤ 51) → s c = s c := fun _ _ => rfl
  refine ⟨⟨by omega, by omega⟩, fun z => ⟨nil, by rw [if_neg (by omega)]⟩, fun z => ⟨hw, fun z2 => ⟨nil, by rw [if_neg (by omega)]⟩, fun z2 => ⟨hw, fun z3 => ?_, fun z3 => ⟨nil, by rw [if_neg (by omega)]⟩⟩⟩⟩
  have p1 : 0 ≤ p ∧ p < s 75 4 := by omega
  obtain ⟨c1, c2, c3⟩ := h.chs p p1
  have bd := sm_bd c1 (chF_bd h p1)
  suffices H : ∀ S : Sto, (∀ c : Nat, ¬ (47 ≤ c ∧ c ≤ 51) → S c = s c) → G LY X 34 [rv 0, iv p, iv w, iv (smS (s 88) (s 87) (chF s p) (0 : Int).toNat), iv (smW (s 88) (s 87) (0 : Int).toNat), iv 0] [] S from H s nil
  refine downI (P := fun k => ∀ S : Sto, (∀ c : Nat, ¬ (47 ≤ c ∧ c ≤ 51) → S c = s c) → G LY X 34 [rv 0, iv p, iv w, iv (smS (s 88) (s 87) (chF s p) k.toNat), iv (smW (s 88) (s 87) k.toNat), iv k] [] S) (a := 0) (b := 6) (by decide) ?_ ?_
  · intro S hS
    obtain ⟨b1, b2, b3⟩ := bd 6 (by decide)
    have hx : 0 ≤ xabs (smS (s 88) (s 87) (chF s p) 6) ∧ xabs (smS (s 88) (s 87) (chF s p) 6) ≤ 2147483647 := by unfold xabs; split <;> omega
    have ee := eucE_bd 32 _ (smW (s 88) (s 87) 6) hx b2.1 (by have : (2 : Int) ^ 32 = 4294967296 := by decide
                                                              omega) (by omega)
    have gp := euc_pos 64 _ _ hx b2.1 (by omega) ee
    show G LY X 34 [rv 0, iv p, iv w, iv (smS (s 88) (s 87) (chF s p) 6), iv (smW (s 88) (s 87) 6), iv 6] [] S
    refine kb_X11_expected_34 C r (by omega) ⟨by decide, fun _ => ⟨⟨by omega, by omega⟩, 0, _, by decide, t_X11_commonPart hx ⟨by omega, by omega⟩, ?_⟩, fun z => absurd z (by decide)⟩
    rintro g t ⟨ht, hg⟩
    rw [ht]
    have hgv : (0 ≤ w ∧ w ≤ 1) := by omega
    refine ⟨by rw [hg]; exact ⟨by omega, by omega⟩, fun y => ⟨hw, fun y2 => ⟨⟨by rw [hg]; exact ⟨by omega, by omega⟩, y⟩, hS, ?_⟩, fun y2 => ⟨⟨by rw [hg]; exact ⟨by omega, by omega⟩, y⟩, hS, ?_⟩⟩, fun y => ⟨hS, ?_⟩⟩
    · rw [if_pos ⟨p1, hgv⟩]
      have : smW (s 88) (s 87) 6 ≠ 0 := fun z => y (by
        have z2 := b3 z
        rw [hg, z, z2]
        decide)
      unfold expV
      rw [if_neg this, if_neg y2, hg]
    · rw [if_pos ⟨p1, hgv⟩]
      have : smW (s 88) (s 87) 6 ≠ 0 := fun z => y (by
        have z2 := b3 z
        rw [hg, z, z2]
        decide)
      unfold expV
      rw [if_neg this, if_pos y2, hg]
    · rw [if_pos ⟨p1, hgv⟩]
      unfold expV
      rw [if_pos (by omega)]
  · intro k k1 k2 ih S hS
    have iS : Inv S := h.scr (fun c j hc => by rw [hS c (by unfold pers perM at hc; omega)])
    have f1 := c1 k k1 k2
    have f3 := c3 k k1 k2
    refine kb_X11_expected_34 C r (by omega) ⟨⟨by omega, by omega⟩, fun z => absurd z (by omega), fun _ => ⟨⟨by omega, by omega⟩, ?_⟩⟩
    rw [hS 11 (by decide), hS 12 (by decide), f3]
    have ih := ih
    rw [smS_s _ _ _ k1, smW_s _ _ k1] at ih
    rcases c2 k k1 k2 with g | g
    · rw [if_pos g.1, if_pos g.1, Int.add_zero, Int.add_zero] at ih
      refine ⟨by rw [g.2]; decide, fun _ => ih S hS, fun z => absurd g.2 z⟩
    · have ob := g.2.bd
      rw [if_neg (by omega), if_neg (by omega)] at ih
      refine ⟨⟨by omega, by omega⟩, fun z => absurd z (by omega), fun _ => ⟨⟨by omega, by omega⟩, ⟨by omega, by omega⟩, fun z => ?_, fun z => ⟨⟨by omega, by omega⟩, 3, _, by decide, t_worthBy iS (od := fun i => begS s 81 (8 * (1 + k) + i)) (by rw [hS 75 (by decide)]; exact g.2) (by rw [hS 75 (by decide)]; exact p1), ?_⟩⟩⟩
      · have w0 : s 87 k = 0 := by omega
        rw [w0, Int.mul_zero, Int.add_zero, Int.add_zero] at ih
        exact ih S hS
      · rintro v u ⟨u1, u2⟩
        have u3 : ∀ c : Nat, ¬ (47 ≤ c ∧ c ≤ 51) → u c = s c := fun c hc => by rw [u1 c hc, hS c hc]
        have hv : v = chF s p k := by
          rw [u2.val iS (by rw [hS 75 (by decide)]; exact g.2)]
          exact wvF_congr (fun c c1 c2 _ _ => hS c (by omega)) (by rw [hS 75 (by decide)]) (by rw [hS 75 (by decide)])
        rw [u3 12 (by decide), f3, hv]
        exact ⟨⟨by omega, by omega⟩, ⟨by omega, by omega⟩, ih u u3⟩
set_option maxHeartbeats 2000000 in
theorem t_X12_expected [Inhabited YT] {s : Sto} (h : Inv (up s 75 0 0)) {p w : Int} (hp : rg p) (hw : rg w) : ClI LY 6 MX12_expected [.inr 75, .inl p, .inl w] s (fun r s' => Inv s' ∧ r = if (0 ≤ p ∧ p < (up s 75 0 0) 75 4) ∧ 0 ≤ w ∧ w ≤ 1 then expV (smS ((up s 75 0 0) 88) ((up s 75 0 0) 87) (chF (up s 75 0 0) p) 6) (smW ((up s 75 0 0) 88) ((up s 75 0 0) 87) 6) w else -1000000) := by
  refine ClI.intro (by decide) rfl (Nat.le_of_ble_eq_true rfl) (fun X C r => ?_)
  refine kb_X12_expected_0 C r ?_
  rintro t rfl
  generalize up s 75 0 0 = s at *
  have n1 := h.nms.1
  refine ⟨0, _, by decide, t_X12_isOne hp ⟨by omega, by omega⟩, ?_⟩
  rintro q t ⟨ht, q1, q2⟩
  rw [ht]
  refine ⟨⟨by omega, by omega⟩, fun z => ⟨h, by rw [if_neg (by omega)]⟩, fun z => ⟨0, _, by decide, t_X12_isIn hw (by decide) (by decide), ?_⟩⟩
  rintro q' t' ⟨ht', q1', q2'⟩
  rw [ht']
  refine ⟨⟨by omega, by omega⟩, fun z2 => ?_, fun z2 => ⟨h, by rw [if_neg (by omega)]⟩⟩
  have p1 : 0 ≤ p ∧ p < s 75 4 := by omega
  have w1 : 0 ≤ w ∧ w ≤ 1 := by omega
  rw [if_pos ⟨p1, w1⟩] at r
  obtain ⟨c1, c2, c3⟩ := h.chs p p1
  have bd := sm_bd c1 (chF_bd h p1)
  suffices H : ∀ S : Sto, (Inv S ∧ begS S 81 = begS s 81 ∧ (∀ c : Nat, 76 ≤ c → c ≤ 90 → c ≠ 81 → S c = s c) ∧ S 75 4 = s 75 4 ∧ S 75 9 = s 75 9) → G LY X 35 [rv 75, iv p, iv w, iv (smS (s 88) (s 87) (chF s p) (0 : Int).toNat), iv (smW (s 88) (s 87) (0 : Int).toNat), iv 0, none, none] [] S from H s ⟨h, rfl, fun _ _ _ _ => rfl, rfl, rfl⟩
  refine downI (P := fun k => ∀ S : Sto, (Inv S ∧ begS S 81 = begS s 81 ∧ (∀ c : Nat, 76 ≤ c → c ≤ 90 → c ≠ 81 → S c = s c) ∧ S 75 4 = s 75 4 ∧ S 75 9 = s 75 9) → G LY X 35 [rv 75, iv p, iv w, iv (smS (s 88) (s 87) (chF s p) k.toNat), iv (smW (s 88) (s 87) k.toNat), iv k, none, none] [] S) (a := 0) (b := 6) (by decide) ?_ ?_
  · rintro S ⟨iS, _⟩
    obtain ⟨b1, b2, b3⟩ := bd 6 (by decide)
    have hx : 0 ≤ xabs (smS (s 88) (s 87) (chF s p) 6) ∧ xabs (smS (s 88) (s 87) (chF s p) 6) ≤ 2147483647 := by unfold xabs; split <;> omega
    have ee := eucE_bd 32 _ (smW (s 88) (s 87) 6) hx b2.1 (by have : (2 : Int) ^ 32 = 4294967296 := by decide
                                                              omega) (by omega)
    have gp := euc_pos 64 _ _ hx b2.1 (by omega) ee
    have ee : eucE 64 (xabs (smS (s 88) (s 87) (chF s p) 6)) (smW (s 88) (s 87) 6) := ee
    have loop : smW (s 88) (s 87) 6 ≠ 0 → ∀ (m : Nat) (x y : Int), (0 ≤ x ∧ x ≤ 2147483647) → (0 ≤ y ∧ y ≤ 2147483647) → eucE m x y → euc m x y = euc 64 (xabs (smS (s 88) (s 87) (chF s p) 6)) (smW (s 88) (s 87) 6) → G LY X 116 [rv 75, iv p, iv w, iv (smS (s 88) (s 87) (chF s p) 6), iv (smW (s 88) (s 87) 6), iv x, iv y, none] [] S := by
      intro hW m
      have gp2 := gp.2.2 (Or.inr (by omega))
      have fin : ∀ x : Int, x = euc 64 (xabs (smS (s 88) (s 87) (chF s p) 6)) (smW (s 88) (s 87) 6) → G LY X 116 [rv 75, iv p, iv w, iv (smS (s 88) (s 87) (chF s p) 6), iv (smW (s 88) (s 87) 6), iv x, iv 0, none] [] S := by
        intro x hx2
        refine kb_X12_expected_116 C r ⟨by decide, fun _ => ⟨hw, fun y => ⟨⟨⟨by omega, by omega⟩, by omega⟩, iS, ?_⟩, fun y => ⟨⟨⟨by omega, by omega⟩, by omega⟩, iS, ?_⟩⟩, fun z => absurd rfl z⟩
        · unfold expV
          rw [if_neg hW, if_neg y, hx2]
        · unfold expV
          rw [if_neg hW, if_pos y, hx2]
      induction m with
      | zero =>
        intro x y hx hy e1 e2
        have e1 : y = 0 := e1
        rw [e1]
        exact fin x e2
      | succ m ihm =>
        intro x y hx hy e1 e2
        have e1 : y = 0 ∨ eucE m y (xrem x y) := e1
        have e2 : (if y = 0 then x else euc m y (xrem x y)) = _ := e2
        by_cases y0 : y = 0
        · rw [if_pos y0] at e2
          rw [y0]
          exact fin x e2
        · rw [if_neg y0] at e2
          have e3 := xrem_nn (b := y) hx ⟨by omega, hy.2⟩
          have g1 : 0 ≤ x % y := Int.emod_nonneg x y0
          have g2 : x % y < y := Int.emod_lt_of_pos x (by omega)
          exact kb_X12_expected_116 C r ⟨⟨by omega, by omega⟩, fun z => absurd z y0, fun _ => ⟨⟨⟨by omega, by omega⟩, y0⟩, ihm y _ hy (by omega) (e1.resolve_left y0) e2⟩⟩
    show G LY X 35 [rv 75, iv p, iv w, iv (smS (s 88) (s 87) (chF s p) 6), iv (smW (s 88) (s 87) 6), iv 6, none, none] [] S
    refine kb_X12_expected_35 C r ⟨by decide, fun _ => ⟨⟨by omega, by omega⟩, fun y => ⟨⟨by omega, by omega⟩, fun y2 => ?_, fun y2 => ?_⟩, fun y => ⟨iS, ?_⟩⟩, fun z => absurd z (by decide)⟩
    · refine loop y 64 _ _ ⟨by omega, by omega⟩ ⟨by omega, by omega⟩ ?_ ?_
      · unfold xabs at ee; rw [if_pos y2] at ee; exact ee
      · unfold xabs; rw [if_pos y2]
    · refine loop y 64 _ _ ⟨by omega, by omega⟩ ⟨by omega, by omega⟩ ?_ ?_
      · unfold xabs at ee; rw [if_neg (by omega), Int.zero_sub] at ee; exact ee
      · unfold xabs; rw [if_neg (by omega), Int.zero_sub]
    · unfold expV
      rw [if_pos y]
  · rintro k k1 k2 ih S ⟨iS, e81, ec, e4, e9⟩
    have f1 := c1 k k1 k2
    refine kb_X12_expected_35 C r ⟨⟨by omega, by omega⟩, fun z => absurd z (by omega), fun _ => ⟨⟨by omega, by omega⟩, ?_⟩⟩
    rw [ec 88 (by decide) (by decide) (by decide), ec 87 (by decide) (by decide) (by decide)]
    rw [smS_s _ _ _ k1, smW_s _ _ k1] at ih
    rcases c2 k k1 k2 with g | g
    · rw [if_pos g.1, if_pos g.1, Int.add_zero, Int.add_zero] at ih
      refine ⟨by rw [g.1]; decide, fun z => absurd g.1 z, fun _ => ih S ⟨iS, e81, ec, e4, e9⟩⟩
    · rw [if_neg (by omega), if_neg (by omega)] at ih
      have hO : OdR (S 75 9) (s 11 k) (fun i => begS S 81 (8 * (1 + k) + i)) := by rw [e9, e81]; exact g.2
      refine ⟨by rw [g.1]; decide, fun _ => ⟨⟨by omega, by omega⟩, 5, _, by decide, t_worthOf iS ⟨by omega, by omega⟩ hO (by rw [e4]; exact p1), ?_⟩, fun z => absurd z (by omega)⟩
      rintro v u ⟨u1, u2⟩
      have hv : v = chF s p k := by
        rw [u2.val iS hO, e81]
        exact wvF_congr (fun c c1 c2 c3 c4 => ec c (by omega) (by omega) (by omega)) e4 e9
      have u75 : u 75 = begS S 75 := u1 75 (by decide) (by decide) (by decide)
      have ec2 : ∀ c : Nat, 76 ≤ c → c ≤ 90 → c ≠ 81 → u c = s c := fun c c1 c2 c3 => by rw [u1 c (by omega) (by omega) (by omega), begS_row (by omega) c3, ec c c1 c2 c3]
      rw [ec2 87 (by decide) (by decide) (by decide), hv, Int.mul_comm]
      refine ⟨⟨by omega, by omega⟩, ih u ⟨iS.beg.scr (fun c j hc => by rw [u1 c (by unfold pers perM at hc; omega) (by unfold pers perM at hc; omega) (by unfold pers perM at hc; omega)]), ?_, ec2, by rw [u75, begS_75 (by decide), e4], by rw [u75, begS_75 (by decide), e9]⟩⟩
      rw [begS_81 (s := begS S) (t := u) (by rw [u75]) (u1 81 (by decide) (by decide) (by decide)), begS_i iS.2.2.2.2.1, e81]
theorem op_expected [Inhabited YT] {s : Sto} (h : Inv s) {p w : Int} (hp : rg p) (hw : rg w) : OpI MX11_expected MX12_expected [.inl p, .inl w] s := by
  refine ⟨4, 6, _, by decide, by decide, t_X11_expected h hp hw, ?_⟩
  rintro r1 s1 ⟨g1, g2⟩
  have i1 : Inv s1 := h.scr (fun c j hc => by rw [g1 c (by unfold pers perM at hc; omega)])
  have i2 := i1.told 0
  have e75 : ∀ j : Int, j ≠ 0 → up s1 75 0 0 75 j = s 75 j := fun j hj => by rw [up_idx hj, g1 75 (by decide)]
  have ec : ∀ c : Nat, c ≠ 75 → ¬ (47 ≤ c ∧ c ≤ 51) → up s1 75 0 0 c = s c := fun c c1 c2 => by rw [up_row c1, g1 c c2]
  refine ⟨?_, (t_X12_expected i2 hp hw).mono ?_⟩
  · rw [g2]
    split
    · exact expV_rg _ _ _
    · decide
  · rintro r2 s2 ⟨k1, k2⟩
    refine ⟨?_, k1⟩
    have ech : chF (up s1 75 0 0) p = chF s p := by
      funext j
      unfold chF
      rw [begS_81 (s := s) (e75 22 (by decide)) (ec 81 (by decide) (by decide))]
      exact wvF_congr (fun c c1 c2 c3 c4 => ec c (by omega) (by omega)) (e75 4 (by decide)) (e75 9 (by decide))
    rw [k2, g2, ech, e75 4 (by decide), ec 88 (by decide) (by decide), ec 87 (by decide) (by decide)]
