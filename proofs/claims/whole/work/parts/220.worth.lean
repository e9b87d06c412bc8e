/-! WORTH -/
theorem sqS_congr {s t : Sto} (e6 : t 76 = s 76) (e7 : t 77 = s 77) (e8 : t 82 = s 82) (e9 : t 75 9 = s 75 9) : sqS t = sqS s := by
  funext pl p
  show sfx (rkF (t 75 9) (t 82 0) pl) (fun i => t 77 (6 * p + i)) (t 76 p) (t 76 p).toNat = _
  rw [e6, e7, e8, e9]
theorem quS_congr {s t : Sto} (e : ∀ c : Nat, 76 ≤ c → c ≤ 86 → c ≠ 78 → c ≠ 81 → t c = s c) (e4 : t 75 4 = s 75 4) (e9 : t 75 9 = s 75 9) : quS t = quS s := by
  funext pl
  unfold quS
  rw [sqS_congr (e 76 (by decide) (by decide) (by decide) (by decide)) (e 77 (by decide) (by decide) (by decide) (by decide)) (e 82 (by decide) (by decide) (by decide) (by decide)) e9, e 79 (by decide) (by decide) (by decide) (by decide), e 80 (by decide) (by decide) (by decide) (by decide), e 82 (by decide) (by decide) (by decide) (by decide), e4]
def WV (s : Sto) (od : Int → Int) (p v : Int) : Prop := ∃ (pl : Int → Int) (i : Int), PlR (s 75 9) od pl ∧ 0 ≤ i ∧ i < s 75 4 ∧ (quS s pl).getD (s 75 4 - 1 - i).toNat 0 = p ∧ v = psm (s 83) (s 84) (s 85) (s 86) (s 75 4) i 6
theorem Inv.sts [Inhabited YT] {s : Sto} (h : Inv s) : ∀ j : Int, 0 ≤ j → j < 6 → (s 83 j = 0 ∨ s 83 j = 1) ∧ (-99 ≤ s 84 j ∧ s 84 j ≤ 99) ∧ (0 ≤ s 85 j ∧ s 85 j ≤ 99) ∧ (0 ≤ s 86 j ∧ s 86 j ≤ 20) := by
  obtain ⟨a1, a2, a3, a4, a5, a6, a7, a8, a9, a10, a11, a12, a13, a14, a15⟩ := h.2.1
  intro j j1 j2
  obtain ⟨g1, g2, g3, g4⟩ := a9 j j1 j2
  exact ⟨g1.2, g2.2, g3.2, g4.2⟩
theorem WV.uniq [Inhabited YT] {s : Sto} (h : Inv s) {o : Int} {od : Int → Int} (hO : OdR (s 75 9) o od) {p v v' : Int} (h1 : WV s od p v) (h2 : WV s od p v') : v = v' := by
  obtain ⟨pl, i, a1, a2, a3, a4, a5⟩ := h1
  obtain ⟨pl', i', b1, b2, b3, b4, b5⟩ := h2
  rw [(quS_uniq h hO b1 a1).2] at b4
  have hn := h.nms.1
  have R : RowR (fun i => (quS s pl).getD (s 75 4 - 1 - i).toNat 0) ((s 75 4).toNat : Nat) (quS s pl) := by
    rw [Int.toNat_of_nonneg hn.1]
    refine ⟨?_, fun i _ _ => rfl⟩
    unfold quS
    rw [srtL_len, Int.toNat_of_nonneg hn.1]
  have := RowR.inj (row := fun i => (quS s pl).getD (s 75 4 - 1 - i).toNat 0) R (i := i) (j := i') a2 (by omega) b2 (by omega) (a4.trans b4.symm)
  rw [a5, b5, this]
theorem WV.bd [Inhabited YT] {s : Sto} (h : Inv s) {od : Int → Int} {p v : Int} (h1 : WV s od p v) : -594 ≤ v ∧ v ≤ 594 := by
  obtain ⟨pl, i, a1, a2, a3, a4, a5⟩ := h1
  have hs := h.sts
  have := psm_bd (sd := s 83) (fi := s 84) (le := s 85) (ma := s 86) (n := s 75 4) (x := i) (fun j j1 j2 => ⟨(hs j j1 j2).1, (hs j j1 j2).2.1, (hs j j1 j2).2.2.1⟩) ⟨a2, a3⟩ h.nms.1.2 6 (by decide)
  rw [← a5] at this
  omega
theorem WV.congr {s t : Sto} {od : Int → Int} {p v : Int} (h1 : WV s od p v) (e : ∀ c : Nat, 76 ≤ c → c ≤ 86 → c ≠ 78 → c ≠ 81 → t c = s c) (e4 : t 75 4 = s 75 4) (e9 : t 75 9 = s 75 9) : WV t od p v := by
  unfold WV
  rw [quS_congr e e4 e9, e 83 (by decide) (by decide) (by decide) (by decide), e 84 (by decide) (by decide) (by decide) (by decide), e 85 (by decide) (by decide) (by decide) (by decide), e 86 (by decide) (by decide) (by decide) (by decide), e4, e9]
  exact h1
set_option maxHeartbeats 2000000 in
theorem t_pay [Inhabited YT] {s : Sto} (h : Inv s) : ClV LY 2 MX7_payPlaces [.inr 46, .inr 3] s (fun s' => (∀ c : Nat, c ≠ 51 → s' c = s c) ∧ ∀ x : Int, 0 ≤ x → x < s 75 4 → s' 51 x = psm (s 83) (s 84) (s 85) (s 86) (s 75 4) x 6) := by
  obtain ⟨a1, a2, a3, a4, a5, a6, a7, a8, a9, a10, a11, a12, a13, a14, a15⟩ := h.2.1
  have e6 : s 5 0 = s 75 4 := a6.1
  have b6 : 0 ≤ s 5 0 ∧ s 5 0 ≤ 20 := a6.2
  have e : ∀ j : Int, 0 ≤ j → j < 6 → s 10 (4 * j) = s 83 j ∧ s 10 (4 * j + 1) = s 84 j ∧ s 10 (4 * j + 2) = s 85 j ∧ s 10 (4 * j + 3) = s 86 j := fun j j1 j2 => by
    obtain ⟨g1, g2, g3, g4⟩ := a9 j j1 j2
    exact ⟨g1.1, g2.1, g3.1, g4.1⟩
  refine (t_X7_payPlaces (s := s) b6 (fun j j1 j2 => ?_)).mono ?_
  · obtain ⟨g1, g2, g3, g4⟩ := e j j1 j2
    rw [g1, g2, g3, g4]
    exact h.sts j j1 j2
  · rintro s' ⟨g1, g2⟩
    refine ⟨g1, fun x x1 x2 => ?_⟩
    rw [g2 x x1 (by omega), e6]
    exact psm_congr 6 (fun j j1 j2 => e j j1 j2)
theorem t_worthBy [Inhabited YT] {s : Sto} (h : Inv s) {o p : Int} {od : Int → Int} (hO : OdR (s 75 9) o od) (hp : 0 ≤ p ∧ p < s 75 4) : ClI LY 3 MX11_worthBy [.inr 0, .inl p, .inl o] s (fun r s' => (∀ c : Nat, ¬ (47 ≤ c ∧ c ≤ 51) → s' c = s c) ∧ WV s od p r) := by
  refine ClI.intro (by decide) rfl (Nat.le_of_ble_eq_true rfl) (fun X C r => ?_)
  have hn := h.nms.1
  refine kb_X11_worthBy_0 C r ⟨2, _, by decide, t_pay h, ?_⟩
  rintro u ⟨u1, u2⟩
  have hu : Inv u := h.scr (fun c i hc => by rw [u1 c (by unfold pers perM at hc; omega)])
  have e75 : u 75 = s 75 := u1 75 (by decide)
  have eq : quS u = quS s := quS_congr (fun c c1 c2 _ _ => u1 c (by omega)) (by rw [e75]) (by rw [e75])
  refine ⟨2, _, by decide, t_line hu (o := o) (od := od) (by rw [e75]; exact hO), ?_⟩
  rintro w ⟨w1, pl, w2, w3, w4, w5, w6⟩
  rw [e75] at w2 w5 w6
  rw [eq] at w5
  have w5' : RowR (w 49) ((s 75 4).toNat : Nat) (quS s pl) := by rw [Int.toNat_of_nonneg hn.1]; exact w5
  obtain ⟨i, i1, i2, i3⟩ := w5'.onto (p := p) hp.1 (by omega)
  have e50 : w 50 p = i := by rw [← i3]; exact w6 i i1 (by omega)
  refine ⟨0, (fun r s' => s' = w ∧ r = w 51 i), by decide, ?_, ?_⟩
  · refine ClI.intro (by decide) rfl (Nat.le_of_ble_eq_true rfl) (fun X C r => ?_)
    refine kb_X7_worthOf_0 C r ⟨⟨by omega, by omega⟩, ?_⟩
    rw [e50]
    exact ⟨⟨by omega, by omega⟩, rfl, rfl⟩
  · rintro v t ⟨rfl, rfl⟩
    refine ⟨fun c hc => by rw [w1 c (by omega) (by omega) (by omega) (by omega), u1 c (by omega)], pl, i, w2, i1, by omega, ?_, ?_⟩
    · rw [← w5.2 i i1 (by omega)]; exact i3
    · rw [w1 51 (by decide) (by decide) (by decide) (by decide), u2 i i1 (by omega)]
theorem t_worthOf [Inhabited YT] {s : Sto} (h : Inv s) {o p oo : Int} (ho : 0 ≤ o ∧ o < 21) (hO : OdR (s 75 9) oo (fun i => begS s 81 (8 * o + i))) (hp : 0 ≤ p ∧ p < s 75 4) : ClI LY 5 MX12_worthOf [.inr 75, .inl p, .inl o] s (fun r s' => (∀ c : Nat, c ≠ 101 → c ≠ 102 → c ≠ 103 → s' c = begS s c) ∧ WV s (fun i => begS s 81 (8 * o + i)) p r) := by
  refine ClI.intro (by decide) rfl (Nat.le_of_ble_eq_true rfl) (fun X C r => ?_)
  obtain ⟨n1, n2, n3, n4, n5⟩ := h.nms
  refine kb_X12_worthOf_0 C r ⟨4, _, by decide, t_X12_findsWorths h.2.2.2.2.1 ho hO n1 n2 n4 n5 n3 h.sts, ?_⟩
  rintro w ⟨w1, w2, w3, w4⟩
  refine ⟨⟨by omega, by omega⟩, w1, w 101, ?_⟩
  have w5' : RowR (w 102) ((s 75 4).toNat : Nat) (quS s (w 101)) := by rw [Int.toNat_of_nonneg n1.1]; exact w3
  obtain ⟨i, i1, i2, i3⟩ := w5'.onto (p := p) hp.1 (by omega)
  refine ⟨i, w2, i1, by omega, ?_, ?_⟩
  · have := w3.2 i i1 (by omega)
    rw [i3] at this
    exact this.symm
  · rw [← i3]
    exact w4 i i1 (by omega)
/-! OPERATION: worth -/
theorem op_worth [Inhabited YT] {s : Sto} (h : Inv s) {p i : Int} (hp : rg p) (hi : rg i) : OpI MX11_worth MX12_worth [.inl p, .inl i] s := by
  obtain ⟨a1, a2, a3, a4, a5, a6, a7, a8, a9, a10, a11, a12, a13, a14, a15⟩ := h.2.1
  obtain ⟨b3, b10, b14⟩ := landB h
  have e1 : s 3 0 = s 75 9 := a1.1
  have e6 : s 5 0 = s 75 4 := a6.1
  have b6 : 0 ≤ s 5 0 ∧ s 5 0 ≤ 20 := a6.2
  rw [e1] at b3 b10
  have od0 : OdR (s 75 9) (s 3 2) (fun k => begS s 81 (8 * 0 + k)) := b3.congr (fun k _ _ => by rw [show 8 * 0 + k = k by omega])
  have hw : ∀ (o : Int), 0 ≤ o → o < 21 → ∀ oo : Int, OdR (s 75 9) oo (fun k => begS s 81 (8 * o + k)) → ∀ (r1 : Int) (s1 : Sto), (∀ c : Nat, ¬ (47 ≤ c ∧ c ≤ 51) → s1 c = s c) → (0 ≤ p ∧ p < s 75 4) → WV s (fun k => begS s 81 (8 * o + k)) p r1 → ClI LY 5 MX12_worthOf [.inr 75, .inl p, .inl o] (up s1 75 0 0) (fun r2 s2 => r2 = r1 ∧ Inv s2) := by
    intro o o1 o2 oo hO r1 s1 g1 g2 g3
    have i1 : Inv s1 := h.scr (fun c j hc => by rw [g1 c (by unfold pers perM at hc; omega)])
    have i2 := i1.told 0
    have e75 : ∀ j : Int, j ≠ 0 → up s1 75 0 0 75 j = s 75 j := fun j hj => by rw [up_idx hj, g1 75 (by decide)]
    have ec : ∀ c : Nat, c ≠ 75 → ¬ (47 ≤ c ∧ c ≤ 51) → up s1 75 0 0 c = s c := fun c c1 c2 => by rw [up_row c1, g1 c c2]
    have e81 : begS (up s1 75 0 0) 81 = begS s 81 := begS_81 (e75 22 (by decide)) (ec 81 (by decide) (by decide))
    have hO' : OdR (up s1 75 0 0 75 9) oo (fun k => begS (up s1 75 0 0) 81 (8 * o + k)) := by rw [e75 9 (by decide), e81]; exact hO
    refine (t_worthOf i2 ⟨o1, o2⟩ hO' (by rw [e75 4 (by decide)]; exact g2)).mono ?_
    rintro r2 s2 ⟨k1, k2⟩
    refine ⟨WV.uniq i2 hO' k2 ?_, i2.beg.scr (fun c j hc => by rw [k1 c (by unfold pers perM at hc; omega) (by unfold pers perM at hc; omega) (by unfold pers perM at hc; omega)])⟩
    rw [e81]
    exact g3.congr (fun c c1 c2 _ _ => ec c (by omega) (by omega)) (e75 4 (by decide)) (e75 9 (by decide))
  refine ⟨4, 6, (fun r1 s1 => (∀ c : Nat, ¬ (47 ≤ c ∧ c ≤ 51) → s1 c = s c) ∧ ((r1 = -1000000 ∧ (¬ (0 ≤ p ∧ p < s 75 4) ∨ ¬ (-1 ≤ i ∧ i ≤ 5) ∨ (0 ≤ i ∧ i ≤ 5 ∧ s 88 i = 0))) ∨ ((0 ≤ p ∧ p < s 75 4) ∧ i = -1 ∧ WV s (fun k => begS s 81 (8 * 0 + k)) p r1) ∨ ((0 ≤ p ∧ p < s 75 4) ∧ (0 ≤ i ∧ i ≤ 5) ∧ s 88 i = 1 ∧ WV s (fun k => begS s 81 (8 * (1 + i) + k)) p r1))), by decide, by decide, ?_, ?_⟩
  · refine ClI.intro (by decide) rfl (Nat.le_of_ble_eq_true rfl) (fun X C r => ?_)
    refine kb_X11_worth_0 C r ⟨0, _, by decide, t_X6_has hp ⟨by omega, by omega⟩, ?_⟩
    rintro q t ⟨ht, q1, q2⟩
    rw [ht]
    have nil : ∀ c : Nat, ¬ (47 ≤ c ∧ c ≤ 51) → s c = s c := fun _ _ => rfl
    refine ⟨⟨by omega, by omega⟩, fun z => ⟨nil, Or.inl ⟨rfl, by omega⟩⟩, fun z => ⟨hi, fun z2 => ⟨nil, Or.inl ⟨rfl, by omega⟩⟩, fun z2 => ⟨hi, fun z3 => ⟨hi, fun z4 => ⟨⟨by omega, by omega⟩, ?_⟩, fun z4 => ?_⟩, fun z3 => ⟨nil, Or.inl ⟨rfl, by omega⟩⟩⟩⟩⟩
    · rcases (b10 i (by omega) (by omega)).2 with ⟨t0, t1⟩ | ⟨t0, t1⟩
      · rw [t1]
        exact ⟨by decide, fun z => absurd rfl z, fun _ => ⟨nil, Or.inl ⟨rfl, by omega⟩⟩⟩
      · have bd := t1.bd
        refine ⟨⟨by omega, by omega⟩, fun _ => ⟨3, _, by decide, t_worthBy h t1 (by omega), ?_⟩, fun z => absurd z (by omega)⟩
        rintro v w ⟨w1, w2⟩
        exact ⟨w1, Or.inr (Or.inr ⟨by omega, by omega, t0, w2⟩)⟩
    · have bd := od0.bd
      refine ⟨⟨by omega, by omega⟩, fun _ => ⟨3, _, by decide, t_worthBy h od0 (by omega), ?_⟩, fun z => absurd z (by omega)⟩
      rintro v w ⟨w1, w2⟩
      exact ⟨w1, Or.inr (Or.inl ⟨by omega, z4, w2⟩)⟩
  · rintro r1 s1 ⟨g1, g2⟩
    have i1 : Inv s1 := h.scr (fun c j hc => by rw [g1 c (by unfold pers perM at hc; omega)])
    have i2 := i1.told 0
    have e4 : up s1 75 0 0 75 4 = s 75 4 := by rw [up_idx (by decide), g1 75 (by decide)]
    have e88 : up s1 75 0 0 88 = s 88 := by rw [up_row (by decide), g1 88 (by decide)]
    refine ⟨?_, ?_⟩
    · rcases g2 with g | g | g
      · rw [g.1]; decide
      · have := g.2.2.bd h; exact ⟨by omega, by omega⟩
      · have := g.2.2.2.bd h; exact ⟨by omega, by omega⟩
    refine ClI.intro (by decide) rfl (Nat.le_of_ble_eq_true rfl) (fun X C r => ?_)
    refine kb_X12_worth_0 C r ?_
    rintro t rfl
    refine ⟨0, _, by decide, t_X12_isOne hp (by rw [e4]; exact ⟨by omega, by omega⟩), ?_⟩
    rintro q t ⟨ht, q1, q2⟩
    rw [ht]
    rw [e4] at q2
    refine ⟨⟨by omega, by omega⟩, fun z => ⟨by omega, i2⟩, fun z => ⟨0, _, by decide, t_X12_isIn hi (by decide) (by decide), ?_⟩⟩
    rintro q' t' ⟨ht', q1', q2'⟩
    rw [ht']
    refine ⟨⟨by omega, by omega⟩, fun z2 => ⟨by omega, i2⟩, fun z2 => ⟨hi, fun z3 => ⟨hi, fun z4 => absurd z4 (by omega), fun z4 => ?_⟩, fun z3 => ⟨⟨by omega, by omega⟩, ?_⟩⟩⟩
    · rcases g2 with g | g | g
      · omega
      · exact ⟨5, _, by decide, hw 0 (by decide) (by decide) _ od0 r1 s1 g1 g.1 g.2.2, fun _ _ k => k⟩
      · omega
    · rw [e88]
      have ch := (b10 i (by omega) (by omega)).2
      refine ⟨?_, fun z4 => ⟨hi, fun z5 => ?_, fun z5 => absurd z5 (by omega)⟩, fun z4 => ⟨by omega, i2⟩⟩
      · rcases ch with ⟨t0, t1⟩ | ⟨t0, t1⟩ <;> rw [t0] <;> decide
      · rcases ch with ⟨t0, t1⟩ | ⟨t0, t1⟩
        · exact absurd t0 z4
        · rcases g2 with g | g | g
          · omega
          · omega
          · exact ⟨5, _, by decide, hw (1 + i) (by omega) (by omega) _ t1 r1 s1 g1 g.1 g.2.2.2, fun _ _ k => k⟩
