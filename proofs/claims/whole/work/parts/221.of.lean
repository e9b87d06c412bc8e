/-! OPERATION: of -/
def PV (s : Sto) (od : Int → Int) (p i : Int) : Prop := ∃ pl : Int → Int, PlR (s 75 9) od pl ∧ 0 ≤ i ∧ i < s 75 4 ∧ (quS s pl).getD (s 75 4 - 1 - i).toNat 0 = p
theorem PV.uniq [Inhabited YT] {s : Sto} (h : Inv s) {o : Int} {od : Int → Int} (hO : OdR (s 75 9) o od) {p i i' : Int} (h1 : PV s od p i) (h2 : PV s od p i') : i = i' := by
  obtain ⟨pl, a1, a2, a3, a4⟩ := h1
  obtain ⟨pl', b1, b2, b3, b4⟩ := h2
  rw [(quS_uniq h hO b1 a1).2] at b4
  have hn := h.nms.1
  have R : RowR (fun i => (quS s pl).getD (s 75 4 - 1 - i).toNat 0) ((s 75 4).toNat : Nat) (quS s pl) := by
    rw [Int.toNat_of_nonneg hn.1]
    refine ⟨?_, fun i _ _ => rfl⟩
    unfold quS
    rw [srtL_len, Int.toNat_of_nonneg hn.1]
  exact RowR.inj (row := fun i => (quS s pl).getD (s 75 4 - 1 - i).toNat 0) R (i := i) (j := i') a2 (by omega) b2 (by omega) (a4.trans b4.symm)
theorem PV.congr {s t : Sto} {od : Int → Int} {p v : Int} (h1 : PV s od p v) (e : ∀ c : Nat, 76 ≤ c → c ≤ 86 → c ≠ 78 → c ≠ 81 → t c = s c) (e4 : t 75 4 = s 75 4) (e9 : t 75 9 = s 75 9) : PV t od p v := by
  unfold PV
  rw [quS_congr e e4 e9, e4, e9]
  exact h1
def OfR (s : Sto) (p w r : Int) : Prop := (¬ (0 ≤ p ∧ p < s 75 4) ∧ r = -1000000) ∨ ((0 ≤ p ∧ p < s 75 4) ∧ ((w = 0 ∧ r = s 78 p) ∨ (w = 1 ∧ r = s 79 p) ∨ (w = 2 ∧ r = s 80 p) ∨ (w = 3 ∧ r = s 76 p) ∨ (w = 4 ∧ PV s (fun k => begS s 81 (8 * 0 + k)) p r) ∨ ((10 ≤ w ∧ w ≤ 9 + s 76 p) ∧ r = s 77 (6 * p + (w - 10))) ∨ ((w < 0 ∨ 4 < w) ∧ ¬ (10 ≤ w ∧ w ≤ 9 + s 76 p) ∧ r = -1000000)))
theorem OfR.uniq [Inhabited YT] {s : Sto} (h : Inv s) {p w r r' : Int} (h1 : OfR s p w r) (h2 : OfR s p w r') {oo : Int} (hO : OdR (s 75 9) oo (fun k => begS s 81 (8 * 0 + k))) : r = r' := by
  have b := h.nms.2.1
  rcases h1 with h1 | ⟨h1, h3⟩
  · rcases h2 with h2 | h2
    · omega
    · exact absurd h2.1 h1.1
  · rcases h2 with h2 | ⟨h2, h4⟩
    · exact absurd h1 h2.1
    · have b := b p h1.1 h1.2
      rcases h3 with g | g | g | g | g | g | g <;> rcases h4 with k | k | k | k | k | k | k <;> first | omega | exact PV.uniq h hO g.2 k.2
theorem OfR.congr {s t : Sto} {p w r : Int} (h : OfR s p w r) (e : ∀ c : Nat, 76 ≤ c → c ≤ 86 → t c = s c) (e4 : t 75 4 = s 75 4) (e9 : t 75 9 = s 75 9) (e22 : t 75 22 = s 75 22) : OfR t p w r := by
  unfold OfR at *
  rw [e4, e 78 (by decide) (by decide), e 79 (by decide) (by decide), e 80 (by decide) (by decide), e 76 (by decide) (by decide), e 77 (by decide) (by decide), begS_81 e22 (e 81 (by decide) (by decide))]
  rcases h with h | ⟨h1, h⟩
  · exact Or.inl h
  · refine Or.inr ⟨h1, ?_⟩
    rcases h with g | g | g | g | g | g | g
    · exact Or.inl g
    · exact Or.inr (Or.inl g)
    · exact Or.inr (Or.inr (Or.inl g))
    · exact Or.inr (Or.inr (Or.inr (Or.inl g)))
    · exact Or.inr (Or.inr (Or.inr (Or.inr (Or.inl ⟨g.1, g.2.congr (fun c c1 c2 _ _ => e c c1 c2) e4 e9⟩))))
    · exact Or.inr (Or.inr (Or.inr (Or.inr (Or.inr (Or.inl g)))))
    · exact Or.inr (Or.inr (Or.inr (Or.inr (Or.inr (Or.inr g)))))
set_option maxHeartbeats 2000000 in
theorem op_of [Inhabited YT] {s : Sto} (h : Inv s) {p w : Int} (hp : rg p) (hw : rg w) : OpI MX11_of MX12_of [.inl p, .inl w] s := by
  obtain ⟨a1, a2, a3, a4, a5, a6, a7, a8, a9, a10, a11, a12, a13, a14, a15⟩ := h.2.1
  obtain ⟨b3, b10, b14⟩ := landB h
  obtain ⟨n1, n2, n3, n4, n5⟩ := h.nms
  have e1 : s 3 0 = s 75 9 := a1.1
  have e6 : s 5 0 = s 75 4 := a6.1
  rw [e1] at b3
  have od0 : OdR (s 75 9) (s 3 2) (fun k => begS s 81 (8 * 0 + k)) := b3.congr (fun k _ _ => by rw [show 8 * 0 + k = k by omega])
  refine ⟨3, 4, (fun r1 s1 => (∀ c : Nat, ¬ (47 ≤ c ∧ c ≤ 50) → s1 c = s c) ∧ rg r1 ∧ OfR s p w r1), by decide, by decide, ?_, ?_⟩
  · refine ClI.intro (by decide) rfl (Nat.le_of_ble_eq_true rfl) (fun X C r => ?_)
    refine kb_X11_of_0 C r ⟨0, _, by decide, t_X6_has hp ⟨by omega, by omega⟩, ?_⟩
    rintro q t ⟨ht, q1, q2⟩
    rw [ht]
    have nil : ∀ c : Nat, ¬ (47 ≤ c ∧ c ≤ 50) → s c = s c := fun _ _ => rfl
    refine ⟨⟨by omega, by omega⟩, fun z => ?_, fun z => ⟨nil, by decide, Or.inl ⟨by omega, rfl⟩⟩⟩
    have p1 : 0 ≤ p ∧ p < s 75 4 := by omega
    have nm : NmR (s 6 p) (s 76 p) (fun i => s 77 (6 * p + i)) := by
      have := a7 p p1.1 (by show p < s 5 0; omega)
      rw [Int.zero_add] at this
      exact this
    obtain ⟨g1, g2, g3⟩ := a8 p p1.1 (by show p < s 5 0; omega)
    have g1e : s 7 p = s 78 p := g1.1
    have g1b : s 7 p = 0 ∨ s 7 p = 1 := g1.2
    have g2e : s 8 p = s 79 p := g2.1
    have g2b : 0 ≤ s 8 p ∧ s 8 p ≤ 99 := g2.2
    have g3e : s 9 p = s 80 p := g3.1
    have g3b : rg (s 9 p) := g3.2
    have nb := n2 p p1.1 p1.2
    refine ⟨hw, fun k => ⟨⟨by omega, by omega⟩, 1, (fun r1 s1 => s1 = s ∧ rg r1 ∧ OfR s p w r1), by decide, ?_, ?_⟩, fun k => ⟨⟨by omega, by omega⟩, nil, ⟨by omega, by omega⟩, Or.inr ⟨p1, Or.inl ⟨k, g1e⟩⟩⟩, fun k => ⟨⟨by omega, by omega⟩, nil, ⟨by omega, by omega⟩, Or.inr ⟨p1, Or.inr (Or.inl ⟨k, g2e⟩)⟩⟩, fun k => ⟨⟨by omega, by omega⟩, nil, g3b, Or.inr ⟨p1, Or.inr (Or.inr (Or.inl ⟨k, g3e⟩))⟩⟩, fun k => ⟨⟨by omega, by omega⟩, 1, _, by decide, t_X5_nameLength nm, ?_⟩, fun k => ⟨2, _, by decide, t_line h od0, ?_⟩⟩
    · refine ClI.intro (by decide) rfl (Nat.le_of_ble_eq_true rfl) (fun X C r => ?_)
      refine kb_X11_letterOfName_0 C r ⟨hw, fun y => ⟨rfl, by decide, Or.inr ⟨p1, Or.inr (Or.inr (Or.inr (Or.inr (Or.inr (Or.inr ⟨k, by omega, rfl⟩)))))⟩⟩, fun y => ⟨hw, fun y2 => ⟨0, _, by decide, t_X5_nameLetter, ?_⟩, fun y2 => ⟨rfl, by decide, Or.inr ⟨p1, Or.inr (Or.inr (Or.inr (Or.inr (Or.inr (Or.inr ⟨k, by omega, rfl⟩)))))⟩⟩⟩⟩
      rintro l t ⟨rfl, hl⟩
      rw [nm.letter ⟨by omega, by omega⟩] at hl
      by_cases y3 : w - 10 < t 76 p
      · rw [if_pos y3] at hl
        have := nb.2 (w - 10) (by omega) y3
        refine ⟨⟨by omega, by omega⟩, fun _ => ⟨rfl, ⟨by omega, by omega⟩, Or.inr ⟨p1, Or.inr (Or.inr (Or.inr (Or.inr (Or.inr (Or.inl ⟨by omega, hl⟩)))))⟩⟩, fun y4 => absurd y4 (by omega)⟩
      · rw [if_neg y3] at hl
        refine ⟨⟨by omega, by omega⟩, fun y4 => absurd hl y4, fun y4 => ⟨rfl, by decide, Or.inr ⟨p1, Or.inr (Or.inr (Or.inr (Or.inr (Or.inr (Or.inr ⟨k, by omega, rfl⟩)))))⟩⟩⟩
    · rintro r1 s1 ⟨k1, k2⟩
      rw [k1]
      exact ⟨nil, k2⟩
    · rintro l t ⟨rfl, hl⟩
      exact ⟨fun _ _ => rfl, ⟨by omega, by omega⟩, Or.inr ⟨p1, Or.inr (Or.inr (Or.inr (Or.inl ⟨k, hl⟩)))⟩⟩
    · rintro u ⟨u1, pl, u2, u3, u4, u5, u6⟩
      have u5' : RowR (u 49) ((s 75 4).toNat : Nat) (quS s pl) := by rw [Int.toNat_of_nonneg n1.1]; exact u5
      obtain ⟨i, i1, i2, i3⟩ := u5'.onto (p := p) p1.1 (by omega)
      have e50 : u 50 p = i := by rw [← i3]; exact u6 i i1 (by omega)
      rw [e50]
      refine ⟨⟨by omega, by omega⟩, fun c hc => u1 c (by omega) (by omega) (by omega) (by omega), ⟨by omega, by omega⟩, Or.inr ⟨p1, Or.inr (Or.inr (Or.inr (Or.inr (Or.inl ⟨k, pl, u2, i1, by omega, ?_⟩))))⟩⟩
      rw [← u5.2 i i1 (by omega)]; exact i3
  · rintro r1 s1 ⟨g1, g2, g3⟩
    have i1 : Inv s1 := h.scr (fun c j hc => by rw [g1 c (by unfold pers perM at hc; omega)])
    have i2 := i1.told 0
    have e75 : ∀ j : Int, j ≠ 0 → up s1 75 0 0 75 j = s 75 j := fun j hj => by rw [up_idx hj, g1 75 (by decide)]
    have ec : ∀ c : Nat, c ≠ 75 → ¬ (47 ≤ c ∧ c ≤ 50) → up s1 75 0 0 c = s c := fun c c1 c2 => by rw [up_row c1, g1 c c2]
    have e81 : begS (up s1 75 0 0) 81 = begS s 81 := begS_81 (e75 22 (by decide)) (ec 81 (by decide) (by decide))
    have g4 : OfR (up s1 75 0 0) p w r1 := g3.congr (fun c c1 c2 => ec c (by omega) (by omega)) (e75 4 (by decide)) (e75 9 (by decide)) (e75 22 (by decide))
    have hO : OdR (up s1 75 0 0 75 9) (s 3 2) (fun k => begS (up s1 75 0 0) 81 (8 * 0 + k)) := by rw [e75 9 (by decide), e81]; exact od0
    refine ⟨g2, ClI.mono (Q := fun r2 s2 => Inv s2 ∧ OfR (up s1 75 0 0) p w r2) ?_ (fun r2 s2 k => ⟨OfR.uniq i2 k.2 g4 hO, k.1⟩)⟩
    generalize hu : up s1 75 0 0 = u at i2 hO
    obtain ⟨n1, n2, n3, n4, n5⟩ := i2.nms
    refine ClI.intro (by decide) rfl (Nat.le_of_ble_eq_true rfl) (fun X C r => ?_)
    refine kb_X12_of_0 C r ?_
    rintro t rfl
    rw [hu]
    refine ⟨0, _, by decide, t_X12_isOne hp ⟨by omega, by omega⟩, ?_⟩
    rintro q t ⟨ht, q1, q2⟩
    rw [ht]
    refine ⟨⟨by omega, by omega⟩, fun z => ?_, fun z => ⟨i2, Or.inl ⟨by omega, rfl⟩⟩⟩
    have p1 : 0 ≤ p ∧ p < u 75 4 := by omega
    have nb := n2 p p1.1 p1.2
    refine ⟨hw, fun w0 => ⟨hw, fun w1 => ⟨hw, fun w2 => ⟨hw, fun w3 => ⟨hw, fun w4 => ⟨3, _, by decide, t_X12_queues i2.2.2.2.2.1 (by decide) hO n1 n2 n4 n5 n3, ?_⟩, fun w4 => ⟨⟨by omega, by omega⟩, 0, _, by decide, t_X12_isIn hw (by decide) ⟨by omega, by omega⟩, ?_⟩⟩, fun w3 => ⟨⟨by omega, by omega⟩, i2, Or.inr ⟨p1, Or.inr (Or.inr (Or.inr (Or.inl ⟨w3, rfl⟩)))⟩⟩⟩, fun w2 => ⟨⟨by omega, by omega⟩, i2, Or.inr ⟨p1, Or.inr (Or.inr (Or.inl ⟨w2, rfl⟩))⟩⟩⟩, fun w1 => ⟨⟨by omega, by omega⟩, i2, Or.inr ⟨p1, Or.inr (Or.inl ⟨w1, rfl⟩)⟩⟩⟩, fun w0 => ⟨⟨by omega, by omega⟩, i2, Or.inr ⟨p1, Or.inl ⟨w0, rfl⟩⟩⟩⟩
    · rintro v ⟨v1, v2, v3⟩
      have v3' : RowR (v 102) ((u 75 4).toNat : Nat) (quS u (v 101)) := by rw [Int.toNat_of_nonneg n1.1]; exact v3
      obtain ⟨i, j1, j2, j3⟩ := v3'.onto (p := p) p1.1 (by omega)
      refine downI (P := fun k => G LY X 116 [rv 75, iv p, iv w, iv k] [] v) (a := 0) (b := i) j1 ?_ ?_
      · refine kb_X12_of_116 C r ⟨⟨by omega, by omega⟩, ?_⟩
        rw [j3]
        refine ⟨⟨hp, hp⟩, fun _ => ⟨i2.beg.scr (fun c j hc => by rw [v1 c (by unfold pers perM at hc; omega) (by unfold pers perM at hc; omega)]), Or.inr ⟨p1, Or.inr (Or.inr (Or.inr (Or.inr (Or.inl ⟨w4, v 101, v2, j1, by omega, ?_⟩))))⟩⟩, fun z => absurd rfl z⟩
        have := v3.2 i j1 (by omega)
        rw [j3] at this
        exact this.symm
      · intro k k1 k2 ih
        have bb := v3'.bd k1 (show k < ((u 75 4).toNat : Nat) by omega)
        exact kb_X12_of_116 C r ⟨⟨by omega, by omega⟩, ⟨⟨by omega, by omega⟩, hp⟩, fun y => absurd (v3'.inj k1 (by omega) j1 (by omega) (y.trans j3.symm)) (by omega), fun _ => ih⟩
    · rintro y t ⟨ht, y1, y2⟩
      rw [ht]
      refine ⟨⟨by omega, by omega⟩, fun y3 => ⟨i2, Or.inr ⟨p1, Or.inr (Or.inr (Or.inr (Or.inr (Or.inr (Or.inr ⟨by omega, by omega, rfl⟩)))))⟩⟩, fun y3 => ⟨⟨by omega, by omega⟩, i2, Or.inr ⟨p1, Or.inr (Or.inr (Or.inr (Or.inr (Or.inr (Or.inl ⟨by omega, by rw [show 6 * p + w - 10 = 6 * p + (w - 10) by omega]⟩)))))⟩⟩⟩
