/-! WORTH WITH ANOTHER NAME, in the reference -/
def NMS (s : Sto) : Prop := (0 ≤ s 75 4 ∧ s 75 4 ≤ 20) ∧ (∀ p : Int, 0 ≤ p → p < s 75 4 → (0 ≤ s 76 p ∧ s 76 p ≤ 6) ∧ ∀ i : Int, 0 ≤ i → i < s 76 p → 0 ≤ s 77 (6 * p + i) ∧ s 77 (6 * p + i) < 26) ∧ (∀ p : Int, 0 ≤ p → p < s 75 4 → rg (s 79 p) ∧ rg (s 80 p)) ∧ (0 ≤ s 82 0 ∧ s 82 0 ≤ 2) ∧ (0 ≤ s 82 1 ∧ s 82 1 ≤ 2)
def STS (s : Sto) : Prop := ∀ j : Int, 0 ≤ j → j < 6 → (s 83 j = 0 ∨ s 83 j = 1) ∧ (-99 ≤ s 84 j ∧ s 84 j ≤ 99) ∧ (0 ≤ s 85 j ∧ s 85 j ≤ 99) ∧ (0 ≤ s 86 j ∧ s 86 j ≤ 20)
theorem t_worthOfN {s : Sto} (hb : s 75 22 = 0 ∨ s 75 22 = 1) (hm : NMS s) (hs : STS s) {o p oo : Int} (ho : 0 ≤ o ∧ o < 21) (hO : OdR (s 75 9) oo (fun i => begS s 81 (8 * o + i))) (hp : 0 ≤ p ∧ p < s 75 4) : ClI LY 5 MX12_worthOf [.inr 75, .inl p, .inl o] s (fun r s' => (∀ c : Nat, c ≠ 101 → c ≠ 102 → c ≠ 103 → s' c = begS s c) ∧ WV s (fun i => begS s 81 (8 * o + i)) p r) := by
  refine ClI.intro (by decide) rfl (Nat.le_of_ble_eq_true rfl) (fun X C r => ?_)
  obtain ⟨n1, n2, n3, n4, n5⟩ := hm
  refine kb_X12_worthOf_0 C r ⟨4, _, by decide, t_X12_findsWorths hb ho hO n1 n2 n4 n5 n3 hs, ?_⟩
  rintro w ⟨w1, w2, w3, w4⟩
  refine ⟨⟨by omega, by omega⟩, w1, w 101, ?_⟩
  have w5' : RowR (w 102) ((s 75 4).toNat : Nat) (quS s (w 101)) := by rw [Int.toNat_of_nonneg n1.1]; exact w3
  obtain ⟨i, i1, i2, i3⟩ := w5'.onto (p := p) hp.1 (by omega)
  refine ⟨i, w2, i1, by omega, ?_, ?_⟩
  · have := w3.2 i i1 (by omega)
    rw [i3] at this
    exact this.symm
  · rw [← i3]
    exact w4 i i1 (by omega)
theorem sqS_dgs {s : Sto} (hm : NMS s) {o : Int} {od pl : Int → Int} (hO : OdR (s 75 9) o od) (hP : PlR (s 75 9) od pl) {p : Int} (h0 : 0 ≤ p) (h1 : p < s 75 4) : dgs (sqS s pl p) ∧ (sqS s pl p).length ≤ 6 := by
  obtain ⟨n1, n2, n3, n4, n5⟩ := hm
  have g := n2 p h0 h1
  have := sfx_dgs (rk := rkF (s 75 9) (s 82 0) pl) (f := fun i => s 77 (6 * p + i)) (n := s 76 p) (fun k k1 k2 => rk_bd hO.1 (fun z => hP.bd hO (g.2 k k1 k2).1 z) (g.2 k k1 k2)) (s 76 p).toNat (by omega)
  exact ⟨this.1, Nat.le_trans this.2 (by omega)⟩
/-- WORTH by the number of those ahead -/
theorem WV.cnt {s : Sto} (hm : NMS s) {o : Int} {od : Int → Int} (hO : OdR (s 75 9) o od) {p v : Int} (h : WV s od p v) : ∃ pl : Int → Int, PlR (s 75 9) od pl ∧ v = psm (s 83) (s 84) (s 85) (s 86) (s 75 4) (cntI (fun q => q ≠ p ∧ KR (fun q => keyN 6 (sqS s pl q)) (s 82 1) (s 79) (s 80) q p) (s 75 4).toNat) 6 := by
  obtain ⟨pl, i, a1, a2, a3, a4, a5⟩ := h
  have n1 := hm.1
  refine ⟨pl, a1, ?_⟩
  have e : quS s pl = srtL (KR (fun q => keyN 6 (sqS s pl q)) (s 82 1) (s 79) (s 80)) (s 75 4).toNat := by
    refine srtL_congr _ (fun x y x1 x2 y1 y2 => ?_)
    have dx := sqS_dgs hm hO a1 x1 (by omega)
    have dy := sqS_dgs hm hO a1 y1 (by omega)
    have := keyN_lt 6 _ _ dx.1 dy.1 dx.2 dy.2
    unfold AHR KR
    rw [this.1, this.2]
  rw [e] at a4
  have := place_cnt (key := fun q => keyN 6 (sqS s pl q)) (ag := s 79) (co := s 80) (w := s 82 1) (n := (s 75 4).toNat) (i := i) (p := p) hm.2.2.2.2 a2 (by omega) (by rw [Int.toNat_of_nonneg n1.1]; exact a4)
  rw [← this]
  exact a5
/-- NAME a put in place b -/
def mvN (s : Sto) (a b : Int) : Sto := fillR (up s 76 b (s 76 a)) 77 (6 * b) 6 (fun i => s 77 (6 * a + i))
theorem mvN_o {s : Sto} {a b : Int} {c : Nat} (h1 : c ≠ 76) (h2 : c ≠ 77) : mvN s a b c = s c := by
  unfold mvN
  rw [fillR_row h2, up_row h1]
theorem mvN_76 {s : Sto} {a b : Int} : mvN s a b 76 = fun i => if i = b then s 76 a else s 76 i := by
  funext i
  unfold mvN
  rw [fillR_row (by decide), up_if]
theorem mvN_77 {s : Sto} {a b : Int} : mvN s a b 77 = fun i => if 6 * b ≤ i ∧ i < 6 * b + 6 then s 77 (6 * a + (i - 6 * b)) else s 77 i := by
  funext i
  unfold mvN
  by_cases q : 6 * b ≤ i ∧ i < 6 * b + 6
  · rw [fillR_in q, if_pos q]
  · rw [fillR_out q, if_neg q, up_row (by decide)]
theorem NMS.mv {s : Sto} (h : NMS s) {a b : Int} (ha : (0 ≤ s 76 a ∧ s 76 a ≤ 6) ∧ ∀ i : Int, 0 ≤ i → i < s 76 a → 0 ≤ s 77 (6 * a + i) ∧ s 77 (6 * a + i) < 26) : NMS (mvN s a b) := by
  obtain ⟨n1, n2, n3, n4, n5⟩ := h
  unfold NMS
  rw [mvN_o (c := 75) (by decide) (by decide), mvN_o (c := 79) (by decide) (by decide), mvN_o (c := 80) (by decide) (by decide), mvN_o (c := 82) (by decide) (by decide), mvN_76, mvN_77]
  refine ⟨n1, fun p p1 p2 => ?_, n3, n4, n5⟩
  have g := n2 p p1 p2
  show (0 ≤ (if p = b then s 76 a else s 76 p) ∧ (if p = b then s 76 a else s 76 p) ≤ 6) ∧ ∀ i : Int, 0 ≤ i → i < (if p = b then s 76 a else s 76 p) → 0 ≤ (if 6 * b ≤ 6 * p + i ∧ 6 * p + i < 6 * b + 6 then s 77 (6 * a + (6 * p + i - 6 * b)) else s 77 (6 * p + i)) ∧ (if 6 * b ≤ 6 * p + i ∧ 6 * p + i < 6 * b + 6 then s 77 (6 * a + (6 * p + i - 6 * b)) else s 77 (6 * p + i)) < 26
  by_cases q : p = b
  · rw [if_pos q]
    refine ⟨ha.1, fun i i1 i2 => ?_⟩
    rw [if_pos (by omega), show 6 * a + (6 * p + i - 6 * b) = 6 * a + i by omega]
    exact ha.2 i i1 i2
  · rw [if_neg q]
    refine ⟨g.1, fun i i1 i2 => ?_⟩
    rw [if_neg (by omega)]
    exact g.2 i i1 i2
set_option maxHeartbeats 4000000 in
theorem t_X12_worthWith {s : Sto} (hb : s 75 22 = 0 ∨ s 75 22 = 1) (hm : NMS s) (hs : STS s) {p a oo : Int} (ha : 20 ≤ a ∧ a < 51) (hna : (0 ≤ s 76 a ∧ s 76 a ≤ 6) ∧ ∀ i : Int, 0 ≤ i → i < s 76 a → 0 ≤ s 77 (6 * a + i) ∧ s 77 (6 * a + i) < 26) (hO : OdR (s 75 9) oo (fun i => begS s 81 (8 * 0 + i))) (hp : 0 ≤ p ∧ p < s 75 4) : ClI LY 6 MX12_worthWith [.inr 75, .inl p, .inl a] s (fun r s' => (∀ c : Nat, c ≠ 101 → c ≠ 102 → c ≠ 103 → c ≠ 106 → s' c = begS s c) ∧ WV (mvN s a p) (fun i => begS s 81 (8 * 0 + i)) p r) := by
  have n1 := hm.1
  refine ClI.intro (by decide) rfl (Nat.le_of_ble_eq_true rfl) (fun X C r => ?_)
  refine kb_X12_worthWith_0 C r ⟨⟨by omega, by omega⟩, ?_⟩
  suffices H : ∀ S : Sto, ((∀ c : Nat, c ≠ 106 → S c = s c) ∧ ∀ j : Int, 0 ≤ j → j < 0 → S 106 j = s 77 (6 * p + j)) → G LY X 10 [rv 75, iv p, iv a, iv (s 76 p), iv 0, none] [] S from H s ⟨fun _ _ => rfl, fun j j1 j2 => absurd j2 (by omega)⟩
  refine downI (P := fun k => ∀ S : Sto, ((∀ c : Nat, c ≠ 106 → S c = s c) ∧ ∀ j : Int, 0 ≤ j → j < k → S 106 j = s 77 (6 * p + j)) → G LY X 10 [rv 75, iv p, iv a, iv (s 76 p), iv k, none] [] S) (a := 0) (b := 6) (by decide) ?_ ?_
  · rintro S ⟨k1, k2⟩
    refine kb_X12_worthWith_10 C r ⟨by decide, fun _ => ⟨0, _, by decide, t_X12_movesName (by omega) (by omega) (by omega), ?_⟩, fun z => absurd z (by decide)⟩
    rintro s1 hs1
    have hs1 : s1 = mvN S a p := hs1
    have q76 : s1 76 = mvN s a p 76 := by rw [hs1, mvN_76, mvN_76, k1 76 (by decide)]
    have q77 : s1 77 = mvN s a p 77 := by rw [hs1, mvN_77, mvN_77, k1 77 (by decide)]
    have qo : ∀ c : Nat, c ≠ 76 → c ≠ 77 → c ≠ 106 → s1 c = s c := fun c c1 c2 c3 => by rw [hs1, mvN_o c1 c2, k1 c c3]
    have qa : ∀ c : Nat, c ≠ 106 → s1 c = mvN s a p c := fun c c3 => by
      by_cases c1 : c = 76
      · rw [c1]; exact q76
      · by_cases c2 : c = 77
        · rw [c2]; exact q77
        · rw [qo c c1 c2 c3, mvN_o c1 c2]
    have q75 := qo 75 (by decide) (by decide) (by decide)
    have m1 : NMS s1 := by
      have := hm.mv (b := p) hna
      unfold NMS at this ⊢
      rw [qa 75 (by decide), qa 76 (by decide), qa 77 (by decide), qa 79 (by decide), qa 80 (by decide), qa 82 (by decide)]
      exact this
    have m2 : STS s1 := by
      unfold STS at *
      rw [qo 83 (by decide) (by decide) (by decide), qo 84 (by decide) (by decide) (by decide), qo 85 (by decide) (by decide) (by decide), qo 86 (by decide) (by decide) (by decide)]
      exact hs
    have e81 : begS s1 81 = begS s 81 := begS_81 (by rw [q75]) (qo 81 (by decide) (by decide) (by decide))
    refine ⟨5, _, by decide, t_worthOfN (o := 0) (oo := oo) (by rw [q75]; exact hb) m1 m2 (by decide) (by rw [q75, e81]; exact hO) (by rw [q75]; exact hp), ?_⟩
    rintro v s2 ⟨w1, w2⟩
    refine ⟨⟨by omega, by omega⟩, ?_⟩
    rintro s3 hs3
    have w3 : WV (mvN s a p) (fun i => begS s 81 (8 * 0 + i)) p v := by
      rw [e81] at w2
      exact w2.congr (fun c c1 c2 _ _ => (qa c (by omega)).symm) (by rw [qa 75 (by decide)]) (by rw [qa 75 (by decide)])
    have t106 : s3 106 = S 106 := by rw [hs3, up_row (by decide), w1 106 (by decide) (by decide) (by decide), begS_row (by decide) (by decide), hs1, mvN_o (by decide) (by decide)]
    have t77 : s3 77 = mvN s a p 77 := by rw [hs3, up_row (by decide), w1 77 (by decide) (by decide) (by decide), begS_row (by decide) (by decide), q77]
    have t76 : s3 76 = s 76 := by
      funext j
      rw [hs3, up_if, w1 76 (by decide) (by decide) (by decide), begS_row (by decide) (by decide), q76, mvN_76]
      by_cases z : j = p
      · rw [if_pos z, z]
      · rw [if_neg z]; exact if_neg z
    have to : ∀ c : Nat, c ≠ 76 → c ≠ 77 → c ≠ 101 → c ≠ 102 → c ≠ 103 → c ≠ 106 → s3 c = begS s c := by
      intro c c1 c2 c3 c4 c5 c6
      rw [hs3, up_row c1, w1 c c3 c4 c5]
      by_cases c7 : c = 75
      · rw [c7]
        funext j
        by_cases z : j = 22
        · rw [z, begS_22 hb, begS_22 (by rw [q75]; exact hb)]
        · rw [begS_75 z, begS_75 z, q75]
      · by_cases c8 : c = 81
        · rw [c8, e81]
        · rw [begS_row c7 c8, begS_row c7 c8, qo c c1 c2 c6]
    suffices H2 : ∀ T : Sto, ((∀ c : Nat, c ≠ 77 → T c = s3 c) ∧ ∀ j : Int, T 77 j = if 6 * p ≤ j ∧ j < 6 * p + 0 then s 77 j else mvN s a p 77 j) → G LY X 66 [rv 75, iv p, iv a, iv (s 76 p), iv v, iv 0] [] T from H2 s3 ⟨fun _ _ => rfl, fun j => by rw [if_neg (by omega), t77]⟩
    refine downI (P := fun k => ∀ T : Sto, ((∀ c : Nat, c ≠ 77 → T c = s3 c) ∧ ∀ j : Int, T 77 j = if 6 * p ≤ j ∧ j < 6 * p + k then s 77 j else mvN s a p 77 j) → G LY X 66 [rv 75, iv p, iv a, iv (s 76 p), iv v, iv k] [] T) (a := 0) (b := 6) (by decide) ?_ ?_
    · rintro T ⟨x1, x2⟩
      refine kb_X12_worthWith_66 C r ⟨by decide, fun _ => ⟨fun c c3 c4 c5 c6 => ?_, w3⟩, fun z => absurd z (by decide)⟩
      by_cases c1 : c = 76
      · rw [c1, x1 76 (by decide), t76, begS_row (by decide) (by decide)]
      · by_cases c2 : c = 77
        · rw [c2, begS_row (by decide) (by decide)]
          funext j
          rw [x2 j, mvN_77]
          by_cases z : 6 * p ≤ j ∧ j < 6 * p + 6
          · rw [if_pos z]
          · rw [if_neg z]; exact if_neg z
        · rw [x1 c c2, to c c1 c2 c3 c4 c5 c6]
    · rintro k k0 k6 ih T ⟨x1, x2⟩
      refine kb_X12_worthWith_66 C r ⟨⟨by omega, by omega⟩, fun z => absurd z (by omega), fun _ => ⟨⟨by omega, by omega⟩, ⟨by omega, by omega⟩, ?_⟩⟩
      rintro t rfl
      refine ih _ ⟨fun c c1 => by rw [up_row c1, x1 c c1], fun j => ?_⟩
      rw [up_if, x1 106 (by decide), t106, k2 k k0 k6, x2 j]
      by_cases z : j = 6 * p + k
      · rw [if_pos z, if_pos (by omega), z]
      · rw [if_neg z]
        by_cases z2 : 6 * p ≤ j ∧ j < 6 * p + k
        · rw [if_pos z2, if_pos (by omega)]
        · rw [if_neg z2, if_neg (by omega)]
  · rintro k k0 k6 ih S ⟨k1, k2⟩
    refine kb_X12_worthWith_10 C r ⟨⟨by omega, by omega⟩, fun z => absurd z (by omega), fun _ => ⟨⟨by omega, by omega⟩, ⟨by omega, by omega⟩, ?_⟩⟩
    rintro t rfl
    refine ih _ ⟨fun c c1 => by rw [up_row c1, k1 c c1], fun j j1 j2 => ?_⟩
    rw [up_if]
    by_cases z : j = k
    · rw [if_pos z, k1 77 (by decide), z]
    · rw [if_neg z, k2 j j1 (by omega)]
