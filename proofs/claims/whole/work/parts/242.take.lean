/-! OPERATION: take -/
def tkS (s : Sto) (p i v : Int) : Sto := mvN (up (up (up s 6 p (s 13 i)) 9 p v) 80 p v) (20 + i) p
theorem Inv.market [Inhabited YT] {s : Sto} (h : Inv s) {i : Int} (hi : 0 ≤ i ∧ i < s 75 8) : NmR (s 13 i) (s 76 (20 + i)) (fun k => s 77 (6 * (20 + i) + k)) ∧ i < 10 := by
  obtain ⟨a1, a2, a3, a4, a5, a6, a7, a8, a9, a10, a11, a12, a13, a14, a15⟩ := h.2.1
  have e9 : s 3 9 = s 75 8 := a11.1
  have b9 : 0 ≤ s 3 9 ∧ s 3 9 ≤ 10 := a11.2
  exact ⟨a12 i hi.1 (by show i < s 3 9; omega), by omega⟩
theorem Inv.names [Inhabited YT] {s : Sto} (h : Inv s) {p : Int} (hp : 0 ≤ p ∧ p < s 75 4) : NmR (s 6 p) (s 76 p) (fun k => s 77 (6 * p + k)) := by
  obtain ⟨a1, a2, a3, a4, a5, a6, a7, a8, a9, a10, a11, a12, a13, a14, a15⟩ := h.2.1
  have e6 : s 5 0 = s 75 4 := a6.1
  have g := a7 p hp.1 (by show p < s 5 0; omega)
  rw [Int.zero_add] at g
  exact g
theorem Inv.tk [Inhabited YT] {s : Sto} (h : Inv s) {p i v : Int} (hp : 0 ≤ p ∧ p < s 75 4) (hi : 0 ≤ i ∧ i < s 75 8) (hv : rg v) : Inv (tkS s p i v) := by
  have mk := h.market hi
  have n1 := h.nms.1
  obtain ⟨a1, a2, a3, a4, a5, a6, a7, a8, a9, a10, a11, a12, a13, a14, a15⟩ := h.2.1
  have h20 : s (3 + 2) 0 = s 75 4 := a6.1
  have w : ∀ x : Nat, x ≠ 6 → x ≠ 9 → x ≠ 76 → x ≠ 77 → x ≠ 80 → tkS s p i v x = s x := fun x g1 g2 g3 g4 g5 => by
    unfold tkS
    rw [mvN_o g3 g4, up_row g5, up_row g2, up_row g1]
  have w6 : ∀ j : Int, tkS s p i v 6 j = if j = p then s 13 i else s 6 j := fun j => by
    unfold tkS
    rw [mvN_o (by decide) (by decide), up_row (by decide), up_row (by decide), up_if]
  have w9 : ∀ j : Int, tkS s p i v 9 j = if j = p then v else s 9 j := fun j => by
    unfold tkS
    rw [mvN_o (by decide) (by decide), up_row (by decide), up_if, up_row (by decide)]
  have w80 : ∀ j : Int, tkS s p i v 80 j = if j = p then v else s 80 j := fun j => by
    unfold tkS
    rw [mvN_o (by decide) (by decide), up_if, up_row (by decide), up_row (by decide)]
  have y76 : (up (up (up s 6 p (s 13 i)) 9 p v) 80 p v) 76 = s 76 := by rw [up_row (by decide), up_row (by decide), up_row (by decide)]
  have y77 : (up (up (up s 6 p (s 13 i)) 9 p v) 80 p v) 77 = s 77 := by rw [up_row (by decide), up_row (by decide), up_row (by decide)]
  have w76 : ∀ j : Int, tkS s p i v 76 j = if j = p then s 76 (20 + i) else s 76 j := fun j => by
    unfold tkS
    rw [mvN_76, y76]
  have w77 : ∀ j : Int, tkS s p i v 77 j = if 6 * p ≤ j ∧ j < 6 * p + 6 then s 77 (6 * (20 + i) + (j - 6 * p)) else s 77 j := fun j => by
    unfold tkS
    rw [mvN_77, y77]
  generalize tkS s p i v = z at *
  have r : ∀ x : Nat, x ≠ 6 → x ≠ 9 → x ≠ 76 → x ≠ 77 → x ≠ 80 → z x = s x := w
  refine h.land ?_ ?_ (fun x j g1 g2 g3 => by rw [r x (by omega) (by omega) (by unfold pers perM at *; omega) (by unfold pers perM at *; omega) (by unfold pers perM at *; omega)])
  · unfold LandR
    rw [r 3 (by decide) (by decide) (by decide) (by decide) (by decide), r (3 + 1) (by decide) (by decide) (by decide) (by decide) (by decide), r (3 + 2) (by decide) (by decide) (by decide) (by decide) (by decide), r (3 + 4) (by decide) (by decide) (by decide) (by decide) (by decide), r (3 + 5) (by decide) (by decide) (by decide) (by decide) (by decide), r (3 + 7) (by decide) (by decide) (by decide) (by decide) (by decide), r (3 + 8) (by decide) (by decide) (by decide) (by decide) (by decide), r (3 + 9) (by decide) (by decide) (by decide) (by decide) (by decide), r (3 + 10) (by decide) (by decide) (by decide) (by decide) (by decide), r (3 + 11) (by decide) (by decide) (by decide) (by decide) (by decide), r (3 + 12) (by decide) (by decide) (by decide) (by decide) (by decide), r (3 + 13) (by decide) (by decide) (by decide) (by decide) (by decide), r (3 + 14) (by decide) (by decide) (by decide) (by decide) (by decide), r (3 + 15) (by decide) (by decide) (by decide) (by decide) (by decide), r (3 + 16) (by decide) (by decide) (by decide) (by decide) (by decide), r (3 + 17) (by decide) (by decide) (by decide) (by decide) (by decide)]
    rw [r 75 (by decide) (by decide) (by decide) (by decide) (by decide), r 78 (by decide) (by decide) (by decide) (by decide) (by decide), r 79 (by decide) (by decide) (by decide) (by decide) (by decide), r 81 (by decide) (by decide) (by decide) (by decide) (by decide), r 82 (by decide) (by decide) (by decide) (by decide) (by decide), r 83 (by decide) (by decide) (by decide) (by decide) (by decide), r 84 (by decide) (by decide) (by decide) (by decide) (by decide), r 85 (by decide) (by decide) (by decide) (by decide) (by decide), r 86 (by decide) (by decide) (by decide) (by decide) (by decide), r 87 (by decide) (by decide) (by decide) (by decide) (by decide), r 88 (by decide) (by decide) (by decide) (by decide) (by decide), r 89 (by decide) (by decide) (by decide) (by decide) (by decide), r 90 (by decide) (by decide) (by decide) (by decide) (by decide), r 93 (by decide) (by decide) (by decide) (by decide) (by decide), r 94 (by decide) (by decide) (by decide) (by decide) (by decide), r 95 (by decide) (by decide) (by decide) (by decide) (by decide), r 96 (by decide) (by decide) (by decide) (by decide) (by decide), r 97 (by decide) (by decide) (by decide) (by decide) (by decide)]
    have b20 : s (3 + 2) 0 ≤ 20 := a6.2.2
    have b9 : s 3 9 ≤ 10 := a11.2.2
    have w76' : ∀ j : Int, 0 ≤ j → j < 30 → j ≠ p → z 76 j = s 76 j := fun j _ _ g => by rw [w76, if_neg g]
    have w77' : ∀ j : Int, 0 ≤ j → j < 180 → ¬ (6 * p ≤ j ∧ j < 6 * p + 6) → z 77 j = s 77 j := fun j _ _ g => by rw [w77, if_neg g]
    refine ⟨a1, a2, a3, a4, a5, a6, ?_, fun x x0 x1 => ?_, a9, a10, a11, ?_, a13, a14, a15⟩
    · refine a7.put (q := p) (j := p) (by omega) (Or.inl rfl) (by omega) (by omega) w76' w77' (fun j g => by show z 6 j = s 6 j; rw [w6, if_neg g]) ?_
      show NmR (z 6 p) _ _
      rw [w6, if_pos rfl]
      refine mk.1.congr (by rw [w76, if_pos rfl]) (fun k k0 k1 => ?_)
      have := mk.1.1
      show z 77 (6 * p + k) = s 77 (6 * (20 + i) + k)
      rw [w77, if_pos (by omega), show 6 * p + k - 6 * p = k by omega]
    · obtain ⟨g1, g2, g3⟩ := a8 x x0 x1
      refine ⟨g1, g2, ?_⟩
      show z 9 x = z 80 x ∧ rg (z 9 x)
      rw [w9, w80]
      by_cases q : x = p
      · rw [if_pos q, if_pos q]; exact ⟨rfl, hv⟩
      · rw [if_neg q, if_neg q]; exact g3
    · exact a12.out (q := p) (by omega) (by omega) (by omega) w76' w77'
  · rw [r 75 (by decide) (by decide) (by decide) (by decide) (by decide)]
    exact h.2.2.2.2.1
def tkC (s : Sto) (od : Int → Int) (p i : Int) : Prop := (0 ≤ p ∧ p < s 75 4) ∧ (0 ≤ i ∧ i < s 75 8) ∧ feF s p (20 + i) ≤ s 80 p ∧ okF s od p (20 + i) (wvF s od p) ≠ 0
set_option maxHeartbeats 4000000 in
theorem t_X11_take [Inhabited YT] {s : Sto} (h : Inv s) {p i : Int} (hp : rg p) (hi : rg i) : ClI LY 4 MX11_take [.inr 0, .inl p, .inl i] s (fun r s' => (∀ c : Nat, c ≠ 6 → c ≠ 9 → ¬ (47 ≤ c ∧ c ≤ 55) → s' c = s c) ∧ ((¬ tkC s (fun k => begS s 81 (8 * 0 + k)) p i ∧ r = -1 ∧ s' 6 = s 6 ∧ s' 9 = s 9) ∨ (tkC s (fun k => begS s 81 (8 * 0 + k)) p i ∧ r = feF s p (20 + i) ∧ s' 6 = up s 6 p (s 13 i) 6 ∧ s' 9 = up s 9 p (s 80 p - feF s p (20 + i)) 9))) := by
  obtain ⟨a1, a2, a3, a4, a5, a6, a7, a8, a9, a10, a11, a12, a13, a14, a15⟩ := h.2.1
  have e6 : s 5 0 = s 75 4 := a6.1
  have b6 : 0 ≤ s 5 0 ∧ s 5 0 ≤ 20 := a6.2
  have e9 : s 3 9 = s 75 8 := a11.1
  have b9 : 0 ≤ s 3 9 ∧ s 3 9 ≤ 10 := a11.2
  have lr := h.lr
  generalize hod : (fun k => begS s 81 (8 * 0 + k)) = od at lr ⊢
  have nil : ∀ c : Nat, c ≠ 6 → c ≠ 9 → ¬ (47 ≤ c ∧ c ≤ 55) → s c = s c := fun _ _ _ _ => rfl
  refine ClI.intro (by decide) rfl (Nat.le_of_ble_eq_true rfl) (fun X C r => ?_)
  refine kb_X11_take_0 C r ⟨0, _, by decide, t_X6_has hp ⟨by omega, by omega⟩, ?_⟩
  rintro q t ⟨ht, q1, q2⟩
  rw [ht]
  refine ⟨⟨by omega, by omega⟩, fun z => ⟨nil, Or.inl ⟨fun q => by have := q.1; omega, rfl, rfl, rfl⟩⟩, fun z => ⟨hi, fun z2 => ⟨nil, Or.inl ⟨fun q => by have := q.2.1; omega, rfl, rfl, rfl⟩⟩, fun z2 => ⟨⟨hi, ⟨by omega, by omega⟩⟩, fun z3 => ⟨⟨by omega, by omega⟩, ⟨by omega, by omega⟩, ?_⟩, fun z3 => ⟨nil, Or.inl ⟨fun q => by have := q.2.1; omega, rfl, rfl, rfl⟩⟩⟩⟩⟩
  have hpp : 0 ≤ p ∧ p < s 75 4 := by omega
  have hii : 0 ≤ i ∧ i < s 75 8 := by omega
  have hA := h.names hpp
  have hB := (h.market hii).1
  have pc : s 9 p = s 80 p ∧ rg (s 9 p) := (a8 p hpp.1 (by show p < s 5 0; omega)).2.2
  refine ⟨2, _, by decide, t_fee lr hA hB, ?_⟩
  rintro fe u ⟨u1, u2⟩
  have bf := feF_bd lr.fes hA.nb hB.nb
  rw [← u2] at bf
  rw [u1 9 (by decide)]
  refine ⟨⟨by omega, by omega⟩, ⟨pc.2, ⟨by omega, by omega⟩⟩, fun z4 => ⟨fun c _ _ c3 => u1 c (by omega), Or.inl ⟨fun q => by have := q.2.2.1; omega, rfl, u1 6 (by decide), rfl⟩⟩, fun z4 => ?_⟩
  have iu : Inv u := h.scr (fun c j hc => by rw [u1 c (by unfold pers perM at hc; omega)])
  have lru : LR u s od := lr.congr (fun c c1 c2 => u1 c (by omega))
  rw [u1 3 (by decide)]
  refine ⟨3, _, by decide, t_worthBy iu (o := s 3 2) (od := od) (by rw [u1 75 (by decide)]; exact lr.2.1) (by rw [u1 75 (by decide)]; exact hpp), ?_⟩
  rintro wo v ⟨v1, v2⟩
  have hwo : wo = wvF s od p := WV.valN lr.nms lr.2.1 (v2.congr (fun c c1 c2 _ _ => (u1 c (by omega)).symm) (by rw [u1 75 (by decide)]) (by rw [u1 75 (by decide)]))
  have ev : ∀ c : Nat, ¬ (47 ≤ c ∧ c ≤ 55) → v c = s c := fun c hc => by rw [v1 c (by omega), u1 c (by omega)]
  have lrv : LR v s od := lr.congr (fun c c1 c2 => ev c (by omega))
  have bw := lr.wvb hpp
  rw [← hwo] at bw
  refine ⟨3, _, by decide, t_alw lrv hpp hA hB ⟨by omega, by omega⟩, ?_⟩
  rintro b x ⟨x1, x2, x3⟩
  have ex : ∀ c : Nat, ¬ (47 ≤ c ∧ c ≤ 55) → x c = s c := fun c hc => by rw [x1 c (by omega) (by omega), ev c hc]
  rw [hwo] at x3
  refine ⟨⟨by omega, by omega⟩, fun z5 => ⟨⟨by omega, by omega⟩, ?_⟩, fun z5 => ⟨fun c _ _ c3 => ex c c3, Or.inl ⟨fun q => q.2.2.2 (by omega), rfl, ex 6 (by decide), ex 9 (by decide)⟩⟩⟩
  rintro y hy
  refine ⟨⟨by omega, by omega⟩, ⟨by omega, by omega⟩, ?_⟩
  have y9 : y 9 = s 9 := by rw [hy, up_row (by decide), ex 9 (by decide)]
  rw [y9]
  rintro y' hy'
  refine ⟨fun c c1 c2 c3 => by rw [hy', up_row c2, hy, up_row c1, ex c c3], Or.inr ⟨⟨hpp, hii, by omega, by omega⟩, u2, ?_, ?_⟩⟩
  · rw [hy', up_row (by decide), hy]
    funext j
    rw [up_if, up_if, ex 6 (by decide)]
  · rw [hy']
    funext j
    rw [up_if, up_if, y9, pc.1, u2]
