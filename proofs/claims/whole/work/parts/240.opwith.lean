/-! OPERATION: with -/
/-- the NAME on the TAPE in row 30 -/
def tnS (s : Sto) : Sto := fillR (up (up s 75 24 0) 76 30 (s 75 24)) 77 180 (s 75 24) (fun k => s 91 k - 97)
theorem tnS_o {s : Sto} {c : Nat} (h1 : c ≠ 75) (h2 : c ≠ 76) (h3 : c ≠ 77) : tnS s c = s c := by
  unfold tnS
  rw [fillR_row h3, up_row h2, up_row h1]
theorem tnS_76 {s : Sto} {i : Int} : tnS s 76 i = if i = 30 then s 75 24 else s 76 i := by
  unfold tnS
  rw [fillR_row (by decide), up_if, up_row (by decide)]
theorem tnS_77 {s : Sto} {i : Int} : tnS s 77 i = if 180 ≤ i ∧ i < 180 + s 75 24 then s 91 (i - 180) - 97 else s 77 i := by
  unfold tnS
  by_cases q : 180 ≤ i ∧ i < 180 + s 75 24
  · rw [if_pos q, fillR_in q]
  · rw [if_neg q, fillR_out q, up_row (by decide), up_row (by decide)]
theorem tnS_sam {s s' : Sto} (e : ∀ c : Nat, 76 ≤ c → c ≤ 97 → s' c = s c) (e24 : s' 75 24 = s 75 24) (e4 : s' 75 4 = s 75 4) (e9 : s' 75 9 = s 75 9) (e30 : s' 75 30 = s 75 30) : samN (tnS s) (tnS s') := by
  have f : ∀ (u : Sto) (i : Int), i ≠ 24 → tnS u 75 i = u 75 i := fun u i hi => tn_75 hi
  refine ⟨fun c c1 c2 c3 c4 c5 => ?_, by rw [f _ _ (by decide), f _ _ (by decide), e4], by rw [f _ _ (by decide), f _ _ (by decide), e9], by rw [f _ _ (by decide), f _ _ (by decide), e30]⟩
  by_cases z : c = 76
  · subst z
    funext i
    rw [tnS_76, tnS_76, e24, e 76 (by decide) (by decide)]
  · by_cases z2 : c = 77
    · subst z2
      funext i
      rw [tnS_77, tnS_77, e24, e 77 (by decide) (by decide), e 91 (by decide) (by decide)]
    · rw [tnS_o (by omega) z z2, tnS_o (by omega) z z2, e c c1 c2]
theorem tnS_nm [Inhabited YT] {s : Sto} (h : Inv s) {p x : Int} (h0 : 0 ≤ p ∧ p < 30) (hN : NmR x (s 76 p) (fun i => s 77 (6 * p + i))) : NmR x (tnS s 76 p) (fun i => tnS s 77 (6 * p + i)) := by
  refine hN.congr (by rw [tnS_76, if_neg (by omega)]) (fun i i0 i1 => ?_)
  have := hN.1
  show tnS s 77 (6 * p + i) = s 77 (6 * p + i)
  rw [tnS_77, if_neg (by omega)]
theorem tnS_30 [Inhabited YT] {s : Sto} (h : Inv s) {x : Int} (hN : NmR x (s 1 1) (fun i => s 2 i - 97)) : NmR x (tnS s 76 30) (fun i => tnS s 77 (6 * 30 + i)) := by
  have hT := h.1
  refine hN.congr (by rw [tnS_76, if_pos rfl, hT.1]) (fun i i0 i1 => ?_)
  show tnS s 77 (6 * 30 + i) = s 2 i - 97
  rw [tnS_77, if_pos (by rw [← hT.1]; omega), (hT.2.2.2 i i0 i1).1, show 6 * 30 + i - 180 = i by omega]
theorem Inv.lrT [Inhabited YT] {s : Sto} (h : Inv s) : LR s (tnS s) (fun i => begS s 81 (8 * 0 + i)) := by
  have f : ∀ i : Int, i ≠ 24 → tnS s 75 i = s 75 i := fun i hi => tn_75 hi
  have n := h.nms.1
  refine h.lr.names (fun c c1 c2 c3 c4 => tnS_o (by omega) (by omega) (by omega)) (f _ (by decide)) (f _ (by decide)) (f _ (by decide)) (fun p p1 p2 => ?_)
  obtain ⟨a1, a2, a3, a4, a5, a6, a7, a8, a9, a10, a11, a12, a13, a14, a15⟩ := h.2.1
  have e6 : s 5 0 = s 75 4 := a6.1
  have g := a7 p p1 (by show p < s 5 0; omega)
  rw [Int.zero_add] at g
  exact (tnS_nm h (by omega) g).nb
noncomputable def witV (T : Sto) (od : Int → Int) (p i : Int) : Int := if i = 0 then okF T od p 30 (wvF T od p) else if i = 1 then feF T p 30 else if i = 2 then gnF T od p 30 else wvF (mvN T 30 p) od p
set_option maxHeartbeats 4000000 in
theorem t_X11_with [Inhabited YT] {s : Sto} (h : Inv s) {p i : Int} (hp : rg p) (hi : rg i) : ClI LY 4 MX11_with [.inr 0, .inl p, .inl i] s (fun r s' => (∀ c : Nat, c ≠ 1 → ¬ (47 ≤ c ∧ c ≤ 55) → s' c = s c) ∧ s' 1 = up s 1 1 0 1 ∧ ((¬ (isNm (s 75 24) (s 91) ∧ (0 ≤ p ∧ p < s 75 4) ∧ 0 ≤ i ∧ i ≤ 3) ∧ r = -1000000) ∨ ((isNm (s 75 24) (s 91) ∧ (0 ≤ p ∧ p < s 75 4) ∧ 0 ≤ i ∧ i ≤ 3) ∧ nmB (tnS s) 30 ∧ rg r ∧ r = witV (tnS s) (fun k => begS s 81 (8 * 0 + k)) p i))) := by
  obtain ⟨a1, a2, a3, a4, a5, a6, a7, a8, a9, a10, a11, a12, a13, a14, a15⟩ := h.2.1
  have e6 : s 5 0 = s 75 4 := a6.1
  have b6 : 0 ≤ s 5 0 ∧ s 5 0 ≤ 20 := a6.2
  have hT := h.1
  have lr := h.lrT
  generalize hod : (fun k => begS s 81 (8 * 0 + k)) = od at lr ⊢
  have f75 : ∀ i : Int, i ≠ 24 → tnS s 75 i = s 75 i := fun i hi => tn_75 hi
  have t4 := f75 4 (by decide)
  refine ClI.intro (by decide) rfl (Nat.le_of_ble_eq_true rfl) (fun X C r => ?_)
  refine kb_X11_with_0 C r ⟨1, _, by decide, t_X9_nameOnce hT.2, ?_⟩
  rintro name u ⟨hu, hr, hn⟩
  have eu : ∀ c : Nat, c ≠ 1 → u c = s c := fun c hc => by rw [hu, up_row hc]
  have eu1 : u 1 = up s 1 1 0 1 := by rw [hu]
  have nil : (∀ c : Nat, c ≠ 1 → ¬ (47 ≤ c ∧ c ≤ 55) → u c = s c) ∧ u 1 = up s 1 1 0 1 := ⟨fun c c1 _ => eu c c1, eu1⟩
  have key : isNm (s 1 1) (s 2) ↔ isNm (s 75 24) (s 91) := by rw [← hT.1]; exact isNm_eq hT.2
  refine ⟨hr, fun z => ?_, fun z => ?_⟩
  · refine ⟨nil.1, nil.2, Or.inl ⟨fun q => ?_, rfl⟩⟩
    rcases hn with hn | hn
    · have := hn.2.bd; omega
    · exact hn.1 (key.mpr q.1)
  have hn' : isNm (s 1 1) (s 2) ∧ NmR name (s 1 1) (fun i => s 2 i - 97) := by
    rcases hn with hn | hn
    · exact hn
    · exact absurd hn.2 z
  have e5 : u 5 = s 5 := eu 5 (by decide)
  refine ⟨0, _, by decide, t_X6_has hp (by rw [e5]; exact ⟨by omega, by omega⟩), ?_⟩
  rw [e5]
  rintro q t ⟨ht, q1, q2⟩
  rw [ht]
  refine ⟨⟨by omega, by omega⟩, fun z => ⟨nil.1, nil.2, Or.inl ⟨by omega, rfl⟩⟩, fun z => ⟨hi, fun z2 => ⟨nil.1, nil.2, Or.inl ⟨by omega, rfl⟩⟩, fun z2 => ⟨hi, fun z3 => ?_, fun z3 => ⟨nil.1, nil.2, Or.inl ⟨by omega, rfl⟩⟩⟩⟩⟩
  have hpp : 0 ≤ p ∧ p < tnS s 75 4 := by rw [t4]; omega
  have hpp' : 0 ≤ p ∧ p < s 75 4 := by omega
  have cond : isNm (s 75 24) (s 91) ∧ (0 ≤ p ∧ p < s 75 4) ∧ 0 ≤ i ∧ i ≤ 3 := ⟨key.mp hn'.1, hpp', z2, z3⟩
  have hB := tnS_30 h hn'.2
  have hnames : NamesR (s 5 0) (s 6) (tnS s 76) (tnS s 77) 0 := fun x x0 x1 => by
    have g := a7 x x0 x1
    rw [Int.zero_add] at g ⊢
    exact tnS_nm h (by omega) g
  have hA : NmR (s 6 p) (tnS s 76 p) (fun i => tnS s 77 (6 * p + i)) := by
    have g := hnames p hpp'.1 (by omega)
    rw [Int.zero_add] at g
    exact g
  have lru : LR u (tnS s) od := lr.congr (fun c c1 c2 => eu c (by omega))
  refine ⟨2, _, by decide, t_payL lru, ?_⟩
  rintro v ⟨v1, v2⟩
  have ev : ∀ c : Nat, c ≠ 1 → c ≠ 51 → v c = s c := fun c c1 c2 => by rw [v1 c c2, eu c c1]
  have lrv : LR v (tnS s) od := lru.congr (fun c c1 c2 => v1 c (by omega))
  refine ⟨2, _, by decide, t_lineL (o := v 3 2) (oq := od) lrv (by rw [ev 5 (by decide) (by decide), ev 6 (by decide) (by decide)]; exact hnames) lrv.2.1, ?_⟩
  rintro w ⟨w1, pl, w2, w3, w4, w5, w6⟩
  have ew : ∀ c : Nat, c ≠ 1 → ¬ (47 ≤ c ∧ c ≤ 51) → w c = s c := fun c c1 c2 => by rw [w1 c (by omega) (by omega) (by omega) (by omega), ev c c1 (by omega)]
  have ew1 : w 1 = up s 1 1 0 1 := by rw [w1 1 (by decide) (by decide) (by decide) (by decide), v1 1 (by decide), eu1]
  have w7 : ∀ x : Int, 0 ≤ x → x < tnS s 75 4 → w 51 x = psm (tnS s 83) (tnS s 84) (tnS s 85) (tnS s 86) (tnS s 75 4) x 6 := fun x x0 x1 => by rw [w1 51 (by decide) (by decide) (by decide) (by decide), v2 x x0 x1]
  have lrw : LR w (tnS s) od := lrv.congr (fun c c1 c2 => w1 c (by omega) (by omega) (by omega) (by omega))
  have e6w : w 6 = s 6 := ew 6 (by decide) (by decide)
  have qr : QR w (tnS s) od := ⟨⟨lrw.1.2.1.1, (lrw.2.2.1 1 (by decide) (by decide)).1, fun x x0 x1 => by
    obtain ⟨g1, g2, g3⟩ := lrw.2.2.2.1 x x0 (by rw [lrw.1.2.1.1]; exact x1)
    exact ⟨g2.1, g3.1⟩⟩, ⟨pl, w2, w3, w4⟩, w7⟩
  refine ⟨⟨by omega, by omega⟩, 0, _, by decide, t_wof lrw.nms lrw.2.1 w2 w5 w6 w7 hpp, ?_⟩
  rintro wo t' ⟨ht', hwo⟩
  rw [ht', e6w]
  have bw := lrw.wvb hpp
  rw [← hwo] at bw
  refine ⟨hi, fun z4 => ⟨2, _, by decide, t_fee lrw hA hB, ?_⟩, fun z4 => ⟨3, _, by decide, t_alw lrw hpp hA hB ⟨by omega, by omega⟩, ?_⟩⟩
  · rintro fe x ⟨x1, x2⟩
    have ex : (∀ c : Nat, c ≠ 1 → ¬ (47 ≤ c ∧ c ≤ 55) → x c = s c) ∧ x 1 = up s 1 1 0 1 := ⟨fun c c1 c2 => by rw [x1 c (by omega), ew c c1 (by omega)], by rw [x1 1 (by decide), ew1]⟩
    refine ⟨hi, fun z5 => ?_, fun z5 => ⟨ex.1, ex.2, Or.inr ⟨cond, hB.nb, by rw [x2]; have := feF_bd lrw.fes hA.nb hB.nb; exact ⟨by omega, by omega⟩, ?_⟩⟩⟩
    · have lrx : LR x (tnS s) od := lrw.congr (fun c c1 c2 => x1 c (by omega))
      have qx : QR x (tnS s) od := by
        unfold QR at *
        rw [x1 5 (by decide), x1 4 (by decide), x1 8 (by decide), x1 9 (by decide), x1 47 (by decide), x1 48 (by decide), x1 51 (by decide)]
        exact qr
      refine ⟨2, _, by decide, t_ww lrx.nms lrx.2.1 qx hpp hB, ?_⟩
      rintro ww y ⟨hy, hw⟩
      rw [hy]
      have eg : x 4 5 * (ww - wo) - fe = gnF (tnS s) od p 30 := by
        rw [hw, hwo, x2, (lrx.2.2.1 5 (by decide) (by decide)).1]
        rfl
      refine ⟨hi, fun z6 => ⟨ex.1, ex.2, Or.inr ⟨cond, hB.nb, by rw [hw]; have := lrx.wwb hpp hB.nb; exact ⟨by omega, by omega⟩, ?_⟩⟩, fun z6 => ⟨ex.1, ex.2, Or.inr ⟨cond, hB.nb, by rw [eg]; have := lrx.gnb hpp hB.nb; exact ⟨by omega, by omega⟩, ?_⟩⟩⟩
      · unfold witV
        rw [if_neg z4, if_neg z5, if_neg z6, hw]
      · unfold witV
        rw [if_neg z4, if_neg z5, if_pos z6, eg]
    · unfold witV
      rw [if_neg z4, if_pos z5, x2]
  · rintro b x ⟨x1, x2, x3⟩
    have ex : (∀ c : Nat, c ≠ 1 → ¬ (47 ≤ c ∧ c ≤ 55) → x c = s c) ∧ x 1 = up s 1 1 0 1 := ⟨fun c c1 c2 => by rw [x1 c (by omega) (by omega), ew c c1 (by omega)], by rw [x1 1 (by decide) (by decide), ew1]⟩
    have wv : witV (tnS s) od p i = b := by
      unfold witV
      rw [if_pos z4, x3, hwo]
    refine ⟨⟨by omega, by omega⟩, fun z5 => ⟨ex.1, ex.2, Or.inr ⟨cond, hB.nb, by decide, ?_⟩⟩, fun z5 => ⟨ex.1, ex.2, Or.inr ⟨cond, hB.nb, by decide, ?_⟩⟩⟩
    · rw [wv]; omega
    · rw [wv]; omega
