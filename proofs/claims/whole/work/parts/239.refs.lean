/-! THE REFERENCE under the land as it is told -/
theorem samN.refl (t : Sto) : samN t t := ⟨fun _ _ _ _ _ _ => rfl, rfl, rfl, rfl⟩
theorem samN.nb {t t' : Sto} (h : samN t t') {a : Int} (ha : nmB t a) : nmB t' a := by
  unfold nmB at *
  rw [h.1 76 (by decide) (by decide) (by decide) (by decide) (by decide), h.1 77 (by decide) (by decide) (by decide) (by decide) (by decide)]
  exact ha
theorem LR.sam {u t t' : Sto} {od : Int → Int} (h : LR u t od) (e : samN t t') : LR u t' od := by
  have hn := h.2.2.2.2.2.2.2
  exact h.names (fun c c1 c2 c3 c4 => e.1 c (by omega) (by omega) c2 c3 c4) e.2.1 e.2.2.1 e.2.2.2 (fun p p1 p2 => e.nb (hn p p1 p2))
/-- what a NAME would gain -/
noncomputable def gnF (t : Sto) (od : Int → Int) (p a : Int) : Int := t 82 5 * (wvF (mvN t a p) od p - wvF t od p) - feF t p a
theorem samN.gn {t t' : Sto} (h : samN t t') (od : Int → Int) (p a : Int) : gnF t' od p a = gnF t od p a := by
  unfold gnF
  rw [(h.mv a p).wv, h.wv, h.fe, h.1 82 (by decide) (by decide) (by decide) (by decide) (by decide)]
/-- the reference's ORDER 0 is od -/
def ODR (s : Sto) (od : Int → Int) : Prop := (s 75 22 = 0 ∨ s 75 22 = 1) ∧ ∀ i : Int, begS s 81 (8 * 0 + i) = od i
/-- the land of u, in the reference's store s -/
def LM (u s : Sto) (od : Int → Int) : Prop := LR u s od ∧ ODR s od ∧ ∀ c : Nat, 17 ≤ c → c ≤ 20 → s c = u c
theorem t_wofM {u s : Sto} {od : Int → Int} (hh : LM u s od) {p : Int} (hp : 0 ≤ p ∧ p < s 75 4) : ClI LY 5 MX12_worthOf [.inr 75, .inl p, .inl 0] s (fun r s' => (∀ c : Nat, c ≠ 101 → c ≠ 102 → c ≠ 103 → s' c = begS s c) ∧ r = wvF s od p) := by
  obtain ⟨h, hd, hu⟩ := hh
  have e : (fun i => begS s 81 (8 * 0 + i)) = od := funext hd.2
  refine (t_worthOfN hd.1 h.nms h.sts (o := 0) (oo := u 3 2) (by decide) (by rw [e]; exact h.2.1) hp).mono ?_
  rintro r s' ⟨g1, g2⟩
  rw [e] at g2
  exact ⟨g1, WV.valN h.nms h.2.1 g2⟩
theorem t_wwM {u s : Sto} {od : Int → Int} (hh : LM u s od) {p a : Int} (hp : 0 ≤ p ∧ p < s 75 4) (ha : 20 ≤ a ∧ a < 51) (hna : nmB s a) : ClI LY 6 MX12_worthWith [.inr 75, .inl p, .inl a] s (fun r s' => (∀ c : Nat, c ≠ 101 → c ≠ 102 → c ≠ 103 → c ≠ 106 → s' c = begS s c) ∧ r = wvF (mvN s a p) od p) := by
  obtain ⟨h, hd, hu⟩ := hh
  have e : (fun i => begS s 81 (8 * 0 + i)) = od := funext hd.2
  refine (t_X12_worthWith hd.1 h.nms h.sts (oo := u 3 2) ha hna (by rw [e]; exact h.2.1) hp).mono ?_
  rintro r s' ⟨g1, g2⟩
  rw [e] at g2
  exact ⟨g1, WV.valN (h.nms.mv hna) (o := u 3 2) (by rw [mvN_o (by decide) (by decide)]; exact h.2.1) g2⟩
theorem t_feeM {u s : Sto} {od : Int → Int} (hh : LM u s od) {p a : Int} (hp : 0 ≤ p ∧ p < s 75 4) (ha : 0 ≤ a ∧ a < 51) (hna : nmB s a) : ClI LY 0 MX12_feeOf [.inr 75, .inl p, .inl a] s (fun r s' => (∀ c : Nat, c ≠ 104 → c ≠ 105 → s' c = s c) ∧ r = feF s p a) := by
  obtain ⟨h, hd, hu⟩ := hh
  have n := h.nms
  have np := n.2.1 p hp.1 hp.2
  have f := h.fes
  exact t_X12_feeOf (a := p) (b := a) (by have := n.1; omega) ha np.1 hna.1 np.2 hna.2 f.1 f.2.1 f.2.2
theorem t_gainM {u s : Sto} {od : Int → Int} (hh : LM u s od) {p a : Int} (hp : 0 ≤ p ∧ p < s 75 4) (ha : 20 ≤ a ∧ a < 51) (hna : nmB s a) : ClI LY 7 MX12_gainOf [.inr 75, .inl p, .inl a] s (fun r s' => (∀ c : Nat, ¬ (101 ≤ c ∧ c ≤ 106) → s' c = begS s c) ∧ r = gnF s od p a) := by
  obtain ⟨h, hd, hu⟩ := hh
  have e : (fun i => begS s 81 (8 * 0 + i)) = od := funext hd.2
  have f := h.fes
  refine (t_X12_gainOf hd.1 h.nms h.sts (oo := u 3 2) ha hna (by rw [e]; exact h.2.1) hp f.1 f.2.1 f.2.2).mono ?_
  rintro r s' ⟨g1, v, w, g2, g3, g4⟩
  rw [e] at g2 g3
  refine ⟨g1, ?_⟩
  rw [g4, WV.valN h.nms h.2.1 g2, WV.valN (h.nms.mv hna) (o := u 3 2) (by rw [mvN_o (by decide) (by decide)]; exact h.2.1) g3]
  rfl
theorem t_mayM {u s : Sto} {od : Int → Int} (hh : LM u s od) {p a wo : Int} (hp : 0 ≤ p ∧ p < s 75 4) (ha : 0 ≤ a ∧ a < 51) (hna : nmB s a) (r4 : rg wo) : ClI LY 2 MX12_may [.inr 75, .inl p, .inl a, .inl wo] s (fun r s' => (∀ c : Nat, c ≠ 99 → c ≠ 100 → c ≠ 101 → s' c = begS s c) ∧ (r = 0 ∨ r = 1) ∧ r = okF s od p a wo) := t_may hh.1 hh.2.2 hh.2.1.1 hh.2.1.2 (samN.refl s) hp ha hna r4
theorem samN.beg {s : Sto} : samN s (begS s) := ⟨fun c c1 c2 c3 c4 c5 => begS_row (by omega) c3, begS_75 (by decide), begS_75 (by decide), begS_75 (by decide)⟩
/-- behind a piece of work of the reference -/
theorem LM.work {u s s' : Sto} {od : Int → Int} (h : LM u s od) (e : ∀ c : Nat, ¬ (99 ≤ c ∧ c ≤ 117) → s' c = begS s c) : LM u s' od ∧ samN s s' ∧ s' 75 22 = 1 := by
  have e1 : samN s s' := ⟨fun c c1 c2 c3 c4 c5 => by rw [e c (by omega), begS_row (by omega) c3], by rw [e 75 (by decide), begS_75 (by decide)], by rw [e 75 (by decide), begS_75 (by decide)], by rw [e 75 (by decide), begS_75 (by decide)]⟩
  have b : s' 75 22 = 1 := by rw [e 75 (by decide), begS_22 h.2.1.1]
  refine ⟨⟨h.1.sam e1, ⟨Or.inr b, fun i => ?_⟩, fun c c1 c2 => by rw [e c (by omega), begS_row (by omega) (by omega), h.2.2 c c1 c2]⟩, e1, b⟩
  rw [← h.2.1.2 i]
  unfold begS
  rw [if_neg (by omega), e 81 (by decide)]
  rfl
theorem begS_1 {s : Sto} (h : s 75 22 = 1) : begS s = s := by
  unfold begS
  rw [if_neg (by omega)]
theorem WV_F_bd {t : Sto} (hm : NMS t) (hs : STS t) {od : Int → Int} {o p : Int} (hO : OdR (t 75 9) o od) (hp : 0 ≤ p ∧ p < t 75 4) : -594 ≤ wvF t od p ∧ wvF t od p ≤ 594 := (WV.exN hm hO hp).bdN hm hs
theorem LR.wvb {u t : Sto} {od : Int → Int} (h : LR u t od) {p : Int} (hp : 0 ≤ p ∧ p < t 75 4) : -594 ≤ wvF t od p ∧ wvF t od p ≤ 594 := WV_F_bd h.nms h.sts h.2.1 hp
theorem LR.wwb {u t : Sto} {od : Int → Int} (h : LR u t od) {p a : Int} (hp : 0 ≤ p ∧ p < t 75 4) (ha : nmB t a) : -594 ≤ wvF (mvN t a p) od p ∧ wvF (mvN t a p) od p ≤ 594 := (h.mv ha).wvb (by rw [mvN_o (by decide) (by decide)]; exact hp)
theorem LR.gnb {u t : Sto} {od : Int → Int} (h : LR u t od) {p a : Int} (hp : 0 ≤ p ∧ p < t 75 4) (ha : nmB t a) : -200000 ≤ gnF t od p a ∧ gnF t od p a ≤ 200000 := by
  have b1 := h.wvb hp
  have b2 := h.wwb hp ha
  have b3 := feF_bd h.fes (h.2.2.2.2.2.2.2 p hp.1 hp.2) ha
  have b4 := h.2.2.1 5 (by decide) (by decide)
  rw [b4.1] at b4
  have c0 : 1 ≤ t 82 5 := b4.2.1
  have c1 : 0 ≤ t 82 5 := by omega
  have c2 : t 82 5 ≤ 99 := b4.2.2
  unfold gnF
  have x1 : -1188 ≤ wvF (mvN t a p) od p - wvF t od p ∧ wvF (mvN t a p) od p - wvF t od p ≤ 1188 := by omega
  have m1 : t 82 5 * (wvF (mvN t a p) od p - wvF t od p) ≤ 99 * 1188 := by
    refine Int.le_trans (Int.mul_le_mul_of_nonneg_left x1.2 c1) ?_
    exact Int.mul_le_mul_of_nonneg_right c2 (by decide)
  have m2 : -(99 * 1188) ≤ t 82 5 * (wvF (mvN t a p) od p - wvF t od p) := by
    have : t 82 5 * (-(wvF (mvN t a p) od p - wvF t od p)) ≤ 99 * 1188 := by
      refine Int.le_trans (Int.mul_le_mul_of_nonneg_left (show -(wvF (mvN t a p) od p - wvF t od p) ≤ 1188 by omega) c1) ?_
      exact Int.mul_le_mul_of_nonneg_right c2 (by decide)
    rw [Int.mul_neg] at this
    omega
  omega
