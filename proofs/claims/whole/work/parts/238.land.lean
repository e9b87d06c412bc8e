/-! THE LAND as the class tells it in u, the NAMES as t has them -/
def LR (u t : Sto) (od : Int → Int) : Prop := (u 3 0 = t 75 9 ∧ (u 5 0 = t 75 4 ∧ 0 ≤ u 5 0 ∧ u 5 0 ≤ 20) ∧ u 17 0 = t 75 30) ∧ OdR (t 75 9) (u 3 2) od ∧ ToldR (u 4) (t 82) ∧ PeopleR (u 5 0) (u 7) (u 8) (u 9) (t 78) (t 79) (t 80) ∧ SitesR (u 10) (t 83) (t 84) (t 85) (t 86) ∧ NamingR (u 17 0) (u 17 1) (u 18) (u 19) (u 20) (u 93) (u 94) (u 95) (u 96) (u 97) ∧ (∀ c : Nat, 93 ≤ c → c ≤ 97 → t c = u c) ∧ ∀ p : Int, 0 ≤ p → p < t 75 4 → nmB t p
theorem LR.nms {u t : Sto} {od : Int → Int} (h : LR u t od) : NMS t := by
  obtain ⟨⟨h1, h2, h3⟩, h4, h5, h6, h7, h8, h9, h10⟩ := h
  refine ⟨by omega, h10, fun p p1 p2 => ?_, ?_, ?_⟩
  · obtain ⟨g1, g2, g3⟩ := h6 p p1 (by omega)
    rw [g2.1] at g2
    rw [g3.1] at g3
    exact ⟨⟨by omega, by omega⟩, g3.2⟩
  · have := h5 0 (by decide) (by decide)
    rw [this.1] at this
    exact this.2
  · have := h5 1 (by decide) (by decide)
    rw [this.1] at this
    exact this.2
theorem LR.sts {u t : Sto} {od : Int → Int} (h : LR u t od) : STS t := by
  intro j j1 j2
  obtain ⟨g1, g2, g3, g4⟩ := h.2.2.2.2.1 j j1 j2
  exact ⟨g1.2, g2.2, g3.2, g4.2⟩
theorem LR.fes {u t : Sto} {od : Int → Int} (h : LR u t od) : FES t := by
  have e2 := h.2.2.1 2 (by decide) (by decide)
  have e3 := h.2.2.1 3 (by decide) (by decide)
  have e4 := h.2.2.1 4 (by decide) (by decide)
  rw [e2.1] at e2
  rw [e3.1] at e3
  rw [e4.1] at e4
  exact ⟨e2.2, e3.2, e4.2⟩
theorem Inv.lr [Inhabited YT] {s : Sto} (h : Inv s) : LR s s (fun i => begS s 81 (8 * 0 + i)) := by
  obtain ⟨a1, a2, a3, a4, a5, a6, a7, a8, a9, a10, a11, a12, a13, a14, a15⟩ := h.2.1
  obtain ⟨b3, b10, b14⟩ := landB h
  have e1 : s 3 0 = s 75 9 := a1.1
  rw [e1] at b3
  exact ⟨⟨e1, a6, a15.1⟩, b3.congr (fun k _ _ => by rw [show 8 * 0 + k = k by omega]), a5, a8, a9, a15.2, fun _ _ _ => rfl, h.nms.2.1⟩
theorem LR.congr {u u' t : Sto} {od : Int → Int} (h : LR u t od) (e : ∀ c : Nat, (3 ≤ c ∧ c ≤ 20) ∨ (93 ≤ c ∧ c ≤ 97) → c ≠ 6 → u' c = u c) : LR u' t od := by
  unfold LR at *
  rw [e 3 (by omega) (by omega), e 4 (by omega) (by omega), e 5 (by omega) (by omega), e 7 (by omega) (by omega), e 8 (by omega) (by omega), e 9 (by omega) (by omega), e 10 (by omega) (by omega), e 17 (by omega) (by omega), e 18 (by omega) (by omega), e 19 (by omega) (by omega), e 20 (by omega) (by omega), e 93 (by omega) (by omega), e 94 (by omega) (by omega), e 95 (by omega) (by omega), e 96 (by omega) (by omega), e 97 (by omega) (by omega)]
  obtain ⟨h1, h4, h5, h6, h7, h8, h9, h10⟩ := h
  exact ⟨h1, h4, h5, h6, h7, h8, fun c c1 c2 => by rw [h9 c c1 c2, e c (by omega) (by omega)], h10⟩
/-- the same land, other NAMES -/
theorem LR.names {u t t' : Sto} {od : Int → Int} (h : LR u t od) (e : ∀ c : Nat, (78 ≤ c ∧ c ≤ 97) → c ≠ 81 → c ≠ 91 → c ≠ 92 → t' c = t c) (e4 : t' 75 4 = t 75 4) (e9 : t' 75 9 = t 75 9) (e30 : t' 75 30 = t 75 30) (hn : ∀ p : Int, 0 ≤ p → p < t 75 4 → nmB t' p) : LR u t' od := by
  obtain ⟨h1, h4, h5, h6, h7, h8, h9, h10⟩ := h
  unfold LR
  rw [e 78 (by omega) (by omega) (by omega) (by omega), e 79 (by omega) (by omega) (by omega) (by omega), e 80 (by omega) (by omega) (by omega) (by omega), e 82 (by omega) (by omega) (by omega) (by omega), e 83 (by omega) (by omega) (by omega) (by omega), e 84 (by omega) (by omega) (by omega) (by omega), e 85 (by omega) (by omega) (by omega) (by omega), e 86 (by omega) (by omega) (by omega) (by omega), e4, e9, e30]
  exact ⟨h1, h4, h5, h6, h7, h8, fun c c1 c2 => by rw [e c (by omega) (by omega) (by omega) (by omega), h9 c c1 c2], hn⟩
theorem LR.mv {u t : Sto} {od : Int → Int} (h : LR u t od) {a p : Int} (ha : nmB t a) : LR u (mvN t a p) od := by
  refine h.names (fun c c1 c2 c3 c4 => mvN_o (by omega) (by omega)) (by rw [mvN_o (by decide) (by decide)]) (by rw [mvN_o (by decide) (by decide)]) (by rw [mvN_o (by decide) (by decide)]) ?_
  have := (h.nms.mv (b := p) ha).2.1
  rw [mvN_o (c := 75) (by decide) (by decide)] at this
  exact this
theorem t_payL {u t : Sto} {od : Int → Int} (h : LR u t od) : ClV LY 2 MX7_payPlaces [.inr 46, .inr 3] u (fun s' => (∀ c : Nat, c ≠ 51 → s' c = u c) ∧ ∀ x : Int, 0 ≤ x → x < t 75 4 → s' 51 x = psm (t 83) (t 84) (t 85) (t 86) (t 75 4) x 6) := by
  obtain ⟨⟨h1, h2, h3⟩, h4, h5, h6, h7, h8, h9, h10⟩ := h
  have hs : STS t := fun j j1 j2 => by
    obtain ⟨g1, g2, g3, g4⟩ := h7 j j1 j2
    exact ⟨g1.2, g2.2, g3.2, g4.2⟩
  have e : ∀ j : Int, 0 ≤ j → j < 6 → u 10 (4 * j) = t 83 j ∧ u 10 (4 * j + 1) = t 84 j ∧ u 10 (4 * j + 2) = t 85 j ∧ u 10 (4 * j + 3) = t 86 j := fun j j1 j2 => by
    obtain ⟨g1, g2, g3, g4⟩ := h7 j j1 j2
    exact ⟨g1.1, g2.1, g3.1, g4.1⟩
  refine (t_X7_payPlaces (s := u) h2.2 (fun j j1 j2 => ?_)).mono ?_
  · obtain ⟨g1, g2, g3, g4⟩ := e j j1 j2
    rw [g1, g2, g3, g4]
    exact hs j j1 j2
  · rintro s' ⟨g1, g2⟩
    refine ⟨g1, fun x x1 x2 => ?_⟩
    rw [g2 x x1 (by omega), h2.1]
    exact psm_congr 6 (fun j j1 j2 => e j j1 j2)
theorem t_lineL {u t : Sto} {od : Int → Int} (h : LR u t od) (hN : NamesR (u 5 0) (u 6) (t 76) (t 77) 0) {o : Int} {oq : Int → Int} (hO : OdR (t 75 9) o oq) : ClV LY 2 MX7_lineUp [.inr 46, .inr 3, .inl o] u (fun s' => (∀ c : Nat, c ≠ 47 → c ≠ 48 → c ≠ 49 → c ≠ 50 → s' c = u c) ∧ ∃ pl : Int → Int, PlR (t 75 9) oq pl ∧ (∀ l : Int, 0 ≤ l → l < 26 → s' 47 l = rkF (t 75 9) (t 82 0) pl l) ∧ (∀ p : Int, 0 ≤ p → p < t 75 4 → s' 48 p = keyN 6 (sqS t pl p)) ∧ RowR (s' 49) (t 75 4) (quS t pl) ∧ ∀ i : Int, 0 ≤ i → i < t 75 4 → s' 50 (s' 49 i) = i) := by
  obtain ⟨n1, n2, n3, n4, n5⟩ := h.nms
  obtain ⟨⟨h1, h2, h3⟩, h4, h5, h6, h7, h8, h9, h10⟩ := h
  have e40 : u 4 0 = t 82 0 := (h5 0 (by decide) (by decide)).1
  have e41 : u 4 1 = t 82 1 := (h5 1 (by decide) (by decide)).1
  have e6 := h2.1
  have pe : ∀ p : Int, 0 ≤ p → p < t 75 4 → u 8 p = t 79 p ∧ u 9 p = t 80 p := fun p p1 p2 => by
    obtain ⟨g1, g2, g3⟩ := h6 p p1 (by omega)
    exact ⟨g2.1, g3.1⟩
  refine (t_X7_lineUp (s := u) (o := o) (od := oq) (nn := t 76) (ff := t 77) (by rw [h1]; exact hO) (by rw [e40]; exact n4) (by rw [e41]; exact n5) (by rw [e6]; exact n1) hN (fun p p1 p2 => by rw [(pe p p1 (by omega)).1, (pe p p1 (by omega)).2]; exact n3 p p1 (by omega))).mono ?_
  rintro s' ⟨g1, pl, g2, g3, g4, g5, g6⟩
  rw [h1] at g2 g3 g4 g5
  rw [e6] at g4 g5 g6
  rw [e40] at g3 g4 g5
  refine ⟨g1, pl, g2, g3, fun p p1 p2 => ?_, ?_, g6⟩
  · rw [g4 p p1 p2]
    show keyN 6 (sfx _ (fun i => t 77 (6 * (0 + p) + i)) (t 76 (0 + p)) (t 76 (0 + p)).toNat) = _
    rw [Int.zero_add]
  · have : srtL (AHR (sqG (t 75 9) (t 82 0) pl (t 76) (t 77)) (u 4 1) (u 8) (u 9)) (t 75 4).toNat = quS t pl := by
      refine srtL_congr _ (fun p q p1 p2 q1 q2 => ?_)
      unfold AHR tieR
      rw [e41, (pe p p1 (by omega)).1, (pe p p1 (by omega)).2, (pe q q1 (by omega)).1, (pe q q1 (by omega)).2]
      show ltL (sfx _ (fun i => t 77 (6 * (0 + p) + i)) (t 76 (0 + p)) (t 76 (0 + p)).toNat) (sfx _ (fun i => t 77 (6 * (0 + q) + i)) (t 76 (0 + q)) (t 76 (0 + q)).toNat) ∨ (sfx _ (fun i => t 77 (6 * (0 + p) + i)) (t 76 (0 + p)) (t 76 (0 + p)).toNat) = (sfx _ (fun i => t 77 (6 * (0 + q) + i)) (t 76 (0 + q)) (t 76 (0 + q)).toNat) ∧ _ ↔ _
      rw [Int.zero_add, Int.zero_add]
    rw [← this]
    exact g5
/-- the WORTH by the Queue that stands -/
theorem t_wof {u t : Sto} {od : Int → Int} {p o : Int} (hm : NMS t) (hO : OdR (t 75 9) o od) {pl : Int → Int} (w2 : PlR (t 75 9) od pl) (w5 : RowR (u 49) (t 75 4) (quS t pl)) (w6 : ∀ i : Int, 0 ≤ i → i < t 75 4 → u 50 (u 49 i) = i) (w7 : ∀ x : Int, 0 ≤ x → x < t 75 4 → u 51 x = psm (t 83) (t 84) (t 85) (t 86) (t 75 4) x 6) (hp : 0 ≤ p ∧ p < t 75 4) : ClI LY 0 MX7_worthOf [.inr 46, .inl p] u (fun r s' => s' = u ∧ r = wvF t od p) := by
  have n1 := hm.1
  have w5' : RowR (u 49) ((t 75 4).toNat : Nat) (quS t pl) := by rw [Int.toNat_of_nonneg n1.1]; exact w5
  obtain ⟨i, i1, i2, i3⟩ := w5'.onto (p := p) hp.1 (by omega)
  have e50 : u 50 p = i := by rw [← i3]; exact w6 i i1 (by omega)
  refine ClI.intro (by decide) rfl (Nat.le_of_ble_eq_true rfl) (fun X C r => ?_)
  refine kb_X7_worthOf_0 C r ⟨⟨by omega, by omega⟩, ?_⟩
  rw [e50]
  refine ⟨⟨by omega, by omega⟩, rfl, WV.valN hm hO ⟨pl, i, w2, i1, by omega, ?_, ?_⟩⟩
  · rw [← w5.2 i i1 (by omega)]; exact i3
  · exact w7 i i1 (by omega)
theorem t_fee {u t : Sto} {od : Int → Int} (h : LR u t od) {p a now next : Int} (hA : NmR now (t 76 p) (fun i => t 77 (6 * p + i))) (hB : NmR next (t 76 a) (fun i => t 77 (6 * a + i))) : ClI LY 2 MX1_feeOf [.inr 52, .inr 4, .inl now, .inl next] u (fun r s' => (∀ c : Nat, c ≠ 55 → s' c = u c) ∧ r = feF t p a) := by
  have e2 := h.2.2.1 2 (by decide) (by decide)
  have e3 := h.2.2.1 3 (by decide) (by decide)
  have e4 := h.2.2.1 4 (by decide) (by decide)
  refine (t_X1_feeOf (s := u) hA hB e2.2 e3.2 e4.2).mono ?_
  rintro r s' ⟨g1, g2⟩
  refine ⟨g1, ?_⟩
  rw [g2, e2.1, e3.1, e4.1]
  rfl
theorem t_alw {u t : Sto} {od : Int → Int} (h : LR u t od) {p a now next wo : Int} (hp : 0 ≤ p ∧ p < t 75 4) (hA : NmR now (t 76 p) (fun i => t 77 (6 * p + i))) (hB : NmR next (t 76 a) (fun i => t 77 (6 * a + i))) (r4 : rg wo) : ClI LY 3 MX1_allows [.inr 52, .inr 3, .inl p, .inl now, .inl next, .inl wo] u (fun r s' => (∀ c : Nat, c ≠ 53 → c ≠ 54 → s' c = u c) ∧ (r = 0 ∨ r = 1) ∧ r = okF t od p a wo) := by
  obtain ⟨⟨h1, h2, h3⟩, h4, h5, h6, h7, h8, h9, h10⟩ := h
  obtain ⟨g1, g2, g3⟩ := h6 p hp.1 (by omega)
  refine (t_X1_allows (s := u) (p := p) (od := od) (by omega) hA hB (by rw [h1]; exact h4) h8 ⟨by omega, by omega⟩ g3.2 ⟨by omega, by omega⟩ r4).mono ?_
  rintro r s' ⟨k1, k2, fa, k3, k4⟩
  refine ⟨k1, k2, ?_⟩
  rw [h3, ← h9 93 (by decide) (by decide), ← h9 94 (by decide) (by decide), ← h9 95 (by decide) (by decide), ← h9 96 (by decide) (by decide), ← h9 97 (by decide) (by decide)] at h8 k4
  rw [h1, g1.1, g2.1, g3.1] at k3
  rw [k4]
  exact okF_of h8 k3
/-- in the reference -/
theorem t_may {s t u : Sto} {od : Int → Int} (h : LR u t od) (hu : ∀ c : Nat, 17 ≤ c → c ≤ 20 → s c = u c) (hb : s 75 22 = 0 ∨ s 75 22 = 1) (hod : ∀ i : Int, begS s 81 (8 * 0 + i) = od i) (e : samN t s) {p a wo : Int} (hp : 0 ≤ p ∧ p < t 75 4) (ha : 0 ≤ a ∧ a < 51) (hna : nmB t a) (r4 : rg wo) : ClI LY 2 MX12_may [.inr 75, .inl p, .inl a, .inl wo] s (fun r s' => (∀ c : Nat, c ≠ 99 → c ≠ 100 → c ≠ 101 → s' c = begS s c) ∧ (r = 0 ∨ r = 1) ∧ r = okF t od p a wo) := by
  obtain ⟨⟨h1, h2, h3⟩, h4, h5, h6, h7, h8, h9, h10⟩ := h
  obtain ⟨g1, g2, g3⟩ := h6 p hp.1 (by omega)
  obtain ⟨e1, e2, e3, e4⟩ := e
  have e76 := e1 76 (by decide) (by decide) (by decide) (by decide) (by decide)
  have e77 := e1 77 (by decide) (by decide) (by decide) (by decide) (by decide)
  have e78 := e1 78 (by decide) (by decide) (by decide) (by decide) (by decide)
  have e79 := e1 79 (by decide) (by decide) (by decide) (by decide) (by decide)
  have e80 := e1 80 (by decide) (by decide) (by decide) (by decide) (by decide)
  have e9 : ∀ c : Nat, 93 ≤ c → c ≤ 97 → s c = u c := fun c c1 c2 => by rw [e1 c (by omega) c2 (by omega) (by omega) (by omega), h9 c c1 c2]
  rw [g1.1] at g1
  rw [g2.1] at g2
  rw [g3.1] at g3
  have hod' : (fun i => begS s 81 (8 * 0 + i)) = od := funext hod
  refine (t_X12_may (s := s) (p := p) (a := a) (oo := u 3 2) hb (by rw [hod', e3]; exact h4) (by omega) ha (by rw [e76, e77]; exact hna) (by rw [e76, e77]; exact h10 p hp.1 hp.2) (by rw [hu 17 (by decide) (by decide), h3, e4]) (by rw [hu 17 (by decide) (by decide), hu 18 (by decide) (by decide), hu 19 (by decide) (by decide), hu 20 (by decide) (by decide), e9 93 (by decide) (by decide), e9 94 (by decide) (by decide), e9 95 (by decide) (by decide), e9 96 (by decide) (by decide), e9 97 (by decide) (by decide)]; exact h8) (by rw [e79]; exact ⟨by omega, by omega⟩) (by rw [e80]; exact g3.2) (by rw [e78]; exact ⟨by omega, by omega⟩) r4).mono ?_
  rintro r s' ⟨k1, k2, fa, k3, k4⟩
  refine ⟨k1, k2, ?_⟩
  rw [hu 17 (by decide) (by decide), e9 93 (by decide) (by decide), e9 94 (by decide) (by decide), e9 95 (by decide) (by decide), e9 96 (by decide) (by decide), e9 97 (by decide) (by decide)] at k4
  rw [h3, ← h9 93 (by decide) (by decide), ← h9 94 (by decide) (by decide), ← h9 95 (by decide) (by decide), ← h9 96 (by decide) (by decide), ← h9 97 (by decide) (by decide)] at h8 k4
  rw [hod', e3, e76, e77, e78, e79, e80] at k3
  rw [k4]
  exact okF_of h8 k3
