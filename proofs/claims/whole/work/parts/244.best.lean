/-! REST: the best NAME for one, both ways -/
noncomputable def bstF (t : Sto) (od : Int → Int) (p : Int) : Nat → Int × Int
  | 0 => (0, -1)
  | k + 1 => @ite _ (okF t od p (20 + k) (wvF t od p) ≠ 0 ∧ (bstF t od p k).1 < gnF t od p (20 + k)) (Classical.propDecidable _) (gnF t od p (20 + k), (k : Int)) (bstF t od p k)
theorem bstF_y {t : Sto} {od : Int → Int} {p k : Int} (hk : 0 ≤ k) (h : okF t od p (20 + k) (wvF t od p) ≠ 0) (h2 : (bstF t od p k.toNat).1 < gnF t od p (20 + k)) : bstF t od p (k + 1).toNat = (gnF t od p (20 + k), k) := by
  obtain ⟨n, rfl⟩ := Int.eq_ofNat_of_zero_le hk
  rw [show ((n : Int) + 1).toNat = n + 1 by omega]
  exact if_pos (c := _) ⟨h, h2⟩
theorem bstF_n {t : Sto} {od : Int → Int} {p k : Int} (hk : 0 ≤ k) (h : okF t od p (20 + k) (wvF t od p) = 0 ∨ gnF t od p (20 + k) ≤ (bstF t od p k.toNat).1) : bstF t od p (k + 1).toNat = bstF t od p k.toNat := by
  obtain ⟨n, rfl⟩ := Int.eq_ofNat_of_zero_le hk
  rw [show ((n : Int) + 1).toNat = n + 1 by omega]
  refine if_neg (c := _) (fun q => ?_)
  rcases h with h | h
  · exact q.1 h
  · have := q.2
    rw [show ((n : Nat) : Int).toNat = n by omega] at h
    omega
theorem bstF_bd {t : Sto} {od : Int → Int} {p : Int} {g : Nat} (hb : ∀ k : Int, 0 ≤ k → k < g → gnF t od p (20 + k) ≤ 200000) : ∀ k : Nat, k ≤ g → 0 ≤ (bstF t od p k).1 ∧ (bstF t od p k).1 ≤ 200000 ∧ -1 ≤ (bstF t od p k).2 ∧ (bstF t od p k).2 < k
  | 0, _ => by
    show (0 : Int) ≤ 0 ∧ (0 : Int) ≤ 200000 ∧ (-1 : Int) ≤ -1 ∧ (-1 : Int) < ((0 : Nat) : Int)
    decide
  | k + 1, hk => by
    have ih := bstF_bd hb k (by omega)
    have b := hb k (by omega) (by omega)
    by_cases q : okF t od p (20 + k) (wvF t od p) ≠ 0 ∧ (bstF t od p k).1 < gnF t od p (20 + k)
    · have e := bstF_y (t := t) (od := od) (p := p) (k := k) (by omega) q.1 (by rw [show ((k : Nat) : Int).toNat = k by omega]; exact q.2)
      rw [show ((k : Int) + 1).toNat = k + 1 by omega] at e
      rw [e]
      show 0 ≤ gnF t od p (20 + k) ∧ gnF t od p (20 + k) ≤ 200000 ∧ -1 ≤ (k : Int) ∧ (k : Int) < ((k + 1 : Nat) : Int)
      omega
    · have e := bstF_n (t := t) (od := od) (p := p) (k := k) (by omega) (by
        rw [show ((k : Nat) : Int).toNat = k by omega]
        by_cases z : okF t od p (20 + k) (wvF t od p) = 0
        · exact Or.inl z
        · exact Or.inr (Int.not_lt.mp (fun w => q ⟨z, w⟩)))
      rw [show ((k : Int) + 1).toNat = k + 1 by omega, show ((k : Nat) : Int).toNat = k by omega] at e
      rw [e]
      omega
/-- the choice -/
noncomputable def cho (t : Sto) (od : Int → Int) (g p : Int) : Int := (bstF t od p g.toNat).2
/-- the class's thought in u has the NAMES of t -/
def CR (u t : Sto) (od : Int → Int) (g : Int) : Prop := LR u t od ∧ QR u t od ∧ (∀ q : Int, 0 ≤ q → q < t 75 4 → NmR (u 57 q) (t 76 q) (fun i => t 77 (6 * q + i))) ∧ (∀ i : Int, 0 ≤ i → i < g → NmR (u 13 i) (t 76 (20 + i)) (fun k => t 77 (6 * (20 + i) + k))) ∧ u 3 9 = g ∧ 0 ≤ g ∧ g ≤ 10
theorem CR.congr {u u' t : Sto} {od : Int → Int} {g : Int} (h : CR u t od g) (e : ∀ c : Nat, (3 ≤ c ∧ c ≤ 51) ∨ (93 ≤ c ∧ c ≤ 97) ∨ c = 57 → u' c = u c) : CR u' t od g := by
  obtain ⟨h1, h2, h3, h4, h5⟩ := h
  refine ⟨h1.congr (fun c c1 c2 => e c (by omega)), ?_, ?_, ?_, ?_⟩
  · unfold QR at *
    rw [e 5 (by omega), e 4 (by omega), e 8 (by omega), e 9 (by omega), e 47 (by omega), e 48 (by omega), e 51 (by omega)]
    exact h2
  · rw [e 57 (by omega)]; exact h3
  · rw [e 13 (by omega)]; exact h4
  · rw [e 3 (by omega)]; exact h5
theorem CR.gb {u t : Sto} {od : Int → Int} {g p : Int} (h : CR u t od g) (hp : 0 ≤ p ∧ p < t 75 4) : ∀ k : Int, 0 ≤ k → k < g → -200000 ≤ gnF t od p (20 + k) ∧ gnF t od p (20 + k) ≤ 200000 := fun k k0 k1 => h.1.gnb hp (h.2.2.2.1 k k0 k1).nb
set_option maxHeartbeats 4000000 in
theorem t_X10_bestFor {u t : Sto} {od : Int → Int} {g p : Int} (h : CR u t od g) (hp : 0 ≤ p ∧ p < t 75 4) : ClI LY 4 MX10_bestFor [.inr 56, .inr 3, .inr 46, .inr 52, .inl p] u (fun r s' => (∀ c : Nat, c ≠ 53 → c ≠ 54 → c ≠ 55 → s' c = u c) ∧ r = cho t od g p) := by
  have gb := h.gb hp
  obtain ⟨lr, qr, hn, hm, hg, hg2⟩ := h
  have n1 := lr.nms.1
  have hA := hn p hp.1 hp.2
  refine ClI.intro (by decide) rfl (Nat.le_of_ble_eq_true rfl) (fun X C r => ?_)
  refine kb_X10_bestFor_0 C r ⟨⟨by omega, by omega⟩, 2, _, by decide, t_ww lr.nms lr.2.1 qr hp hA, ?_⟩
  rintro w u' ⟨hu', hw⟩
  rw [hu']
  rw [mvN_self] at hw
  have bw := lr.wvb hp
  rw [← hw] at bw
  have bs := bstF_bd (t := t) (od := od) (p := p) (g := g.toNat) (fun k k0 k1 => (gb k k0 (by omega)).2)
  have key : ∀ S : Sto, (∀ c : Nat, c ≠ 53 → c ≠ 54 → c ≠ 55 → S c = u c) → G LY X 25 [rv 56, rv 3, rv 46, rv 52, iv p, iv w, iv (bstF t od p (0 : Int).toNat).1, iv (bstF t od p (0 : Int).toNat).2, iv 0, none, none] [] S := by
    refine downI (P := fun i => ∀ S : Sto, (∀ c : Nat, c ≠ 53 → c ≠ 54 → c ≠ 55 → S c = u c) → G LY X 25 [rv 56, rv 3, rv 46, rv 52, iv p, iv w, iv (bstF t od p i.toNat).1, iv (bstF t od p i.toNat).2, iv i, none, none] [] S) (a := 0) (b := g) hg2.1 ?_ ?_
    · intro S hS
      refine kb_X10_bestFor_25 C r ?_
      rw [hS 3 (by decide) (by decide) (by decide), hg]
      exact ⟨⟨⟨by omega, by omega⟩, ⟨by omega, by omega⟩⟩, fun _ => ⟨hS, rfl⟩, fun z => absurd z (by omega)⟩
    · intro i i0 i1 ih S hS
      have b1 := bs i.toNat (by omega)
      have gi := gb i i0 i1
      have hB := hm i i0 i1
      have crS : LR S t od := lr.congr (fun c c1 c2 => hS c (by omega) (by omega) (by omega))
      have qS : QR S t od := by
        unfold QR at *
        rw [hS 5 (by decide) (by decide) (by decide), hS 4 (by decide) (by decide) (by decide), hS 8 (by decide) (by decide) (by decide), hS 9 (by decide) (by decide) (by decide), hS 47 (by decide) (by decide) (by decide), hS 48 (by decide) (by decide) (by decide), hS 51 (by decide) (by decide) (by decide)]
        exact qr
      have no : (okF t od p (20 + i) (wvF t od p) = 0 ∨ gnF t od p (20 + i) ≤ (bstF t od p i.toNat).1) → ∀ S' : Sto, (∀ c : Nat, c ≠ 53 → c ≠ 54 → c ≠ 55 → S' c = u c) → G LY X 25 [rv 56, rv 3, rv 46, rv 52, iv p, iv w, iv (bstF t od p i.toNat).1, iv (bstF t od p i.toNat).2, iv (i + 1), none, none] [] S' := fun q S' hS' => by
        have := ih S' hS'
        rw [bstF_n i0 q] at this
        exact this
      have yes : okF t od p (20 + i) (wvF t od p) ≠ 0 → (bstF t od p i.toNat).1 < gnF t od p (20 + i) → ∀ S' : Sto, (∀ c : Nat, c ≠ 53 → c ≠ 54 → c ≠ 55 → S' c = u c) → G LY X 25 [rv 56, rv 3, rv 46, rv 52, iv p, iv w, iv (gnF t od p (20 + i)), iv i, iv (i + 1), none, none] [] S' := fun q q2 S' hS' => by
        have := ih S' hS'
        rw [bstF_y i0 q q2] at this
        exact this
      generalize bstF t od p i.toNat = B at *
      refine kb_X10_bestFor_25 C r ?_
      rw [hS 3 (by decide) (by decide) (by decide), hg, hS 13 (by decide) (by decide) (by decide), hS 4 (by decide) (by decide) (by decide)]
      refine ⟨⟨⟨by omega, by omega⟩, ⟨by omega, by omega⟩⟩, fun z => absurd z (by omega), fun _ => ⟨⟨by omega, by omega⟩, 2, _, by decide, t_ww crS.nms crS.2.1 qS hp hB, ?_⟩⟩
      rintro ww S' ⟨hS', hww⟩
      rw [hS']
      have e5 := (lr.2.2.1 5 (by decide) (by decide)).1
      have eg : u 4 5 * (ww - w) = gnF t od p (20 + i) + feF t p (20 + i) := by
        rw [e5, hww, hw]
        unfold gnF
        omega
      have bf := feF_bd lr.fes hA.nb hB.nb
      rw [eg, hS 57 (by decide) (by decide) (by decide)]
      refine ⟨⟨⟨by omega, by omega⟩, ⟨by omega, by omega⟩⟩, fun z => ⟨⟨⟨by omega, by omega⟩, ⟨by omega, by omega⟩⟩, fun _ => no (Or.inr (by omega)) S hS, fun z2 => absurd z2 (by omega)⟩, fun z => ⟨⟨by omega, by omega⟩, 2, _, by decide, t_fee crS hA hB, ?_⟩⟩
      rintro fe x ⟨x1, x2⟩
      have hx : ∀ c : Nat, c ≠ 53 → c ≠ 54 → c ≠ 55 → x c = u c := fun c c1 c2 c3 => by rw [x1 c c3, hS c c1 c2 c3]
      have lx : LR x t od := lr.congr (fun c c1 c2 => hx c (by omega) (by omega) (by omega))
      rw [show gnF t od p (20 + i) + feF t p (20 + i) - fe = gnF t od p (20 + i) by omega, hx 57 (by decide) (by decide) (by decide)]
      refine ⟨⟨⟨by omega, by omega⟩, ⟨by omega, by omega⟩⟩, fun z2 => no (Or.inr z2) x hx, fun z2 => ⟨⟨by omega, by omega⟩, 3, _, by decide, t_alw lx hp hA hB ⟨by omega, by omega⟩, ?_⟩⟩
      rintro b y ⟨y1, y2, y3⟩
      have hy : ∀ c : Nat, c ≠ 53 → c ≠ 54 → c ≠ 55 → y c = u c := fun c c1 c2 c3 => by rw [y1 c c1 c2, hx c c1 c2 c3]
      rw [hw] at y3
      exact ⟨⟨by omega, by omega⟩, fun z3 => no (Or.inl (by omega)) y hy, fun z3 => yes (by omega) z2 y hy⟩
  exact key u (fun _ _ _ _ => rfl)
