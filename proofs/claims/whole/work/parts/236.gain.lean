/-! THE GAIN, in the reference -/
set_option maxHeartbeats 2000000 in
theorem t_X12_gainOf {s : Sto} (hb : s 75 22 = 0 ∨ s 75 22 = 1) (hm : NMS s) (hs : STS s) {p a oo : Int} (ha : 20 ≤ a ∧ a < 51) (hna : (0 ≤ s 76 a ∧ s 76 a ≤ 6) ∧ ∀ i : Int, 0 ≤ i → i < s 76 a → 0 ≤ s 77 (6 * a + i) ∧ s 77 (6 * a + i) < 26) (hO : OdR (s 75 9) oo (fun i => begS s 81 (8 * 0 + i))) (hp : 0 ≤ p ∧ p < s 75 4) (hc : 0 ≤ s 82 2 ∧ s 82 2 ≤ 99) (ht : 0 ≤ s 82 3 ∧ s 82 3 ≤ 99) (hd : 0 ≤ s 82 4 ∧ s 82 4 ≤ 99) : ClI LY 7 MX12_gainOf [.inr 75, .inl p, .inl a] s (fun r s' => (∀ c : Nat, ¬ (101 ≤ c ∧ c ≤ 106) → s' c = begS s c) ∧ ∃ v w : Int, WV s (fun i => begS s 81 (8 * 0 + i)) p v ∧ WV (mvN s a p) (fun i => begS s 81 (8 * 0 + i)) p w ∧ r = s 82 5 * (w - v) - lv (s 82 3) (s 82 4) (s 82 2) (fun i => s 77 (6 * p + i)) (fun i => s 77 (6 * a + i)) (s 76 p) (s 76 a)) := by
  refine ClI.intro (by decide) rfl (Nat.le_of_ble_eq_true rfl) (fun X C r => ?_)
  have n1 := hm.1
  have np := hm.2.1 p hp.1 hp.2
  refine kb_X12_gainOf_0 C r ⟨5, _, by decide, t_worthOfN hb hm hs (o := 0) (by decide) hO hp, ?_⟩
  rintro v u ⟨u1, u2⟩
  have eu : ∀ c : Nat, c ≠ 75 → c ≠ 81 → ¬ (101 ≤ c ∧ c ≤ 103) → u c = s c := fun c c1 c2 c3 => by rw [u1 c (by omega) (by omega) (by omega), begS_row c1 c2]
  have u75 : ∀ i : Int, i ≠ 22 → u 75 i = s 75 i := fun i z => by rw [u1 75 (by decide) (by decide) (by decide), begS_75 z]
  have ub : u 75 22 = 1 := by rw [u1 75 (by decide) (by decide) (by decide), begS_22 hb]
  have e81 : begS u 81 = begS s 81 := by rw [begS_81 (s := begS s) (t := u) (by rw [u1 75 (by decide) (by decide) (by decide)]) (u1 81 (by decide) (by decide) (by decide)), begS_i hb]
  have c76 := eu 76 (by decide) (by decide) (by decide)
  have c77 := eu 77 (by decide) (by decide) (by decide)
  have c82 := eu 82 (by decide) (by decide) (by decide)
  have mu : NMS u := by
    unfold NMS at *
    rw [u75 4 (by decide), c76, c77, c82, eu 79 (by decide) (by decide) (by decide), eu 80 (by decide) (by decide) (by decide)]
    exact hm
  have su : STS u := by
    unfold STS at *
    rw [eu 83 (by decide) (by decide) (by decide), eu 84 (by decide) (by decide) (by decide), eu 85 (by decide) (by decide) (by decide), eu 86 (by decide) (by decide) (by decide)]
    exact hs
  refine ⟨6, _, by decide, t_X12_worthWith (Or.inr ub) mu su (oo := oo) ha (by rw [c76, c77]; exact hna) (by rw [u75 9 (by decide), e81]; exact hO) (by rw [u75 4 (by decide)]; exact hp), ?_⟩
  rintro w t ⟨t1, t2⟩
  have et : ∀ c : Nat, ¬ (101 ≤ c ∧ c ≤ 106) → t c = begS s c := fun c hc => by
    rw [t1 c (by omega) (by omega) (by omega) (by omega)]
    by_cases z : c = 81
    · rw [z, e81]
    · by_cases z2 : c = 75
      · rw [z2]
        funext i
        by_cases z3 : i = 22
        · rw [z3, begS_22 hb, begS_22 (Or.inr ub)]
        · rw [begS_75 z3, begS_75 z3, u75 i z3]
      · rw [begS_row z2 z, begS_row z2 z, eu c z2 z (by omega)]
  have tr : ∀ c : Nat, c ≠ 75 → c ≠ 81 → ¬ (101 ≤ c ∧ c ≤ 106) → t c = s c := fun c c1 c2 c3 => by rw [et c c3, begS_row c1 c2]
  have d76 := tr 76 (by decide) (by decide) (by decide)
  have d77 := tr 77 (by decide) (by decide) (by decide)
  have d82 := tr 82 (by decide) (by decide) (by decide)
  refine ⟨0, _, by decide, t_X12_feeOf (a := p) (b := a) (by omega) (by omega) (by rw [d76]; exact np.1) (by rw [d76]; exact hna.1) (by rw [d76, d77]; exact np.2) (by rw [d76, d77]; exact hna.2) (by rw [d82]; exact hc) (by rw [d82]; exact ht) (by rw [d82]; exact hd), ?_⟩
  rintro fe x ⟨x1, x2⟩
  refine ⟨fun c hc => by rw [x1 c (by omega) (by omega), et c hc], v, w, u2, ?_, by rw [c82, x2, d76, d77, d82]⟩
  rw [e81] at t2
  refine t2.congr (fun c c1 c2 _ _ => ?_) ?_ ?_
  · by_cases z : c = 76
    · rw [z, mvN_76, mvN_76, c76]
    · by_cases z2 : c = 77
      · rw [z2, mvN_77, mvN_77, c77]
      · rw [mvN_o z z2, mvN_o z z2, eu c (by omega) (by omega) (by omega)]
  · rw [mvN_o (by decide) (by decide), mvN_o (by decide) (by decide), u75 4 (by decide)]
  · rw [mvN_o (by decide) (by decide), mvN_o (by decide) (by decide), u75 9 (by decide)]
