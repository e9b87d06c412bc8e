/-! HARM in the reference -/
theorem t_fwM {u s : Sto} {od oq : Int → Int} (hh : LM u s od) {o oo : Int} (ho : 0 ≤ o ∧ o < 21) (hq : ∀ i : Int, begS s 81 (8 * o + i) = oq i) (hO : OdR (s 75 9) oo oq) : ClV LY 4 MX12_findsWorths [.inr 75, .inl o] s (fun s' => (∀ c : Nat, c ≠ 101 → c ≠ 102 → c ≠ 103 → s' c = begS s c) ∧ (∀ p : Int, 0 ≤ p → p < s 75 4 → s' 103 p = wvF s oq p) ∧ ∃ pl : Int → Int, PlR (s 75 9) oq pl ∧ RowR (s' 102) (s 75 4) (quS s pl)) := by
  obtain ⟨h, hd, hu⟩ := hh
  obtain ⟨n1, n2, n3, n4, n5⟩ := h.nms
  have e : (fun i => begS s 81 (8 * o + i)) = oq := funext hq
  refine (t_X12_findsWorths hd.1 ho (by rw [e]; exact hO) n1 n2 n4 n5 n3 h.sts).mono ?_
  rw [e]
  rintro w ⟨w1, w2, w3, w4⟩
  have w3' : RowR (w 102) (s 75 4) (quS s (w 101)) := w3
  refine ⟨w1, fun p p0 p1 => ?_, w 101, w2, w3'⟩
  have w5' : RowR (w 102) ((s 75 4).toNat : Nat) (quS s (w 101)) := by rw [Int.toNat_of_nonneg n1.1]; exact w3
  obtain ⟨i, i1, i2, i3⟩ := w5'.onto (p := p) p0 (by omega)
  refine WV.valN h.nms hO ⟨w 101, i, w2, i1, by omega, ?_, ?_⟩
  · have := w3.2 i i1 (by omega)
    rw [i3] at this
    exact this.symm
  · rw [← i3]
    exact w4 i i1 (by omega)
set_option maxHeartbeats 4000000 in
theorem t_harmM {u s : Sto} {od oq : Int → Int} (hh : LM u s od) {o oo : Int} (ho : 0 ≤ o ∧ o < 21) (hq : ∀ i : Int, begS s 81 (8 * o + i) = oq i) (hO : OdR (s 75 9) oo oq) : ClI LY 5 MX12_harmOf [.inr 75, .inl o] s (fun r s' => (∀ c : Nat, c ≠ 101 → c ≠ 102 → c ≠ 103 → c ≠ 114 → s' c = begS s c) ∧ r = hrS (wvF s od) (wvF s oq) (s 75 4) (s 75 4).toNat) := by
  have n1 := hh.1.nms.1
  have b0 : ∀ p : Int, 0 ≤ p → p < s 75 4 → -594 ≤ wvF s od p ∧ wvF s od p ≤ 594 := fun p p0 p1 => hh.1.wvb ⟨p0, p1⟩
  have b1 : ∀ p : Int, 0 ≤ p → p < s 75 4 → -594 ≤ wvF s oq p ∧ wvF s oq p ≤ 594 := fun p p0 p1 => WV_F_bd hh.1.nms hh.1.sts hO ⟨p0, p1⟩
  refine ClI.intro (by decide) rfl (Nat.le_of_ble_eq_true rfl) (fun X C r => ?_)
  refine kb_X12_harmOf_0 C r ⟨4, _, by decide, t_fwM hh (o := 0) (oo := u 3 2) (oq := od) (by decide) hh.2.1.2 hh.1.2.1, ?_⟩
  rintro a ⟨a1, a2, _⟩
  have ea : ∀ c : Nat, ¬ (99 ≤ c ∧ c ≤ 117) → a c = begS s c := fun c hc => a1 c (by omega) (by omega) (by omega)
  obtain ⟨la, sa, ba⟩ := hh.work ea
  have a4 : a 75 4 = s 75 4 := sa.2.1
  -- the sums
  have sums : ∀ S : Sto, ((∀ c : Nat, c ≠ 101 → c ≠ 102 → c ≠ 103 → c ≠ 114 → S c = begS s c) ∧ (∀ p : Int, 0 ≤ p → p < s 75 4 → S 114 p = wvF s od p ∧ S 103 p = wvF s oq p)) → G LY X 42 [rv 75, iv o, iv 0, iv 0, none, none, none] [] S := by
    rintro S ⟨k1, k2⟩
    have S4 : S 75 4 = s 75 4 := by rw [k1 75 (by decide) (by decide) (by decide) (by decide), begS_75 (by decide)]
    have key : G LY X 42 [rv 75, iv o, iv (hrS (wvF s od) (wvF s oq) (s 75 4) (0 : Int).toNat), iv 0, none, none, none] [] S := by
      refine downI (P := fun k => G LY X 42 [rv 75, iv o, iv (hrS (wvF s od) (wvF s oq) (s 75 4) k.toNat), iv k, none, none, none] [] S) (a := 0) (b := s 75 4) n1.1 ?_ ?_
      · refine kb_X12_harmOf_42 C r ?_
        rw [S4]
        exact ⟨⟨⟨by omega, by omega⟩, ⟨by omega, by omega⟩⟩, fun _ => ⟨k1, rfl⟩, fun z => absurd z (by omega)⟩
      · intro k k0 kn ih
        have c0 := b0 k k0 kn
        have c1 := b1 k k0 kn
        rw [hrS_s _ _ _ k0] at ih
        refine kb_X12_harmOf_42 C r ?_
        rw [S4, (k2 k k0 kn).1, (k2 k k0 kn).2]
        refine ⟨⟨⟨by omega, by omega⟩, ⟨by omega, by omega⟩⟩, fun z => absurd z (by omega), fun _ => ⟨⟨by omega, by omega⟩, ⟨by omega, by omega⟩, ⟨by omega, by omega⟩, fun z => ?_, fun z => ?_⟩⟩
        · rw [show max 0 (wvF s od k - wvF s oq k) = wvF s od k - wvF s oq k by omega] at ih
          generalize hrS (wvF s od) (wvF s oq) (s 75 4) k.toNat = H at *
          have inner : G LY X 79 [rv 75, iv o, iv H, iv k, iv (wvF s od k - wvF s oq k), iv (cntI (lowR (wvF s od) k) (0 : Int).toNat), iv 0] [] S := by
            refine downI (P := fun q => G LY X 79 [rv 75, iv o, iv H, iv k, iv (wvF s od k - wvF s oq k), iv (cntI (lowR (wvF s od) k) q.toNat), iv q] [] S) (a := 0) (b := s 75 4) n1.1 ?_ ?_
            · refine kb_X12_harmOf_79 C r ?_
              rw [S4]
              exact ⟨⟨⟨by omega, by omega⟩, ⟨by omega, by omega⟩⟩, fun _ => ih, fun z => absurd z (by omega)⟩
            · intro q q0 q1 ih2
              have c2 := b0 q q0 q1
              rw [cntI_s _ q0] at ih2
              have yes : lowR (wvF s od) k q → G LY X 79 [rv 75, iv o, iv H, iv k, iv (wvF s od k - wvF s oq k), iv (cntI (lowR (wvF s od) k) q.toNat + 1), iv (q + 1)] [] S := fun h => by
                rw [oneIf_t h] at ih2
                exact ih2
              have no : ¬ lowR (wvF s od) k q → G LY X 79 [rv 75, iv o, iv H, iv k, iv (wvF s od k - wvF s oq k), iv (cntI (lowR (wvF s od) k) q.toNat), iv (q + 1)] [] S := fun h => by
                rw [oneIf_f h, Int.add_zero] at ih2
                exact ih2
              refine kb_X12_harmOf_79 C r ?_
              rw [S4, (k2 k k0 kn).1, (k2 q q0 q1).1]
              refine ⟨⟨⟨by omega, by omega⟩, ⟨by omega, by omega⟩⟩, fun z => absurd z (by omega), fun _ => ⟨⟨by omega, by omega⟩, ⟨by omega, by omega⟩, ⟨⟨by omega, by omega⟩, ⟨by omega, by omega⟩⟩, fun z => yes (Or.inl z), fun z => ⟨⟨by omega, by omega⟩, ⟨by omega, by omega⟩, ⟨⟨by omega, by omega⟩, ⟨by omega, by omega⟩⟩, fun z2 => no (by unfold lowR; omega), fun z2 => ⟨⟨⟨by omega, by omega⟩, ⟨by omega, by omega⟩⟩, fun z3 => no (by unfold lowR; omega), fun z3 => yes (Or.inr ⟨z2, z3⟩)⟩⟩⟩⟩
          exact inner
        · rw [show max 0 (wvF s od k - wvF s oq k) = 0 by omega, Int.zero_mul, Int.add_zero] at ih
          exact ih
    exact key
  have copy : ∀ S : Sto, ((∀ c : Nat, c ≠ 114 → S c = a c) ∧ (∀ p : Int, 0 ≤ p → p < 0 → S 114 p = wvF s od p)) → G LY X 7 [rv 75, iv o, iv 0, none, none, none, none] [] S := by
    refine downI (P := fun k => ∀ S : Sto, ((∀ c : Nat, c ≠ 114 → S c = a c) ∧ (∀ p : Int, 0 ≤ p → p < k → S 114 p = wvF s od p)) → G LY X 7 [rv 75, iv o, iv k, none, none, none, none] [] S) (a := 0) (b := s 75 4) n1.1 ?_ ?_
    · rintro S ⟨k1, k2⟩
      have eS : ∀ c : Nat, ¬ (99 ≤ c ∧ c ≤ 117) → S c = begS s c := fun c hc => by rw [k1 c (by omega), ea c hc]
      obtain ⟨lS, sS, bS⟩ := hh.work eS
      have q81 : begS S = S := begS_1 bS
      refine kb_X12_harmOf_7 C r ?_
      rw [k1 75 (by decide), a4]
      refine ⟨⟨⟨by omega, by omega⟩, ⟨by omega, by omega⟩⟩, fun _ => ⟨4, _, by decide, t_fwM lS (oo := oo) (oq := oq) ho (fun i => by rw [q81, eS 81 (by decide)]; exact hq i) (by rw [sS.2.2.1]; exact hO), ?_⟩, fun z => absurd z (by omega)⟩
      rintro y ⟨y1, y2, _⟩
      rw [sS.2.1] at y2
      refine sums y ⟨fun c c1 c2 c3 c4 => ?_, fun p p0 p1 => ⟨?_, ?_⟩⟩
      · rw [y1 c c1 c2 c3, q81, k1 c c4, a1 c c1 c2 c3]
      · rw [y1 114 (by decide) (by decide) (by decide), q81, k2 p p0 p1]
      · rw [y2 p p0 p1, sS.wv]
    · rintro k k0 kn ih S ⟨k1, k2⟩
      refine kb_X12_harmOf_7 C r ?_
      rw [k1 75 (by decide), a4]
      refine ⟨⟨⟨by omega, by omega⟩, ⟨by omega, by omega⟩⟩, fun z => absurd z (by omega), fun _ => ⟨⟨by omega, by omega⟩, ⟨by omega, by omega⟩, ?_⟩⟩
      rintro y hy
      refine ih y ⟨fun c hc => by rw [hy, up_row hc, k1 c hc], fun p p0 p1 => ?_⟩
      rw [hy, up_if]
      by_cases e : p = k
      · rw [if_pos e, k1 103 (by decide), a2 k k0 kn, e]
      · rw [if_neg e]; exact k2 p p0 (by omega)
  exact copy a ⟨fun _ _ => rfl, fun p p0 p1 => absurd p1 (by omega)⟩
