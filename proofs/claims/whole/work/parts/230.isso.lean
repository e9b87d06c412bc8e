/-! A LINE OF NAMING, worked off by the reference -/
set_option maxHeartbeats 4000000 in
theorem t_X12_isSo {k a b : Int} {s : Sto} (hk : 0 ≤ k ∧ k < 32) (ea : s 94 k = a) (eb : s 95 k = b) (h0 : 0 ≤ a ∧ a ≤ b ∧ b ≤ 400) (hT : ∀ i : Int, a ≤ i → i < b → TokR (s 20 i) (s 96 i) (s 97 i)) (hL : a < b → LineOk (s 96) (s 97) a b) (hf : ∀ j : Int, 0 ≤ j → j < 10 → rg (s 99 j)) : ClI LY 1 MX12_isSo [.inr 75, .inl 0, .inl k] s (fun r s' => (∀ c : Nat, c ≠ 100 → s' c = s c) ∧ (r = 0 ∨ r = 1) ∧ (a = b → r = 1) ∧ (a < b → evL (s 99) (s 96) (s 97) a (b - a).toNat = [r])) := by
  refine ClI.introZ (by decide) rfl (Nat.le_of_ble_eq_true rfl) (fun X C r => ?_)
  refine kb_X12_isSo_0 C r ⟨hk, hk, ?_⟩
  rw [ea, eb]
  refine ⟨⟨⟨by omega, by omega⟩, ⟨by omega, by omega⟩⟩, fun hne => ⟨hk, ?_⟩, fun e => ⟨fun _ _ => rfl, Or.inr rfl, fun _ => rfl, fun z => absurd z (by omega)⟩⟩
  obtain ⟨T, T1, T2, T3⟩ := hL (by omega)
  rw [show 400 * 0 + a = a by omega]
  have z0 : (a - a).toNat = 0 := by omega
  suffices H : ∀ S : Sto, ((∀ c : Nat, c ≠ 100 → S c = s c) ∧ stR (S 100) (evL (s 99) (s 96) (s 97) a (a - a).toNat) ∧ kdR (T a) (evL (s 99) (s 96) (s 97) a (a - a).toNat)) → G LY X 33 [rv 75, iv 0, iv k, iv ((evL (s 99) (s 96) (s 97) a (a - a).toNat).length : Int), iv a] [] S by
    have := H s ⟨fun _ _ => rfl, by rw [z0]; exact trivial, by rw [z0, T1]; exact trivial⟩
    rw [z0] at this
    exact this
  refine downI (P := fun i => ∀ S : Sto, ((∀ c : Nat, c ≠ 100 → S c = s c) ∧ stR (S 100) (evL (s 99) (s 96) (s 97) a (i - a).toNat) ∧ kdR (T i) (evL (s 99) (s 96) (s 97) a (i - a).toNat)) → G LY X 33 [rv 75, iv 0, iv k, iv ((evL (s 99) (s 96) (s 97) a (i - a).toNat).length : Int), iv i] [] S) (a := a) (b := b) (by omega) ?_ ?_
  · rintro S ⟨k1, k2, k3⟩
    rw [T2] at k3
    match hl : evL (s 99) (s 96) (s 97) a (b - a).toNat, k2, k3 with
    | [], _, k3 => exact k3.elim
    | _ :: _ :: _, _, k3 => exact k3.2.elim
    | [v], k2, k3 =>
      have hv := k3.1.2 rfl
      have k2 : S 100 0 = v := k2.1
      refine kb_X12_isSo_33 C r ⟨hk, ?_⟩
      rw [k1 95 (by decide), eb, k2]
      exact ⟨⟨⟨by omega, by omega⟩, ⟨by omega, by omega⟩⟩, fun _ => ⟨⟨by omega, by omega⟩, fun z => ⟨k1, Or.inl rfl, fun y => absurd y hne, fun _ => by rw [hl, z]⟩, fun z => ⟨k1, Or.inr rfl, fun y => absurd y hne, fun _ => by rw [hl, show v = 1 by omega]⟩⟩, fun z => absurd z (by omega)⟩
  · rintro i i0 i1 ih S ⟨k1, k2, k3⟩
    obtain ⟨g1, g2, g3⟩ := T3 i i0 i1
    have tk := hT i i0 i1
    have ln := kdR_len _ _ k3
    have kn := kd_step (fa := s 99) (x := s 97 i) hf (by unfold TokR at tk; constructor <;> intro z <;> first | exact ⟨by omega, by omega⟩) g2 k3
    have e96 : S 96 = s 96 := k1 96 (by decide)
    have e97 : S 97 = s 97 := k1 97 (by decide)
    have e99 : S 99 = s 99 := k1 99 (by decide)
    rw [evL_s (s 99) (s 96) (s 97) i0] at ih
    have top := fun (b : Int) (m : List Int) (z : s 96 i = 5) (e : evL (s 99) (s 96) (s 97) a (i - a).toNat = b :: m) => evL_top (g3 z).1 (g3 z).2.1 e
    have cs := fun (_ : Unit) => stk_cases (fa := s 99) (x := s 97 i) g2 k3
    generalize evL (s 99) (s 96) (s 97) a (i - a).toNat = l at *
    unfold TokR at tk
    have ro : rg (s 96 i) := ⟨by omega, by omega⟩
    refine kb_X12_isSo_33 C r ⟨hk, ?_⟩
    rw [k1 95 (by decide), eb, e96, e97, e99]
    have push : ∀ x : Int, stepV (s 99) (s 96 i) (s 97 i) l = x :: l → G LY X 33 [rv 75, iv 0, iv k, iv ((l.length : Int) + 1), iv (i + 1)] [] (up S 100 (l.length : Int) x) := by
      intro x hx
      rw [hx] at ih kn
      exact ih _ ⟨fun c c1 => by rw [up_row c1, k1 c c1], stR_push k2 rfl, kn⟩
    have i8 : 0 ≤ i ∧ i < 800 := ⟨by omega, by omega⟩
    refine ⟨⟨⟨by omega, by omega⟩, ⟨by omega, by omega⟩⟩, fun z => absurd z (by omega), fun _ => ⟨i8, ro, fun w1 => ⟨i8, ro, fun w2 => absurd w1 w2, fun _ => ⟨i8, ⟨by omega, by omega⟩, ?_⟩⟩, fun w1 => ⟨i8, ro, fun w2 => ⟨i8, ro, fun w3 => ⟨i8, ?_⟩, fun w3 => ?_⟩, fun w2 => ⟨i8, ro, fun _ => ⟨i8, ⟨by omega, by omega⟩, ⟨by omega, by omega⟩, ?_⟩, fun w3 => absurd w3 w1⟩⟩⟩⟩
    · rintro t rfl
      rcases cs () with ⟨c1, c2⟩ | ⟨c1, c2⟩ | ⟨c1, c2⟩
      · rw [if_pos w1] at c2
        exact push _ c2
      · omega
      · omega
    · rcases cs () with ⟨c1, c2⟩ | ⟨c1, c2⟩ | ⟨c1, y, x, m, c3, c4, c5, c6, c7⟩
      · omega
      · omega
      · have hl2 : (l.length : Int) = (m.length : Int) + 2 := by rw [c3]; simp; omega
        have k2' := k2
        rw [c3] at k2'
        have t1 : S 100 ((l.length : Int) - 1) = y := by rw [hl2, show (m.length : Int) + 2 - 1 = ((x :: m).length : Int) by simp; omega]; exact k2'.1
        have t2 : S 100 ((l.length : Int) - 1 - 1) = x := by rw [hl2, show (m.length : Int) + 2 - 1 - 1 = (m.length : Int) by omega]; exact k2'.2.1
        rw [t1, t2]
        refine ⟨⟨by omega, by omega⟩, ⟨by omega, by omega⟩, 0, _, by decide, t_X12_twoOf c1 c4 c5 (fun z => ?_), ?_⟩
        · rw [top y (x :: m) z c3]; exact (g3 z).2.2
        · rintro v t ⟨ht, hv⟩
          rw [ht]
          refine ⟨⟨by omega, by omega⟩, ?_⟩
          rintro t2 rfl
          rw [c7] at ih kn
          have := ih (up S 100 ((l.length : Int) - 1 - 1) v) ⟨fun c c1 => by rw [up_row c1, k1 c c1], by rw [← hv]; exact stR_push k2'.2.2 (by omega), kn⟩
          rw [show ((twV (s 96 i) x y :: m).length : Int) = (l.length : Int) - 1 by simp; omega] at this
          exact this
    · rcases cs () with ⟨c1, c2⟩ | ⟨c1, y, m, c3, c4, c5⟩ | ⟨c1, c2⟩
      · omega
      · have hl2 : (l.length : Int) = (m.length : Int) + 1 := by rw [c3]; simp
        have k2' := k2
        rw [c3] at k2'
        have t1 : S 100 ((l.length : Int) - 1) = y := by rw [hl2, show (m.length : Int) + 1 - 1 = (m.length : Int) by omega]; exact k2'.1
        rw [t1]
        refine ⟨⟨by omega, by omega⟩, ⟨by omega, by omega⟩, ?_⟩
        rintro t rfl
        rw [c5] at ih kn
        have := ih (up S 100 ((l.length : Int) - 1) (1 - y)) ⟨fun c c1 => by rw [up_row c1, k1 c c1], stR_push k2'.2 (by omega), kn⟩
        rw [show (((1 - y) :: m).length : Int) = (l.length : Int) by simp; omega] at this
        exact this
      · omega
    · rintro t rfl
      rcases cs () with ⟨c1, c2⟩ | ⟨c1, c2⟩ | ⟨c1, c2⟩
      · rw [if_neg w1] at c2
        exact push _ c2
      · omega
      · omega
