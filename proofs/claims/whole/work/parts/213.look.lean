/-! OPERATION: look -/
def lookV (v K al ppl gd vt nl yr st : Int) (f g : Int → Int) : Int := if 10 ≤ v ∧ v < 10 + K then f (v - 10) else if 20 ≤ v ∧ v < 27 then g (v - 20) else if v = 0 then K else if v = 1 then ppl else if v = 2 then gd else if v = 3 then vt else if v = 4 then nl else if v = 5 then yr else if v = 6 then st else al
set_option maxHeartbeats 2000000 in
theorem t_X11_look {v : Int} {s : Sto} {f : Int → Int} (hv : rg v) (hO : OdR (s 3 0) (s 3 2) f) : ClI LY 1 MX11_look [.inr 0, .inl v] s (fun r s' => s' = s ∧ r = lookV v (s 3 0) (-1) (s 5 0) (s 3 9) (s 3 11) (s 17 0) (s 3 3) (s 3 1) f (s 4)) := by
  refine ClI.intro (by decide) rfl (Nat.le_of_ble_eq_true rfl) (fun X C r => ?_)
  refine kb_X11_look_0 C r ?_
  have hK := hO.1
  have H67 : ¬ (10 ≤ v ∧ v < 10 + s 3 0) → ¬ (20 ≤ v ∧ v < 27) → G LY X 67 [rv 0, iv v] [] s := by
    intro n1 n2
    refine kb_X11_look_67 C r ⟨hv, fun q => ⟨rfl, ?_⟩, fun q => ⟨rfl, ?_⟩, fun q => ⟨rfl, ?_⟩, fun q => ⟨rfl, ?_⟩, fun q => ⟨rfl, ?_⟩, fun q => ⟨rfl, ?_⟩, fun q => ⟨rfl, ?_⟩, fun q => ⟨rfl, ?_⟩⟩ <;> (unfold lookV; rw [if_neg n1, if_neg n2]) <;> (repeat (first | rw [if_pos (by omega)] | rw [if_neg (by omega)]))
  have H20 : ¬ (10 ≤ v ∧ v < 10 + s 3 0) → 20 ≤ v → v < 27 → s = s ∧ s 4 (v - 20) = lookV v (s 3 0) (-1) (s 5 0) (s 3 9) (s 3 11) (s 17 0) (s 3 3) (s 3 1) f (s 4) := by
    intro n1 n2 n3
    refine ⟨rfl, ?_⟩
    unfold lookV
    rw [if_neg n1, if_pos ⟨n2, n3⟩]
  refine ⟨hv, fun q1 => ⟨hv, fun q2 => H67 (by omega) (by omega), fun q2 => ⟨hv, fun q3 => H67 (by omega) (by omega), fun q3 => ⟨⟨by omega, by omega⟩, H20 (by omega) q2 q3⟩⟩⟩, fun q1 => ⟨⟨hv, ⟨by omega, by omega⟩⟩, fun q2 => ⟨hv, fun q3 => H67 (by omega) (by omega), fun q3 => ⟨hv, fun q4 => H67 (by omega) (by omega), fun q4 => ⟨⟨by omega, by omega⟩, H20 (by omega) q3 q4⟩⟩⟩, fun q2 => ?_⟩⟩
  refine ⟨0, _, by decide, t_X5_orderLetter, ?_⟩
  rintro r1 s1 ⟨rfl, rfl⟩
  refine ⟨rfl, ?_⟩
  rw [hO.letter ⟨by omega, by omega⟩]
  unfold lookV
  rw [if_pos ⟨q1, q2⟩]
set_option maxHeartbeats 2000000 in
theorem t_X12_look {v : Int} {s : Sto} (hv : rg v) (hb : s 75 22 = 0 ∨ s 75 22 = 1) (hK : 2 ≤ s 75 9 ∧ s 75 9 ≤ 8) : ClI LY 1 MX12_look [.inr 75, .inl v] s (fun r s' => s' = begS (up s 75 0 0) ∧ r = lookV v (s 75 9) (-1) (s 75 4) (s 75 8) (s 75 18) (s 75 30) (s 75 21) (s 75 1) (begS (up s 75 0 0) 81) (s 82)) := by
  refine ClI.intro (by decide) rfl (Nat.le_of_ble_eq_true rfl) (fun X C r => ?_)
  refine kb_X12_look_0 C r ?_
  rintro s1 rfl
  have e : ∀ i : Int, i ≠ 0 → i ≠ 22 → begS (up s 75 0 0) 75 i = s 75 i := fun i g1 g2 => by rw [begS_75 g2, up_idx g1]
  have e82 : begS (up s 75 0 0) 82 = s 82 := by rw [begS_row (by decide) (by decide), up_row (by decide)]
  refine ⟨0, _, by decide, t_X12_begins (by rw [up_idx (by decide)]; exact hb), ?_⟩
  rintro s2 rfl
  rw [e 9 (by decide) (by decide), e 4 (by decide) (by decide), e 8 (by decide) (by decide), e 18 (by decide) (by decide), e 30 (by decide) (by decide), e 21 (by decide) (by decide), e 1 (by decide) (by decide)]
  generalize begS (up s 75 0 0) = u at e82 ⊢
  have fin : ∀ x : Int, x = lookV v (s 75 9) (-1) (s 75 4) (s 75 8) (s 75 18) (s 75 30) (s 75 21) (s 75 1) (u 81) (s 82) → u = u ∧ x = lookV v (s 75 9) (-1) (s 75 4) (s 75 8) (s 75 18) (s 75 30) (s 75 21) (s 75 1) (u 81) (s 82) := fun x hx => ⟨rfl, hx⟩
  refine ⟨hv, fun q0 => ⟨hv, fun q1 => ⟨hv, fun q2 => ⟨hv, fun q3 => ⟨hv, fun q4 => ⟨hv, fun q5 => ⟨hv, fun q6 => ?_, fun q6 => fin _ ?_⟩, fun q5 => fin _ ?_⟩, fun q4 => fin _ ?_⟩, fun q3 => fin _ ?_⟩, fun q2 => fin _ ?_⟩, fun q1 => fin _ ?_⟩, fun q0 => fin _ ?_⟩
  · refine ⟨0, _, by decide, t_X12_isIn hv (by decide) ⟨by omega, by omega⟩, ?_⟩
    rintro r3 s3 ⟨rfl, h1, h2⟩
    refine ⟨by omega, fun z => ?_, fun z => ⟨⟨by omega, by omega⟩, fin _ ?_⟩⟩
    · refine ⟨0, _, by decide, t_X12_isIn hv (by decide) (by decide), ?_⟩
      rintro r4 s4 ⟨rfl, h3, h4⟩
      refine ⟨by omega, fun z2 => fin _ ?_, fun z2 => ⟨⟨by omega, by omega⟩, fin _ ?_⟩⟩
      · unfold lookV
        rw [if_neg (by omega), if_neg (by omega), if_neg q0, if_neg q1, if_neg q2, if_neg q3, if_neg q4, if_neg q5, if_neg q6]
      · unfold lookV
        rw [if_neg (by omega), if_pos (by omega), e82]
    · unfold lookV
      rw [if_pos (by omega)]
  all_goals
    unfold lookV
    (repeat (first | rw [if_pos (by omega)] | rw [if_neg (by omega)]))
theorem op_look [Inhabited YT] {s : Sto} (h : Inv s) {v : Int} (hv : rg v) : OpI MX11_look MX12_look [.inl v] s := by
  obtain ⟨a1, a2, a3, a4, a5, a6, a7, a8, a9, a10, a11, a12, a13, a14, a15⟩ := h.2.1
  obtain ⟨b3, b10, b14⟩ := landB h
  have h15 : s 17 0 = s 75 30 := a15.1
  have hN : 0 ≤ s 17 0 ∧ s 17 0 ≤ 16 := a15.2.1
  have h6 : s 5 0 = s 75 4 := a6.1
  have h6b : 0 ≤ s 5 0 ∧ s 5 0 ≤ 20 := a6.2
  refine ⟨1, 1, _, by decide, by decide, t_X11_look hv b3, ?_⟩
  rintro r1 s1 ⟨rfl, rfl⟩
  refine ⟨?_, (t_X12_look hv h.2.2.2.2.1 (by rw [← a1.1]; exact a1.2)).mono ?_⟩
  · unfold lookV
    split
    · have := b3.2.1 (v - 10) (by omega) (by omega)
      have := b3.1
      exact ⟨by omega, by omega⟩
    · split
      · have := a5 (v - 20) (by omega) (by omega)
        have hA : rg (stA 500 (v - 20)) ∧ rg (stA 501 (v - 20)) := by
          constructor <;> (unfold stA; split <;> (repeat' split) <;> decide)
        have t1 : stA 500 (v - 20) ≤ s1 4 (v - 20) := this.2.1
        have t2 : s1 4 (v - 20) ≤ stA 501 (v - 20) := this.2.2
        exact ⟨by omega, by omega⟩
      · have k1 := a2.2
        have k2 : rg (s1 3 3) := by have := a4.2; exact ⟨by omega, by omega⟩
        have k3 := a1.2
        have k4 := a11.2
        have k5 := a13.2
        (repeat' split) <;> first | exact k1 | exact k2 | (constructor <;> omega) | decide
  · rintro r2 s2 ⟨rfl, rfl⟩
    refine ⟨?_, (h.told 0).beg⟩
    rw [begS_81 (s := s1) (t := up s1 75 0 0) (up_idx (by decide)) (up_row (by decide))]
    rw [← a1.1, ← h6, ← a11.1, ← a13.1, ← h15, ← a4.1, ← a2.1]
    unfold lookV
    by_cases g1 : 10 ≤ v ∧ v < 10 + s1 3 0
    · rw [if_pos g1, if_pos g1]
    · rw [if_neg g1, if_neg g1]
      by_cases g2 : 20 ≤ v ∧ v < 27
      · rw [if_pos g2, if_pos g2]
        exact (a5 (v - 20) (by omega) (by omega)).1.symm
      · rw [if_neg g2, if_neg g2]
