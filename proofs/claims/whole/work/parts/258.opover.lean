/-! OPERATION: over -/
/-- what is FOR a over b -/
def ovS (s : Sto) (a b : Int) : Int := ovF (fun v l => atF (fun i => s 81 (8 * (7 + v) + i)) l (s 75 9).toNat) (s 89) a b (s 75 18).toNat
theorem Inv.vts [Inhabited YT] {s : Sto} (h : Inv s) : (s 3 0 = s 75 9 ∧ s 3 11 = s 75 18) ∧ (2 ≤ s 75 9 ∧ s 75 9 ≤ 8) ∧ (0 ≤ s 75 18 ∧ s 75 18 ≤ 12) ∧ (∀ v : Int, 0 ≤ v → v < s 75 18 → OdR (s 75 9) (s 14 v) (fun i => s 81 (8 * (7 + v) + i)) ∧ (s 15 v = s 89 v ∧ 1 ≤ s 89 v ∧ s 89 v ≤ 9) ∧ (s 16 v = s 90 v ∧ 0 ≤ s 90 v ∧ s 90 v ≤ 999)) := by
  obtain ⟨a1, a2, a3, a4, a5, a6, a7, a8, a9, a10, a11, a12, a13, a14, a15⟩ := h.2.1
  have e0 : s 3 0 = s 75 9 := a1.1
  have b0 : 2 ≤ s 3 0 ∧ s 3 0 ≤ 8 := a1.2
  have e1 : s 3 11 = s 75 18 := a13.1
  have b1 : 0 ≤ s 3 11 ∧ s 3 11 ≤ 12 := a13.2
  refine ⟨⟨e0, e1⟩, by omega, by omega, fun v v0 v1 => ?_⟩
  obtain ⟨g1, g2, g3⟩ := a14 v v0 (by show v < s 3 11; omega)
  have g1' : OdR (s 3 0) (s 14 v) (fun i => s 81 (8 * (7 + v) + i)) := g1
  have g2' : s 15 v = s 89 v ∧ 1 ≤ s 15 v ∧ s 15 v ≤ 9 := g2
  have g3' : s 16 v = s 90 v ∧ 0 ≤ s 16 v ∧ s 16 v ≤ 999 := g3
  rw [e0] at g1'
  exact ⟨g1', by omega, by omega⟩
theorem ovS_bd [Inhabited YT] {s : Sto} (h : Inv s) (a b : Int) : 0 ≤ ovS s a b ∧ ovS s a b ≤ 108 := by
  obtain ⟨_, _, v3, v4⟩ := h.vts
  have := ovF_bd (P := fun v l => atF (fun i => s 81 (8 * (7 + v) + i)) l (s 75 9).toNat) (w := s 89) (n := s 75 18) (fun v v0 v1 => (v4 v v0 v1).2.1.2) a b (s 75 18).toNat (by omega)
  unfold ovS
  omega
theorem ovS_congr {s t : Sto} (e9 : t 75 9 = s 75 9) (e18 : t 75 18 = s 75 18) (e81 : t 81 = s 81) (e89 : t 89 = s 89) (a b : Int) : ovS t a b = ovS s a b := by
  unfold ovS
  rw [e9, e18, e81, e89]
/-- in the class, under what holds between two calls -/
theorem t_cnt [Inhabited YT] {s t : Sto} (h : Inv s) (e : ∀ c : Nat, (3 ≤ c ∧ c ≤ 20) → t c = s c) : ClV LY 1 MX0_count [.inr 59, .inr 3] t (fun s' => (∀ c : Nat, c ≠ 60 → s' c = t c) ∧ ∀ a b : Int, 0 ≤ a → a < 8 → 0 ≤ b → b < 8 → s' 60 (a * 8 + b) = if a < s 75 9 ∧ b < s 75 9 then ovS s a b else 0) := by
  obtain ⟨v1, v2, v3, v4⟩ := h.vts
  refine (t_X0_count (s := t) (K := s 75 9) (n := s 75 18) (f := fun v i => s 81 (8 * (7 + v) + i)) (by rw [e 3 (by omega)]; exact v1.1) (by rw [e 3 (by omega)]; exact v1.2) v2 v3 (fun v v0 v1' => by rw [e 14 (by omega)]; exact (v4 v v0 v1').1)).mono ?_
  rintro s' ⟨g1, g2⟩
  refine ⟨g1, fun a b a0 a1 b0 b1 => ?_⟩
  rw [g2 a b a0 a1 b0 b1]
  by_cases q : a < s 75 9 ∧ b < s 75 9
  · rw [if_pos q, if_pos q]
    unfold ovS
    exact ovF_congr (n := s 75 18) (fun _ _ _ => ⟨rfl, rfl⟩) (fun v v0 v1' => by rw [e 15 (by omega)]; exact (v4 v v0 v1').2.1.1) _ (by omega)
  · rw [if_neg q, if_neg q]
/-- in the reference, nobody bought -/
theorem t_fov [Inhabited YT] {s t : Sto} (h : Inv s) (e75 : ∀ i : Int, i = 9 ∨ i = 18 ∨ i = 59 → t 75 i = s 75 i) (e58 : t 75 58 = 0) (e81 : ∀ i : Int, 56 ≤ i → i < 152 → t 81 i = s 81 i) (e89 : t 89 = s 89) : ClV LY 1 MX12_findsOvers [.inr 75] t (fun s' => (∀ c : Nat, c ≠ 101 → c ≠ 110 → s' c = t c) ∧ ∀ a b : Int, 0 ≤ a → a < 8 → 0 ≤ b → b < 8 → s' 110 (8 * a + b) = if a < s 75 9 ∧ b < s 75 9 then ovS s a b else 0) := by
  obtain ⟨v1, v2, v3, v4⟩ := h.vts
  have r59 : rg (s 75 59) := h.2.2.2.2.2.1
  refine (t_X12_findsOvers (s := t) (K := s 75 9) (n := s 75 18) (e75 9 (by omega)) (e75 18 (by omega)) v2 v3 (by rw [e75 59 (by omega)]; exact r59) (fun v i v0 v1' i0 i1 => ?_)).mono ?_
  · rw [e81 _ (by omega) (by omega)]
    have : 0 ≤ s 81 (8 * (7 + v) + i) ∧ s 81 (8 * (7 + v) + i) < s 75 9 := (v4 v v0 v1').1.2.1 i i0 i1
    exact ⟨by omega, by omega⟩
  · rintro s' ⟨g1, g2⟩
    refine ⟨g1, fun a b a0 a1 b0 b1 => ?_⟩
    rw [g2 a b a0 a1 b0 b1]
    by_cases q : a < s 75 9 ∧ b < s 75 9
    · rw [if_pos q, if_pos q, e58]
      unfold ovS
      have at_e : ∀ (v : Int) (l : Int), 0 ≤ v → v < s 75 18 → ∀ k : Nat, (k : Int) ≤ s 75 9 → atF (fun i => t 81 (8 * (7 + v) + i)) l k = atF (fun i => s 81 (8 * (7 + v) + i)) l k := by
        intro v l v0 v1' k
        induction k with
        | zero => intro _; rfl
        | succ k ih =>
          intro hk
          show (if t 81 (8 * (7 + v) + k) = l then (k : Int) else atF (fun i => t 81 (8 * (7 + v) + i)) l k) = (if s 81 (8 * (7 + v) + k) = l then (k : Int) else atF (fun i => s 81 (8 * (7 + v) + i)) l k)
          rw [ih (by omega), e81 _ (by omega) (by omega)]
      refine ovF_congr (n := s 75 18) (fun v v0 v1' => ⟨?_, ?_⟩) (fun v v0 v1' => by rw [e89]) _ (by omega)
      · rw [plB_0 (by omega), at_e v a v0 v1' _ (by omega)]
      · rw [plB_0 (by omega), at_e v b v0 v1' _ (by omega)]
    · rw [if_neg q, if_neg q]
theorem op_over [Inhabited YT] {s : Sto} (h : Inv s) {a b : Int} (ha : rg a) (hb : rg b) : OpI MX11_over MX12_over [.inl a, .inl b] s := by
  obtain ⟨v1, v2, v3, v4⟩ := h.vts
  refine ⟨2, 2, (fun r1 s1 => (∀ c : Nat, c ≠ 60 → s1 c = s c) ∧ r1 = @ite _ ((0 ≤ a ∧ a < s 75 9) ∧ (0 ≤ b ∧ b < s 75 9) ∧ a ≠ b) (Classical.propDecidable _) (ovS s a b) (-1)), by decide, by decide, ?_, ?_⟩
  · refine ClI.intro (by decide) rfl (Nat.le_of_ble_eq_true rfl) (fun X C r => ?_)
    refine kb_X11_over_0 C r ⟨0, _, by decide, t_X11_areTwoLetters ha hb (by omega), ?_⟩
    rintro q t ⟨ht, q1, q2⟩
    rw [ht]
    rw [v1.1] at q2
    refine ⟨⟨by omega, by omega⟩, fun z => ⟨1, _, by decide, t_cnt h (fun _ _ => rfl), ?_⟩, fun z => ⟨fun _ _ => rfl, ?_⟩⟩
    · rintro u ⟨u1, u2⟩
      have c := q2.mp (by omega)
      refine ⟨0, _, by decide, t_X0_supportOf (a := a) (b := b) (by omega), ?_⟩
      rintro x y ⟨hy, hx⟩
      rw [hy]
      refine ⟨u1, ?_⟩
      rw [hx, u2 a b (by omega) (by omega) (by omega) (by omega), if_pos ⟨c.1.2, c.2.1.2⟩]
      exact (if_pos (c := _) c).symm
    · exact (if_neg (c := _) (fun c => by have := q2.mpr c; omega)).symm
  · rintro r1 s1 ⟨g1, g2⟩
    have i1 : Inv (up s1 75 0 0) := (h.scr (fun c j hc => by rw [g1 c (by unfold pers perM at hc; omega)])).told 0
    have bd := ovS_bd h a b
    refine ⟨?_, ?_⟩
    · rw [g2]
      by_cases c : (0 ≤ a ∧ a < s 75 9) ∧ (0 ≤ b ∧ b < s 75 9) ∧ a ≠ b
      · rw [if_pos c]; exact ⟨by omega, by omega⟩
      · rw [if_neg c]; decide
    have no : ¬ ((0 ≤ a ∧ a < s 75 9) ∧ (0 ≤ b ∧ b < s 75 9) ∧ a ≠ b) → -1 = r1 := fun c => by rw [g2]; exact (if_neg (c := _) c).symm
    refine ClI.intro (by decide) rfl (Nat.le_of_ble_eq_true rfl) (fun X C r => ?_)
    refine kb_X12_over_0 C r ?_
    rintro z hz
    have z75 : ∀ j : Int, j ≠ 0 → z 75 j = s 75 j := fun j hj => by rw [hz, up_idx hj, g1 75 (by decide)]
    have ez : ∀ c : Nat, c ≠ 75 → c ≠ 60 → z c = s c := fun c c1 c2 => by rw [hz, up_row c1, g1 c c2]
    have iz : Inv z := by rw [hz]; exact i1
    refine ⟨0, _, by decide, t_X12_isLetterOf ha (by rw [z75 9 (by decide)]; exact ⟨by omega, by omega⟩), ?_⟩
    rw [z75 9 (by decide)]
    rintro q t ⟨ht, q1, q2⟩
    rw [ht]
    refine ⟨⟨by omega, by omega⟩, fun q3 => ⟨no (by omega), iz⟩, fun q3 => ⟨0, _, by decide, t_X12_isLetterOf hb (by rw [z75 9 (by decide)]; exact ⟨by omega, by omega⟩), ?_⟩⟩
    rw [z75 9 (by decide)]
    rintro q' t' ⟨ht', q1', q2'⟩
    rw [ht']
    refine ⟨⟨by omega, by omega⟩, fun q3 => ⟨no (by omega), iz⟩, fun q3 => ⟨⟨ha, hb⟩, fun q4 => ?_, fun q4 => ⟨no (by omega), iz⟩⟩⟩
    have c : (0 ≤ a ∧ a < s 75 9) ∧ (0 ≤ b ∧ b < s 75 9) ∧ a ≠ b := by omega
    rintro y hy
    refine ⟨1, _, by decide, t_fov (t := y) h (fun i hi => by rw [hy, up_idx (by omega), z75 i (by omega)]) (by rw [hy, up_at]) (fun i i0 i1 => by rw [hy, up_row (by decide), ez 81 (by decide) (by decide)]) (by rw [hy, up_row (by decide), ez 89 (by decide) (by decide)]), ?_⟩
    rintro x ⟨x1, x2⟩
    refine ⟨⟨by omega, by omega⟩, ?_, iz.scr (fun c j hc => ?_)⟩
    · rw [x2 a b (by omega) (by omega) (by omega) (by omega), if_pos ⟨c.1.2, c.2.1.2⟩, g2]
      exact (if_pos (c := _) c).symm
    · rw [x1 c (by unfold pers perM at hc; omega) (by unfold pers perM at hc; omega), hy, up_ne (by unfold pers perM at hc; omega)]
