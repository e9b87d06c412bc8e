/-! A LINE OF NAMING, worked off -/
def stR (row : Int → Int) : List Int → Prop
  | [] => True
  | v :: vs => row (vs.length : Int) = v ∧ stR row vs
theorem stR_congr {row row' : Int → Int} : ∀ l : List Int, (∀ j : Int, 0 ≤ j → j < l.length → row' j = row j) → stR row l → stR row' l
  | [], _, _ => trivial
  | v :: vs, e, h => ⟨by rw [e _ (by omega) (by simp; omega)]; exact h.1, stR_congr vs (fun j a b => e j a (by simp; omega)) h.2⟩
theorem stR_push {S : Sto} {c : Nat} {l : List Int} {x i : Int} (h : stR (S c) l) (hi : i = l.length) : stR (up S c i x c) (x :: l) := by
  subst hi
  exact ⟨up_at _ _ _ _, stR_congr l (fun j a b => up_idx (by omega)) h⟩
theorem evL_s (fa op ar : Int → Int) {a i : Int} (h : a ≤ i) : evL fa op ar a (i + 1 - a).toNat = stepV fa (op i) (ar i) (evL fa op ar a (i - a).toNat) := by
  rw [show (i + 1 - a).toNat = (i - a).toNat + 1 by omega]
  show stepV fa (op (a + ((i - a).toNat : Nat))) (ar (a + ((i - a).toNat : Nat))) _ = _
  rw [show a + (((i - a).toNat : Nat) : Int) = i by omega]
/-- what a code asks of the stack -/
theorem stk_cases {fa : Int → Int} {o x : Int} {T T' : List Bool} {l : List Int} (hs : stkR o T T') (h : kdR T l) : ((o = 0 ∨ o = 1) ∧ stepV fa o x l = (if o = 0 then x else fa x) :: l) ∨ (o = 9 ∧ ∃ (b : Int) (m : List Int), l = b :: m ∧ (b = 0 ∨ b = 1) ∧ stepV fa o x l = (1 - b) :: m) ∨ (((2 ≤ o ∧ o ≤ 8) ∨ o = 10 ∨ o = 11) ∧ ∃ (b a : Int) (m : List Int), l = b :: a :: m ∧ rg a ∧ rg b ∧ (o = 10 ∨ o = 11 → (a = 0 ∨ a = 1) ∧ (b = 0 ∨ b = 1)) ∧ stepV fa o x l = twV o a b :: m) := by
  have push : (o = 0 ∨ o = 1) → stepV fa o x l = (if o = 0 then x else fa x) :: l := by
    intro q
    unfold stepV
    by_cases z : o = 0
    · rw [if_pos z, if_pos z]
    · rw [if_neg z, if_neg z, if_pos (by omega)]
  unfold stkR at hs
  split at hs
  · exact Or.inl ⟨hs.1, push hs.1⟩
  · rename_i k
    rcases hs with g | ⟨g1, g2, g3⟩
    · exact Or.inl ⟨g.1, push g.1⟩
    · match l, h with
      | [v], h =>
        refine Or.inr (Or.inl ⟨g1, v, [], rfl, h.1.2 g2, ?_⟩)
        unfold stepV
        rw [if_neg (by omega), if_neg (by omega)]
        exact if_pos g1
      | [], h => exact h.elim
      | _ :: _ :: _, h => exact h.2.elim
  · rename_i k1 k2 ks
    match l, h with
    | [], h => exact h.elim
    | [_], h => exact h.2.elim
    | b :: a :: l, h =>
      obtain ⟨hb, ha, hl⟩ := h
      have two : o ≠ 0 → o ≠ 1 → o ≠ 9 → stepV fa o x (b :: a :: l) = twV o a b :: l := by
        intro n0 n1 n9
        unfold stepV
        rw [if_neg n0, if_neg n1]
        exact if_neg n9
      rcases hs with g | g | g | g | g
      · exact Or.inl ⟨g.1, push g.1⟩
      · refine Or.inr (Or.inl ⟨g.1, b, a :: l, rfl, hb.2 g.2.1, ?_⟩)
        unfold stepV
        rw [if_neg (by omega), if_neg (by omega)]
        exact if_pos g.1
      · exact Or.inr (Or.inr ⟨by omega, b, a, l, rfl, ha.1, hb.1, fun z => absurd z (by omega), two (by omega) (by omega) (by omega)⟩)
      · exact Or.inr (Or.inr ⟨by omega, b, a, l, rfl, ha.1, hb.1, fun z => absurd z (by omega), two (by omega) (by omega) (by omega)⟩)
      · exact Or.inr (Or.inr ⟨by omega, b, a, l, rfl, ha.1, hb.1, fun z => ⟨ha.2 g.2.2.1, hb.2 g.2.1⟩, two (by omega) (by omega) (by omega)⟩)
/-- the top of the stack behind a NUMBER that isn't 0 -/
theorem evL_top {fa op ar : Int → Int} {a i : Int} (h : a < i) (h0 : op (i - 1) = 0) {b : Int} {m : List Int} (e : evL fa op ar a (i - a).toNat = b :: m) : b = ar (i - 1) := by
  have := evL_s fa op ar (a := a) (i := i - 1) (by omega)
  rw [show i - 1 + 1 - a = i - a by omega, e] at this
  unfold stepV at this
  rw [if_pos h0] at this
  exact (List.cons.inj this).1
set_option maxHeartbeats 4000000 in
theorem t_X1_holds {a b : Int} {s : Sto} {op ar : Int → Int} (h0 : 0 ≤ a ∧ a < b ∧ b ≤ 400) (hT : ∀ i : Int, a ≤ i → i < b → TokR (s 20 i) (op i) (ar i)) (hL : LineOk op ar a b) (hf : ∀ j : Int, 0 ≤ j → j < 10 → rg (s 53 j)) : ClI LY 1 MX1_holds [.inr 52, .inr 20, .inl a, .inl b] s (fun r s' => (∀ c : Nat, c ≠ 54 → s' c = s c) ∧ (r = 0 ∨ r = 1) ∧ evL (s 53) op ar a (b - a).toNat = [r]) := by
  obtain ⟨T, T1, T2, T3⟩ := hL
  refine ClI.introZ (by decide) rfl (Nat.le_of_ble_eq_true rfl) (fun X C r => ?_)
  refine kb_X1_holds_0 C r ?_
  have z0 : (a - a).toNat = 0 := by omega
  suffices H : ∀ S : Sto, ((∀ c : Nat, c ≠ 54 → S c = s c) ∧ stR (S 54) (evL (s 53) op ar a (a - a).toNat) ∧ kdR (T a) (evL (s 53) op ar a (a - a).toNat)) → G LY X 6 [rv 52, rv 20, iv a, iv b, iv ((evL (s 53) op ar a (a - a).toNat).length : Int), iv a, none] [] S by
    have := H s ⟨fun _ _ => rfl, by rw [z0]; exact trivial, by rw [z0, T1]; exact trivial⟩
    rw [z0] at this
    exact this
  refine downI (P := fun i => ∀ S : Sto, ((∀ c : Nat, c ≠ 54 → S c = s c) ∧ stR (S 54) (evL (s 53) op ar a (i - a).toNat) ∧ kdR (T i) (evL (s 53) op ar a (i - a).toNat)) → G LY X 6 [rv 52, rv 20, iv a, iv b, iv ((evL (s 53) op ar a (i - a).toNat).length : Int), iv i, none] [] S) (a := a) (b := b) (by omega) ?_ ?_
  · rintro S ⟨k1, k2, k3⟩
    rw [T2] at k3
    match hl : evL (s 53) op ar a (b - a).toNat, k2, k3 with
    | [], _, k3 => exact k3.elim
    | _ :: _ :: _, _, k3 => exact k3.2.elim
    | [v], k2, k3 =>
      have hv := k3.1.2 rfl
      have k2 : S 54 0 = v := k2.1
      refine kb_X1_holds_6 C r ⟨⟨⟨by omega, by omega⟩, ⟨by omega, by omega⟩⟩, fun _ => ⟨by show rg 1; decide, fun z => absurd z (by show ¬ (1 : Int) ≤ 0; decide), fun _ => ⟨by show (0 : Int) ≤ 1 - 1 ∧ (1 : Int) - 1 < 32; decide, ?_⟩⟩, fun z => absurd z (by omega)⟩
      show rg (S 54 0) ∧ (S 54 0 ≠ 1 → _) ∧ (S 54 0 = 1 → _)
      rw [k2]
      exact ⟨⟨by omega, by omega⟩, fun z => ⟨k1, Or.inl rfl, by rw [hl, show v = 0 by omega]⟩, fun z => ⟨k1, Or.inr rfl, by rw [hl, z]⟩⟩
  · rintro i i0 i1 ih S ⟨k1, k2, k3⟩
    obtain ⟨g1, g2, g3⟩ := T3 i i0 i1
    have tk := hT i i0 i1
    have ln := kdR_len _ _ k3
    have kn := kd_step (fa := s 53) (x := ar i) hf (by unfold TokR at tk; constructor <;> intro z <;> first | exact ⟨by omega, by omega⟩) g2 k3
    have e20 : S 20 = s 20 := k1 20 (by decide)
    have e53 : S 53 = s 53 := k1 53 (by decide)
    rw [evL_s (s 53) op ar i0] at ih
    have top := fun (b : Int) (m : List Int) (z : op i = 5) (e : evL (s 53) op ar a (i - a).toNat = b :: m) => evL_top (g3 z).1 (g3 z).2.1 e
    have cs := fun (_ : Unit) => stk_cases (fa := s 53) (x := ar i) g2 k3
    generalize evL (s 53) op ar a (i - a).toNat = l at *
    unfold TokR at tk
    refine kb_X1_holds_6 C r ⟨⟨⟨by omega, by omega⟩, ⟨by omega, by omega⟩⟩, fun z => absurd z (by omega), fun _ => ⟨⟨by omega, by omega⟩, fun z => absurd z (by omega), fun _ => ⟨⟨by omega, by omega⟩, ?_⟩⟩⟩
    rw [e20, e53]
    have push : ∀ x : Int, stepV (s 53) (op i) (ar i) l = x :: l → G LY X 6 [rv 52, rv 20, iv a, iv b, iv ((l.length : Int) + 1), iv (i + 1), none] [] (up S 54 (l.length : Int) x) := by
      intro x hx
      rw [hx] at ih kn
      exact ih _ ⟨fun c c1 => by rw [up_row c1, k1 c c1], stR_push k2 rfl, kn⟩
    have two : ((2 ≤ op i ∧ op i ≤ 8) ∨ op i = 10 ∨ op i = 11) → (rg (l.length : Int) ∧ ((l.length : Int) < 2 → G LY X 6 [rv 52, rv 20, iv a, iv b, iv (l.length : Int), iv (i + 1), none] [] S) ∧ (2 ≤ (l.length : Int) → ((0 ≤ (l.length : Int) + (-1) - 1 ∧ (l.length : Int) + (-1) - 1 < 32) ∧ (0 ≤ (l.length : Int) + (-1) ∧ (l.length : Int) + (-1) < 32) ∧ CallI LY 1 MX1_worked [.inl (s 20 i), .inl (S 54 ((l.length : Int) + (-1) - 1)), .inl (S 54 ((l.length : Int) + (-1)))] S (fun r1 s1 => (0 ≤ (l.length : Int) + (-1) - 1 ∧ (l.length : Int) + (-1) - 1 < 32) ∧ ∀ s2 : Sto, s2 = up s1 54 ((l.length : Int) + (-1) - 1) r1 → G LY X 6 [rv 52, rv 20, iv a, iv b, iv ((l.length : Int) + (-1)), iv (i + 1), none] [] s2)))) := by
      intro q
      rcases cs () with ⟨c1, c2⟩ | ⟨c1, c2⟩ | ⟨c1, y, x, m, c3, c4, c5, c6, c7⟩
      · omega
      · omega
      · have hl2 : (l.length : Int) = (m.length : Int) + 2 := by rw [c3]; simp; omega
        have k2' := k2
        rw [c3] at k2'
        have t1 : S 54 ((l.length : Int) + (-1)) = y := by rw [hl2, show (m.length : Int) + 2 + -1 = ((x :: m).length : Int) by simp; omega]; exact k2'.1
        have t2 : S 54 ((l.length : Int) + (-1) - 1) = x := by rw [hl2, show (m.length : Int) + 2 + -1 - 1 = (m.length : Int) by omega]; exact k2'.2.1
        rw [t1, t2]
        refine ⟨⟨by omega, by omega⟩, fun z => absurd z (by omega), fun _ => ⟨⟨by omega, by omega⟩, ⟨by omega, by omega⟩, 0, _, by decide, t_X1_worked (hT i i0 i1) q c4 c5 (fun z => ?_) c6, ?_⟩⟩
        · rw [top y (x :: m) z c3]; exact (g3 z).2.2
        · rintro v t ⟨ht, hv⟩
          rw [ht]
          refine ⟨⟨by omega, by omega⟩, ?_⟩
          rintro t2 rfl
          rw [c7] at ih kn
          have := ih (up S 54 ((l.length : Int) + (-1) - 1) v) ⟨fun c c1 => by rw [up_row c1, k1 c c1], by rw [← hv]; exact stR_push k2'.2.2 (by omega), kn⟩
          rw [show ((twV (op i) x y :: m).length : Int) = (l.length : Int) + (-1) by simp; omega] at this
          exact this
    refine ⟨⟨by omega, by omega⟩, fun w1 => ⟨⟨by omega, by omega⟩, fun w2 => ⟨⟨by omega, by omega⟩, fun w3 => two (by omega), fun w3 => ?_⟩, fun w2 => ⟨⟨by omega, by omega⟩, fun w3 => ⟨⟨by omega, by omega⟩, fun w4 => two (by omega), fun w4 => absurd w4 (by omega)⟩, fun w3 => ⟨⟨by omega, by omega⟩, ⟨by omega, by omega⟩, ?_⟩⟩⟩, fun w1 => ⟨⟨by omega, by omega⟩, ?_⟩⟩
    · rcases cs () with ⟨c1, c2⟩ | ⟨c1, y, m, c3, c4, c5⟩ | ⟨c1, c2⟩
      · omega
      · have hl2 : (l.length : Int) = (m.length : Int) + 1 := by rw [c3]; simp
        have k2' := k2
        rw [c3] at k2'
        have t1 : S 54 ((l.length : Int) - 1) = y := by rw [hl2, show (m.length : Int) + 1 - 1 = (m.length : Int) by omega]; exact k2'.1
        rw [t1]
        refine ⟨⟨by omega, by omega⟩, fun z => absurd z (by omega), fun _ => ⟨⟨by omega, by omega⟩, ⟨by omega, by omega⟩, ?_⟩⟩
        rintro t rfl
        rw [c5] at ih kn
        have := ih (up S 54 ((l.length : Int) - 1) (1 - y)) ⟨fun c c1 => by rw [up_row c1, k1 c c1], stR_push k2'.2 (by omega), kn⟩
        rw [show (((1 - y) :: m).length : Int) = (l.length : Int) by simp; omega] at this
        exact this
      · omega
    · rintro t rfl
      rcases cs () with ⟨c1, c2⟩ | ⟨c1, c2⟩ | ⟨c1, c2⟩
      · rw [if_neg (by omega), show ar i = s 20 i - 10006 by omega] at c2
        exact push _ (by rw [show ar i = s 20 i - 10006 by omega]; exact c2)
      · omega
      · omega
    · rintro t rfl
      rcases cs () with ⟨c1, c2⟩ | ⟨c1, c2⟩ | ⟨c1, c2⟩
      · rw [if_pos (by omega), show ar i = s 20 i by omega] at c2
        exact push _ (by rw [show ar i = s 20 i by omega]; exact c2)
      · omega
      · omega
