/-! TEXT: which WORD stands there -/
def wS : Nat → Int
  | 0 => 0 | 1 => 4 | 2 => 8 | 3 => 13 | 4 => 16 | 5 => 20 | 6 => 24 | 7 => 32 | 8 => 38 | 9 => 43 | 10 => 48 | 11 => 55 | 12 => 61 | 13 => 65 | 14 => 70 | 15 => 74 | _ => 80
theorem wS_1 : ∀ w : Fin 16, 0 ≤ wS w.val ∧ wS w.val + 2 ≤ wS (w.val + 1) - 1 ∧ wS (w.val + 1) ≤ 80 := by decide
theorem wS_2 : ∀ w : Fin 16, bJ 504 (wS (w.val + 1) - 1) = 32 := by decide +kernel
theorem wS_3 : ∀ w : Fin 16, ∀ k : Fin 80, wS w.val ≤ (k.val : Int) → (k.val : Int) < wS (w.val + 1) - 1 → bJ 504 (k.val : Int) ≠ 32 := by decide +kernel
theorem wS_b {w : Nat} (h : w < 16) : 0 ≤ wS w ∧ wS w + 2 ≤ wS (w + 1) - 1 ∧ wS (w + 1) ≤ 80 := wS_1 ⟨w, h⟩
theorem wS_e {w : Nat} (h : w < 16) : bJ 504 (wS (w + 1) - 1) = 32 := wS_2 ⟨w, h⟩
theorem wS_n {w : Nat} {k : Int} (h : w < 16) (k0 : wS w ≤ k) (k1 : k < wS (w + 1) - 1) : bJ 504 k ≠ 32 := by
  have b := wS_b h
  have := wS_3 ⟨w, h⟩ ⟨k.toNat, by omega⟩
  simp only [Int.toNat_of_nonneg (show 0 ≤ k by omega)] at this
  exact this k0 k1
/-- the bytes from a to e are WORD w -/
def mW (b : Int → Int) (a e : Int) (w : Nat) : Prop := e - a = wS (w + 1) - 1 - wS w ∧ ∀ j : Int, 0 ≤ j → j < e - a → b (a + j) = bJ 504 (wS w + j)
/-- the first WORD that it is, of the last k -/
noncomputable def wdF (b : Int → Int) (a e : Int) : Nat → Int
  | 0 => -1
  | k + 1 => @ite _ (mW b a e (16 - (k + 1))) (Classical.propDecidable _) (16 - ((k : Int) + 1)) (wdF b a e k)
theorem wdF_t {b : Int → Int} {a e : Int} {w : Nat} (hw : w < 16) (h : mW b a e w) : wdF b a e (16 - w) = w := by
  obtain ⟨k, hk⟩ : ∃ k : Nat, 16 - w = k + 1 := ⟨15 - w, by omega⟩
  rw [hk]
  have e1 : 16 - (k + 1) = w := by omega
  have : wdF b a e (k + 1) = 16 - ((k : Int) + 1) := if_pos (by rw [e1]; exact h)
  rw [this]
  omega
theorem wdF_f {b : Int → Int} {a e : Int} {w : Nat} (hw : w < 16) (h : ¬ mW b a e w) : wdF b a e (16 - w) = wdF b a e (16 - (w + 1)) := by
  obtain ⟨k, hk⟩ : ∃ k : Nat, 16 - w = k + 1 := ⟨15 - w, by omega⟩
  rw [hk, show 16 - (w + 1) = k by omega]
  have e1 : 16 - (k + 1) = w := by omega
  exact if_neg (by rw [e1]; exact h)
theorem wdF_bd (b : Int → Int) (a e : Int) : ∀ k : Nat, k ≤ 16 → -1 ≤ wdF b a e k ∧ wdF b a e k ≤ 15
  | 0, _ => by show (-1 : Int) ≤ -1 ∧ (-1 : Int) ≤ 15; decide
  | k + 1, hk => by
    have ih := wdF_bd b a e k (by omega)
    unfold wdF
    by_cases c : mW b a e (16 - (k + 1))
    · rw [if_pos c]; omega
    · rw [if_neg c]; exact ih
theorem mW_congr {b b' : Int → Int} {a e : Int} {w : Nat} (h : ∀ i : Int, a ≤ i → i < e → b' i = b i) : mW b' a e w ↔ mW b a e w := by
  constructor
  · rintro ⟨h1, h2⟩
    exact ⟨h1, fun j j0 j1 => by rw [← h (a + j) (by omega) (by omega)]; exact h2 j j0 j1⟩
  · rintro ⟨h1, h2⟩
    exact ⟨h1, fun j j0 j1 => by rw [h (a + j) (by omega) (by omega)]; exact h2 j j0 j1⟩
theorem wdF_congr {b b' : Int → Int} {a e : Int} (h : ∀ i : Int, a ≤ i → i < e → b' i = b i) : ∀ k : Nat, wdF b' a e k = wdF b a e k
  | 0 => rfl
  | k + 1 => by
    unfold wdF
    rw [wdF_congr h k]
    have m := mW_congr (w := 16 - (k + 1)) h
    by_cases c : mW b a e (16 - (k + 1))
    · rw [if_pos c, if_pos (m.mpr c)]
    · rw [if_neg c, if_neg (fun z => c (m.mp z))]
theorem t_X8_isSame {a st en : Int} {s : Sto} (h0 : 0 ≤ a) (h1 : 0 ≤ st ∧ st ≤ en ∧ en ≤ 80) (h2 : a + (en - st) ≤ 400) (hb : ∀ i : Int, a ≤ i → i < a + (en - st) → rg (s 2 i)) : ClI LY 4 MX8_isSame [.inr 1, .inl a, .inl st, .inl en] s (fun r s' => s' = s ∧ (r = 0 ∨ r = 1) ∧ (r = 1 ↔ ∀ j : Int, 0 ≤ j → j < en - st → s 2 (a + j) = bJ 504 (st + j))) := by
  refine ClI.introZ (by decide) rfl (Nat.le_of_ble_eq_true rfl) (fun X C r => ?_)
  refine kb_X8_isSame_0 C r ?_
  have main : (∀ j : Int, 0 ≤ j → j < st - st → s 2 (a + j) = bJ 504 (st + j)) → G LY X 3 [rv 1, iv a, iv st, iv en, iv st] [] s := by
    refine downI (P := fun k => (∀ j : Int, 0 ≤ j → j < k - st → s 2 (a + j) = bJ 504 (st + j)) → G LY X 3 [rv 1, iv a, iv st, iv en, iv k] [] s) (a := st) (b := en) h1.2.1 ?_ ?_
    · intro h
      exact kb_X8_isSame_3 C r ⟨⟨⟨by omega, by omega⟩, ⟨by omega, by omega⟩⟩, fun _ => ⟨rfl, Or.inr rfl, ⟨fun _ => h, fun _ => rfl⟩⟩, fun z => absurd z (by omega)⟩
    · intro k k0 k1 ih h
      have hk : 0 ≤ k ∧ k < nJ 504 := ⟨by omega, by show k < 80; omega⟩
      have bb := bJ_bd (q := 504) (i := k) (Or.inr rfl) hk
      refine kb_X8_isSame_3 C r ⟨⟨⟨by omega, by omega⟩, ⟨by omega, by omega⟩⟩, fun z => absurd z (by omega), fun _ => ⟨⟨by omega, by omega⟩, 3, _, by decide, t_J0_charAt (Or.inr rfl) hk, ?_⟩⟩
      rintro x y ⟨hy, hx⟩
      rw [hy, hx]
      refine ⟨⟨hb _ (by omega) (by omega), ⟨by omega, by omega⟩⟩, fun z => ih (fun j j0 j1 => ?_), fun z => ⟨rfl, Or.inl rfl, ⟨fun w => absurd w (by decide), fun w => ?_⟩⟩⟩
      · by_cases e : j = k - st
        · rw [e, show a + (k - st) = a + k - st by omega, show st + (k - st) = k by omega]; exact z
        · exact h j j0 (by omega)
      · have := w (k - st) (by omega) (by omega)
        rw [show a + (k - st) = a + k - st by omega, show st + (k - st) = k by omega] at this
        exact absurd this z
  exact main (fun j j0 j1 => absurd j1 (by omega))
theorem t_X8_wordOf {a e : Int} {s : Sto} (h : 0 ≤ a ∧ a < e ∧ e ≤ 400) (hb : ∀ i : Int, a ≤ i → i < e → rg (s 2 i)) : ClI LY 5 MX8_wordOf [.inr 1, .inl a, .inl e] s (fun r s' => s' = s ∧ r = if wdF (s 2) a e 16 = -1 then 10201 else 10000 + wdF (s 2) a e 16) := by
  refine ClI.intro (by decide) rfl (Nat.le_of_ble_eq_true rfl) (fun X C r => ?_)
  refine kb_X8_wordOf_0 C r ?_
  have main : ∀ w : Nat, ((w < 16 ∧ wS w ≤ 0 ∧ 0 < wS (w + 1)) ∨ (w = 16 ∧ (0 : Int) = 80)) → wdF (s 2) a e 16 = wdF (s 2) a e (16 - w) → G LY X 10 [rv 1, iv a, iv e, iv (10000 + (w : Int)), iv (wS w), iv 0] [] s := by
    refine downI (P := fun k => ∀ w : Nat, ((w < 16 ∧ wS w ≤ k ∧ k < wS (w + 1)) ∨ (w = 16 ∧ k = 80)) → wdF (s 2) a e 16 = wdF (s 2) a e (16 - w) → G LY X 10 [rv 1, iv a, iv e, iv (10000 + (w : Int)), iv (wS w), iv k] [] s) (a := 0) (b := 80) (by decide) ?_ ?_
    · intro w hw hR
      have w16 : w = 16 := by
        rcases hw with z | z
        · have := wS_b z.1; omega
        · exact z.1
      subst w16
      refine kb_X8_wordOf_10 C r ⟨1, _, by decide, t_J0_length (Or.inr rfl), ?_⟩
      rintro x y ⟨hy, hx⟩
      rw [hy, hx]
      refine ⟨⟨by decide, by decide⟩, fun _ => ⟨rfl, ?_⟩, fun z => absurd z (by decide)⟩
      have : wdF (s 2) a e 16 = -1 := hR
      rw [if_pos this]
    · intro k k0 k1 ih w hw hR
      have hw' : w < 16 ∧ wS w ≤ k ∧ k < wS (w + 1) := by omega
      have wb := wS_b hw'.1
      have hk : 0 ≤ k ∧ k < nJ 504 := ⟨k0, k1⟩
      have bb := bJ_bd (q := 504) (i := k) (Or.inr rfl) hk
      refine kb_X8_wordOf_10 C r ⟨1, _, by decide, t_J0_length (Or.inr rfl), ?_⟩
      rintro x y ⟨hy, hx⟩
      rw [hy, hx]
      refine ⟨⟨⟨by omega, by omega⟩, by decide⟩, fun z => absurd z (by show ¬ (80 ≤ k); omega), fun _ => ⟨3, _, by decide, t_J0_charAt (Or.inr rfl) hk, ?_⟩⟩
      rintro x2 y2 ⟨hy2, hx2⟩
      rw [hy2, hx2]
      refine ⟨⟨by omega, by omega⟩, fun z => ih w (Or.inl ⟨hw'.1, by omega, ?_⟩) hR, fun z => ?_⟩
      · by_cases q : k = wS (w + 1) - 1
        · rw [q] at z; exact absurd (wS_e hw'.1) z
        · omega
      · have ek : k = wS (w + 1) - 1 := by
          by_cases q : k < wS (w + 1) - 1
          · exact absurd z (wS_n hw'.1 hw'.2.1 q)
          · omega
        have next : ¬ mW (s 2) a e w → G LY X 10 [rv 1, iv a, iv e, iv (10000 + (w : Int) + 1), iv (k + 1), iv (k + 1)] [] s := fun nm => by
          have g := ih (w + 1) (by
            by_cases q : w + 1 = 16
            · refine Or.inr ⟨q, ?_⟩
              have : wS (w + 1) = 80 := by rw [q]; rfl
              omega
            · have := wS_b (w := w + 1) (by omega)
              exact Or.inl ⟨by omega, by omega, by omega⟩) (by rw [hR, wdF_f hw'.1 nm])
          rw [show wS (w + 1) = k + 1 by omega, show (10000 : Int) + ((w + 1 : Nat) : Int) = 10000 + (w : Int) + 1 by omega] at g
          exact g
        refine ⟨⟨⟨by omega, by omega⟩, ⟨by omega, by omega⟩⟩, fun z2 => next (fun m => by have := m.1; omega), fun z2 => ⟨4, _, by decide, t_X8_isSame h.1 ⟨wb.1, by omega, by omega⟩ (by omega) (fun i i0 i1 => hb i i0 (by omega)), ?_⟩⟩
        rintro x3 y3 ⟨hy3, p1, p2⟩
        rw [hy3]
        refine ⟨⟨by omega, by omega⟩, fun z3 => next (fun m => ?_), fun z3 => ⟨rfl, ?_⟩⟩
        · have := p2.mpr (fun j j0 j1 => m.2 j j0 (by omega))
          omega
        · have m : mW (s 2) a e w := ⟨by omega, fun j j0 j1 => p2.mp (by omega) j j0 (by omega)⟩
          have e2 : wdF (s 2) a e 16 = w := by rw [hR, wdF_t hw'.1 m]
          rw [e2, if_neg (by omega)]
  exact main 0 (Or.inl ⟨by decide, by decide, by decide⟩) rfl
theorem wT_b {i : Int} (h : 0 ≤ i ∧ i < 80) : wordsT (i + 1) = bJ 504 i := by
  unfold wordsT bJ
  rw [if_neg (by omega), if_neg (by decide), show i + 1 - 1 = i by omega]
/-- in the reference -/
theorem t_X12_wordAt {a e : Int} {s : Sto} (h : 0 ≤ a ∧ a < e ∧ e ≤ 400) (hb : ∀ i : Int, a ≤ i → i < e → rg (s 91 i) ∧ s 91 i ≠ 32) (h92 : ∀ i : Int, 0 ≤ i → i < 81 → s 92 i = wordsT i) : ClI LY 0 MX12_wordAt [.inr 75, .inl a, .inl e] s (fun r s' => s' = s ∧ r = wdF (s 91) a e 16) := by
  refine ClI.intro (by decide) rfl (Nat.le_of_ble_eq_true rfl) (fun X C r => ?_)
  refine kb_X12_wordAt_0 C r ?_
  have e92 : ∀ k : Int, 0 ≤ k → k < 80 → s 92 (k + 1) = bJ 504 k := fun k k0 k1 => by rw [h92 (k + 1) (by omega) (by omega), wT_b ⟨k0, k1⟩]
  have main : ∀ n w : Nat, w + n = 16 → wdF (s 91) a e 16 = wdF (s 91) a e (16 - w) → G LY X 5 [rv 75, iv a, iv e, iv ((w : Int) - 1), iv (wS w), none] [] s := by
    intro n
    induction n with
    | zero =>
      intro w hw hR
      have : w = 16 := by omega
      subst this
      refine kb_X12_wordAt_5 C r ⟨by decide, fun _ => ⟨rfl, ?_⟩, fun z => absurd z (by decide)⟩
      exact hR.symm
    | succ n ih =>
      intro w hw hR
      have w16 : w < 16 := by omega
      have wb := wS_b w16
      refine kb_X12_wordAt_5 C r ⟨⟨by omega, by omega⟩, fun z => absurd z (by omega), fun _ => ?_⟩
      rw [show (w : Int) - 1 + 1 = (w : Int) by omega]
      -- to the next WORD
      have next : ¬ mW (s 91) a e w → ∀ v5 : Int, G LY X 93 [rv 75, iv a, iv e, iv (w : Int), iv (wS w + 1), iv v5] [] s := fun nm v5 => by
        refine downI (P := fun k => G LY X 93 [rv 75, iv a, iv e, iv (w : Int), iv k, iv v5] [] s) (a := wS w + 1) (b := wS (w + 1)) (by omega) ?_ ?_
        · have e1 := e92 (wS (w + 1) - 1) (by omega) (by omega)
          rw [show wS (w + 1) - 1 + 1 = wS (w + 1) by omega, wS_e w16] at e1
          refine kb_X12_wordAt_93 C r ?_
          rw [e1]
          refine ⟨⟨by omega, by omega⟩, by decide, fun _ => ?_, fun z => absurd rfl z⟩
          have g := ih (w + 1) (by omega) (by rw [hR, wdF_f w16 nm])
          rw [show ((w + 1 : Nat) : Int) - 1 = (w : Int) by omega] at g
          exact g
        · intro k k0 k1 ih2
          have e1 := e92 (k - 1) (by omega) (by omega)
          rw [show k - 1 + 1 = k by omega] at e1
          have bb := bJ_bd (q := 504) (i := k - 1) (Or.inr rfl) ⟨by omega, by show k - 1 < 80; omega⟩
          refine kb_X12_wordAt_93 C r ?_
          rw [e1]
          exact ⟨⟨by omega, by omega⟩, ⟨by omega, by omega⟩, fun z => absurd z (wS_n w16 (by omega) (by omega)), fun _ => ih2⟩
      have inner : ∀ (m : Nat) (i : Int), 0 ≤ i → i + m = wS (w + 1) - 1 - wS w → a + i ≤ e → (∀ j : Int, 0 ≤ j → j < i → s 91 (a + j) = bJ 504 (wS w + j)) → G LY X 19 [rv 75, iv a, iv e, iv (w : Int), iv (wS w), iv i] [] s := by
        intro m
        induction m with
        | zero =>
          intro i i0 im ie hm
          have e1 := e92 (wS w + i) (by omega) (by omega)
          have e2 : bJ 504 (wS w + i) = 32 := by rw [show wS w + i = wS (w + 1) - 1 by omega]; exact wS_e w16
          rw [e2, show wS w + i + 1 = wS w + 1 + i by omega] at e1
          refine kb_X12_wordAt_19 C r ?_
          rw [e1]
          refine ⟨⟨⟨by omega, by omega⟩, ⟨by omega, by omega⟩⟩, fun z => ⟨⟨⟨by omega, by omega⟩, ⟨by omega, by omega⟩⟩, fun z2 => absurd z2 (by omega), fun _ => ⟨⟨by omega, by omega⟩, by decide, fun z3 => absurd rfl z3, fun _ => ⟨rfl, ?_⟩⟩⟩, fun z => ⟨⟨by omega, by omega⟩, ⟨by omega, by omega⟩, ⟨by decide, (hb (a + i) (by omega) (by omega)).1⟩, fun _ => ⟨⟨⟨by omega, by omega⟩, ⟨by omega, by omega⟩⟩, fun _ => next (fun q => by have := q.1; omega) i, fun z2 => absurd z2 (by omega)⟩, fun z2 => absurd z2.symm (hb (a + i) (by omega) (by omega)).2⟩⟩
          rw [hR, wdF_t w16 ⟨by omega, fun j j0 j1 => hm j j0 (by omega)⟩]
        | succ m ihm =>
          intro i i0 im ie hm
          have e1 := e92 (wS w + i) (by omega) (by omega)
          have bb := bJ_bd (q := 504) (i := wS w + i) (Or.inr rfl) ⟨by omega, by show wS w + i < 80; omega⟩
          have n32 : bJ 504 (wS w + i) ≠ 32 := wS_n w16 (by omega) (by omega)
          rw [show wS w + i + 1 = wS w + 1 + i by omega] at e1
          refine kb_X12_wordAt_19 C r ?_
          rw [e1]
          have r1 : rg (bJ 504 (wS w + i)) := ⟨by omega, by omega⟩
          refine ⟨⟨⟨by omega, by omega⟩, ⟨by omega, by omega⟩⟩, fun z => ⟨⟨⟨by omega, by omega⟩, ⟨by omega, by omega⟩⟩, fun z2 => absurd z2 (by omega), fun _ => ⟨⟨by omega, by omega⟩, r1, fun _ => next (fun q => by have := q.1; omega) i, fun z3 => absurd z3 n32⟩⟩, fun z => ⟨⟨by omega, by omega⟩, ⟨by omega, by omega⟩, ⟨r1, (hb (a + i) (by omega) (by omega)).1⟩, fun z2 => ⟨⟨⟨by omega, by omega⟩, ⟨by omega, by omega⟩⟩, fun _ => next (fun q => z2 (q.2 i i0 (by omega)).symm) i, fun z3 => absurd z3 (by omega)⟩, fun z2 => ihm (i + 1) (by omega) (by omega) (by omega) (fun j j0 j1 => ?_)⟩⟩
          by_cases q : j = i
          · rw [q]; exact z2.symm
          · exact hm j j0 (by omega)
      exact inner (wS (w + 1) - 1 - wS w).toNat 0 (by decide) (by omega) (by omega) (fun j j0 j1 => absurd j1 (by omega))
  exact main 16 0 rfl rfl
