/-! REST in the reference: which NAME one has -/
set_option maxHeartbeats 2000000 in
theorem t_X12_areLike {a b : Int} {s : Sto} (ha : 0 ≤ a ∧ a < 51) (hb : 0 ≤ b ∧ b < 51) (na : nmB s a) (nb : nmB s b) : ClI LY 0 MX12_areLike [.inr 75, .inl a, .inl b] s (fun r s' => s' = s ∧ (r = 0 ∨ r = 1) ∧ (r = 1 ↔ lkR s a s b)) := by
  refine ClI.introZ (by decide) rfl (Nat.le_of_ble_eq_true rfl) (fun X C r => ?_)
  have n1 := na.1
  have n2 := nb.1
  refine kb_X12_areLike_0 C r ⟨ha, hb, ⟨⟨by omega, by omega⟩, ⟨by omega, by omega⟩⟩, fun z => ?_, fun z => ⟨rfl, Or.inl rfl, ⟨fun q => absurd q (by decide), fun q => absurd q.1 z⟩⟩⟩
  refine downI (P := fun i => (∀ j : Int, 0 ≤ j → j < i → s 77 (6 * a + j) = s 77 (6 * b + j)) → G LY X 19 [rv 75, iv a, iv b, iv i] [] s) (a := 0) (b := s 76 a) n1.1 ?_ ?_ (fun j j0 j1 => absurd j1 (by omega))
  · intro H
    exact kb_X12_areLike_19 C r ⟨ha, ⟨⟨by omega, by omega⟩, ⟨by omega, by omega⟩⟩, fun _ => ⟨rfl, Or.inr rfl, ⟨fun _ => ⟨z, H⟩, fun _ => rfl⟩⟩, fun z => absurd z (by omega)⟩
  · intro i i0 i1 ih H
    have l1 := na.2 i i0 i1
    have l2 := nb.2 i i0 (by omega)
    refine kb_X12_areLike_19 C r ⟨ha, ⟨⟨by omega, by omega⟩, ⟨by omega, by omega⟩⟩, fun z => absurd z (by omega), fun _ => ⟨⟨by omega, by omega⟩, ⟨by omega, by omega⟩, ⟨⟨by omega, by omega⟩, ⟨by omega, by omega⟩⟩, fun q => ih (fun j j0 j1 => ?_), fun q => ⟨rfl, Or.inl rfl, ⟨fun w => absurd w (by decide), fun w => absurd (w.2 i i0 i1) q⟩⟩⟩⟩
    by_cases e : j = i
    · rw [e]; exact q
    · exact H j j0 (by omega)
theorem lkR.symm {T T' : Sto} {a b : Int} (h : lkR T a T' b) : lkR T' b T a := ⟨h.1.symm, fun i i0 i1 => (h.2 i i0 (by rw [h.1]; exact i1)).symm⟩
theorem lkR.trans {T T' T'' : Sto} {a b c : Int} (h : lkR T a T' b) (h2 : lkR T' b T'' c) : lkR T a T'' c := ⟨h.1.trans h2.1, fun i i0 i1 => (h.2 i i0 i1).trans (h2.2 i i0 (by rw [← h.1]; exact i1))⟩
def KdR (T : Sto) (g p k : Int) : Prop := (k = -1 ∧ lkR T p T (31 + p)) ∨ (¬ lkR T p T (31 + p) ∧ (0 ≤ k ∧ k < g) ∧ lkR T p T (20 + k) ∧ ∀ j : Int, 0 ≤ j → j < k → ¬ lkR T p T (20 + j))
/-- everyone has the NAME from before, or one of the market -/
def KX (T : Sto) (g n : Int) : Prop := ∀ p : Int, 0 ≤ p → p < n → lkR T p T (31 + p) ∨ ∃ i : Int, 0 ≤ i ∧ i < g ∧ lkR T p T (20 + i)
/-- rows from 20 on are the same -/
def rwS (T T' : Sto) : Prop := ∀ a : Int, 20 ≤ a → T' 76 a = T 76 a ∧ ∀ i : Int, 0 ≤ i → i < 6 → T' 77 (6 * a + i) = T 77 (6 * a + i)
theorem rwS.lk {T T' : Sto} (h : rwS T T') {a : Int} (ha : 20 ≤ a) (hb : nmB T a) : lkR T a T' a := ⟨(h a ha).1.symm, fun i i0 i1 => ((h a ha).2 i i0 (by have := hb.1; omega)).symm⟩
theorem KdR.lk {T T' : Sto} {g p k k' : Int} (h : rwS T T') (hp : 0 ≤ p) (h31 : nmB T (31 + p)) (hg : ∀ i : Int, 0 ≤ i → i < g → nmB T (20 + i)) (h1 : KdR T g p k) (h2 : KdR T' g p k') : k = k' ↔ lkR T p T' p := by
  have e31 := h.lk (by omega) h31
  have e20 : ∀ i : Int, 0 ≤ i → i < g → lkR T (20 + i) T' (20 + i) := fun i i0 i1 => h.lk (by omega) (hg i i0 i1)
  refine ⟨fun e => ?_, fun e => ?_⟩
  · subst e
    rcases h1 with ⟨a1, a2⟩ | ⟨a1, a2, a3, a4⟩
    · rcases h2 with ⟨b1, b2⟩ | ⟨b1, b2, b3, b4⟩
      · exact (a2.trans e31).trans b2.symm
      · omega
    · rcases h2 with ⟨b1, b2⟩ | ⟨b1, b2, b3, b4⟩
      · omega
      · exact (a3.trans (e20 k a2.1 a2.2)).trans b3.symm
  · rcases h1 with ⟨a1, a2⟩ | ⟨a1, a2, a3, a4⟩
    · rcases h2 with ⟨b1, b2⟩ | ⟨b1, b2, b3, b4⟩
      · omega
      · exact absurd ((e.symm.trans a2).trans e31) b1
    · rcases h2 with ⟨b1, b2⟩ | ⟨b1, b2, b3, b4⟩
      · exact absurd ((e.trans b2).trans e31.symm) a1
      · by_cases q : k < k'
        · exact absurd ((e.symm.trans a3).trans (e20 k a2.1 a2.2)) (b4 k a2.1 q)
        · by_cases q2 : k' < k
          · exact absurd ((e.trans b3).trans (e20 k' b2.1 b2.2).symm) (a4 k' b2.1 q2)
          · omega
set_option maxHeartbeats 2000000 in
theorem t_X12_kindOf {p g : Int} {s : Sto} (hp : 0 ≤ p ∧ p < 20) (hg : 0 ≤ g ∧ g ≤ 10) (np : nmB s p) (no : nmB s (31 + p)) (nm : ∀ i : Int, 0 ≤ i → i < g → nmB s (20 + i)) (hx : Unit → lkR s p s (31 + p) ∨ ∃ i : Int, 0 ≤ i ∧ i < g ∧ lkR s p s (20 + i)) : ClI LY 1 MX12_kindOf [.inr 75, .inl p] s (fun r s' => s' = s ∧ KdR s g p r) := by
  refine ClI.intro (by decide) rfl (Nat.le_of_ble_eq_true rfl) (fun X C r => ?_)
  refine kb_X12_kindOf_0 C r ⟨0, _, by decide, t_X12_areLike (by omega) (by omega) np no, ?_⟩
  rintro b t ⟨ht, b1, b2⟩
  rw [ht]
  refine ⟨⟨by omega, by omega⟩, fun z => ?_, fun z => ⟨rfl, Or.inl ⟨rfl, b2.mp (by omega)⟩⟩⟩
  have n31 : ¬ lkR s p s (31 + p) := fun q => by have := b2.mpr q; omega
  rcases hx () with q | ⟨i, i0, i1, i2⟩
  · exact absurd q n31
  refine downI (P := fun j => (∀ j' : Int, 0 ≤ j' → j' < j → ¬ lkR s p s (20 + j')) → G LY X 16 [rv 75, iv p, iv j] [] s) (a := 0) (b := i) i0 ?_ ?_ (fun j j0 j1 => absurd j1 (by omega))
  · intro H
    refine kb_X12_kindOf_16 C r ⟨0, _, by decide, t_X12_areLike (by omega) (by omega) np (nm i i0 i1), ?_⟩
    rintro c t ⟨ht, c1, c2⟩
    rw [ht]
    have := c2.mpr i2
    exact ⟨⟨by omega, by omega⟩, fun _ => ⟨rfl, Or.inr ⟨n31, ⟨i0, i1⟩, i2, H⟩⟩, fun z => absurd z (by omega)⟩
  · intro j j0 j1 ih H
    refine kb_X12_kindOf_16 C r ⟨0, _, by decide, t_X12_areLike (by omega) (by omega) np (nm j j0 (by omega)), ?_⟩
    rintro c t ⟨ht, c1, c2⟩
    rw [ht]
    refine ⟨⟨by omega, by omega⟩, fun z => ⟨rfl, Or.inr ⟨n31, ⟨j0, by omega⟩, c2.mp (by omega), H⟩⟩, fun z => ih (fun j' z0 z1 => ?_)⟩
    by_cases e : j' = j
    · rw [e]; exact fun q => by have := c2.mpr q; omega
    · exact H j' z0 (by omega)
theorem KdR.congr {T T' : Sto} {g p k : Int} (h : KdR T g p k) (e6 : T' 76 = T 76) (e7 : T' 77 = T 77) : KdR T' g p k := by
  unfold KdR lkR at *
  rw [e6, e7]
  exact h
theorem nmB.congr {T T' : Sto} {a : Int} (h : nmB T a) (e6 : T' 76 = T 76) (e7 : T' 77 = T 77) : nmB T' a := by
  unfold nmB at *
  rw [e6, e7]
  exact h
set_option maxHeartbeats 2000000 in
theorem t_X12_notes {v g : Int} {s : Sto} (hv : 0 ≤ v ∧ v ≤ 40) (hn : 0 ≤ s 75 4 ∧ s 75 4 ≤ 20) (hg : 0 ≤ g ∧ g ≤ 10) (np : ∀ p : Int, 0 ≤ p → p < s 75 4 → nmB s p ∧ nmB s (31 + p)) (nm : ∀ i : Int, 0 ≤ i → i < g → nmB s (20 + i)) (hx : KX s g (s 75 4)) : ClV LY 2 MX12_notes [.inr 75, .inl v] s (fun s' => (∀ c : Nat, c ≠ 107 → s' c = s c) ∧ (∀ p : Int, 0 ≤ p → p < s 75 4 → KdR s g p (s' 107 (20 * v + p))) ∧ ∀ i : Int, ¬ (20 * v ≤ i ∧ i < 20 * v + s 75 4) → s' 107 i = s 107 i) := by
  refine ClV.intro (by decide) rfl (Nat.le_of_ble_eq_true rfl) (fun X C r => ?_)
  refine kb_X12_notes_0 C r ?_
  have key : ∀ S : Sto, ((∀ c : Nat, c ≠ 107 → S c = s c) ∧ (∀ p : Int, 0 ≤ p → p < 0 → KdR s g p (S 107 (20 * v + p))) ∧ ∀ i : Int, ¬ (20 * v ≤ i ∧ i < 20 * v + s 75 4) → S 107 i = s 107 i) → G LY X 2 [rv 75, iv v, iv 0] [] S := by
    refine downI (P := fun q => ∀ S : Sto, ((∀ c : Nat, c ≠ 107 → S c = s c) ∧ (∀ p : Int, 0 ≤ p → p < q → KdR s g p (S 107 (20 * v + p))) ∧ ∀ i : Int, ¬ (20 * v ≤ i ∧ i < 20 * v + s 75 4) → S 107 i = s 107 i) → G LY X 2 [rv 75, iv v, iv q] [] S) (a := 0) (b := s 75 4) hn.1 ?_ ?_
    · rintro S ⟨k1, k2, k3⟩
      refine kb_X12_notes_2 C r ?_
      rw [k1 75 (by decide)]
      exact ⟨⟨⟨by omega, by omega⟩, ⟨by omega, by omega⟩⟩, fun _ => ⟨k1, k2, k3⟩, fun z => absurd z (by omega)⟩
    · rintro q q0 q1 ih S ⟨k1, k2, k3⟩
      have e6 := k1 76 (by decide)
      have e7 := k1 77 (by decide)
      refine kb_X12_notes_2 C r ?_
      rw [k1 75 (by decide)]
      refine ⟨⟨⟨by omega, by omega⟩, ⟨by omega, by omega⟩⟩, fun z => absurd z (by omega), fun _ => ⟨1, _, by decide, t_X12_kindOf (g := g) (by omega) hg ((np q q0 q1).1.congr e6 e7) ((np q q0 q1).2.congr e6 e7) (fun i i0 i1 => (nm i i0 i1).congr e6 e7) (fun _ => ?_), ?_⟩⟩
      · have := hx q q0 q1
        unfold lkR at *
        rw [e6, e7]
        exact this
      · rintro k t ⟨ht, hk⟩
        rw [ht]
        refine ⟨⟨by omega, by omega⟩, ?_⟩
        rintro y hy
        refine ih y ⟨fun c hc => by rw [hy, up_row hc, k1 c hc], fun p p0 p1 => ?_, fun i hi => by rw [hy, up_idx (by omega), k3 i hi]⟩
        rw [hy, up_if]
        by_cases e : p = q
        · rw [if_pos (by omega), e]
          exact hk.congr e6.symm e7.symm
        · rw [if_neg (by omega)]
          exact k2 p p0 (by omega)
  exact key s ⟨fun _ _ => rfl, fun p p0 p1 => absurd p1 (by omega), fun _ _ => rfl⟩
set_option maxHeartbeats 2000000 in
theorem t_X12_areNames {a b : Int} {s : Sto} (ha : 0 ≤ a ∧ a ≤ 40) (hb : 0 ≤ b ∧ b ≤ 40) (hn : 0 ≤ s 75 4 ∧ s 75 4 ≤ 20) (hr : ∀ p : Int, 0 ≤ p → p < s 75 4 → rg (s 107 (20 * a + p)) ∧ rg (s 107 (20 * b + p))) : ClI LY 0 MX12_areNames [.inr 75, .inl a, .inl b] s (fun r s' => s' = s ∧ (r = 0 ∨ r = 1) ∧ (r = 1 ↔ ∀ p : Int, 0 ≤ p → p < s 75 4 → s 107 (20 * a + p) = s 107 (20 * b + p))) := by
  refine ClI.introZ (by decide) rfl (Nat.le_of_ble_eq_true rfl) (fun X C r => ?_)
  refine kb_X12_areNames_0 C r ?_
  refine downI (P := fun i => (∀ j : Int, 0 ≤ j → j < i → s 107 (20 * a + j) = s 107 (20 * b + j)) → G LY X 2 [rv 75, iv a, iv b, iv i] [] s) (a := 0) (b := s 75 4) hn.1 ?_ ?_ (fun j j0 j1 => absurd j1 (by omega))
  · intro H
    exact kb_X12_areNames_2 C r ⟨⟨⟨by omega, by omega⟩, ⟨by omega, by omega⟩⟩, fun _ => ⟨rfl, Or.inr rfl, ⟨fun _ => H, fun _ => rfl⟩⟩, fun z => absurd z (by omega)⟩
  · intro i i0 i1 ih H
    refine kb_X12_areNames_2 C r ⟨⟨⟨by omega, by omega⟩, ⟨by omega, by omega⟩⟩, fun z => absurd z (by omega), fun _ => ⟨⟨by omega, by omega⟩, ⟨by omega, by omega⟩, hr i i0 i1, fun q => ih (fun j j0 j1 => ?_), fun q => ⟨rfl, Or.inl rfl, ⟨fun w => absurd w (by decide), fun w => absurd (w i i0 i1) q⟩⟩⟩⟩
    by_cases e : j = i
    · rw [e]; exact q
    · exact H j j0 (by omega)
