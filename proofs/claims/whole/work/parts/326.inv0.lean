/-! THE FRESH STORE: what holds between two calls holds at the start -/
theorem sL0_z {c : Nat} (h0 : c ≠ 0) (h1 : c ≠ 1) (h8 : c ≠ 8) (i : Int) : sL0 c i = 0 := by
  show (if c = 0 ∧ i = 0 then 5 else if c = 0 ∧ i = 2 then pq 8 (fun i => i) 5 else if c = 1 ∧ 0 ≤ i ∧ i < 7 then stA 502 i else if c = 8 ∧ 0 ≤ i ∧ i < 6 then -1 else 0) = (0 : Int)
  rw [if_neg (fun q => h0 q.1), if_neg (fun q => h0 q.1), if_neg (fun q => h1 q.1), if_neg (fun q => h8 q.1)]
theorem sL0_8 {i : Int} (h1 : 0 ≤ i) (h2 : i < 6) : sL0 8 i = -1 := by
  show (if (8 : Nat) = 0 ∧ i = 0 then 5 else if (8 : Nat) = 0 ∧ i = 2 then pq 8 (fun i => i) 5 else if (8 : Nat) = 1 ∧ 0 ≤ i ∧ i < 7 then stA 502 i else if (8 : Nat) = 8 ∧ 0 ≤ i ∧ i < 6 then -1 else 0) = (-1 : Int)
  rw [if_neg (by omega), if_neg (by omega), if_neg (by omega), if_pos ⟨rfl, h1, h2⟩]
theorem words_S0 : ∀ j : Nat, j < 81 → rowL l_92 (j : Int) = wordsT (j : Int) := by decide +kernel
theorem told_S0 : ∀ j : Nat, j < 7 → sL0 1 (j : Int) = rowL l_82 (j : Int) ∧ stA 500 (j : Int) ≤ sL0 1 (j : Int) ∧ sL0 1 (j : Int) ≤ stA 501 (j : Int) := by decide +kernel
theorem land_S0 : @LandR (Yn 0) S0 3 S0 := by
  have e22 : S0 75 22 = 0 := by decide +kernel
  have e50 : S0 5 0 = 0 := by decide +kernel
  have e39 : S0 3 9 = 0 := by decide +kernel
  have e311 : S0 3 11 = 0 := by decide +kernel
  have e170 : S0 17 0 = 0 := by decide +kernel
  have e171 : S0 17 1 = 0 := by decide +kernel
  refine ⟨by decide +kernel, by decide +kernel, ?_, ?_, ?_, ?_, ?_, ?_, ?_, ?_, ?_, ?_, ?_, ?_, ?_⟩
  · rw [e22, show alM 0 (S0 81) = fun i => i from funext (fun i => if_pos rfl), show S0 3 0 = 5 from rfl]
    exact ⟨by decide, fun i h1 h2 => ⟨h1, h2⟩, fun i j _ _ _ _ e => e, rfl⟩
  · rw [Yn_N]
    exact ⟨by decide +kernel, by decide +kernel, by decide +kernel, by decide⟩
  · intro i h1 h2
    obtain ⟨j, rfl⟩ : ∃ j : Nat, i = (j : Int) := ⟨i.toNat, by omega⟩
    exact told_S0 j (by omega)
  · exact ⟨by decide +kernel, by rw [e50]; decide, by rw [e50]; decide⟩
  · intro p h1 h2
    rw [show S0 (3 + 2) 0 = 0 from e50] at h2
    omega
  · intro p h1 h2
    rw [show S0 (3 + 2) 0 = 0 from e50] at h2
    omega
  · intro j h1 h2
    show (sL0 7 (4 * j) = 0 ∧ ((0 : Int) = 0 ∨ (0 : Int) = 1)) ∧ (sL0 7 (4 * j + 1) = 0 ∧ -99 ≤ (0 : Int) ∧ (0 : Int) ≤ 99) ∧ (sL0 7 (4 * j + 2) = 0 ∧ 0 ≤ (0 : Int) ∧ (0 : Int) ≤ 99) ∧ (sL0 7 (4 * j + 3) = 0 ∧ 0 ≤ (0 : Int) ∧ (0 : Int) ≤ 20)
    rw [sL0_z (by decide) (by decide) (by decide), sL0_z (by decide) (by decide) (by decide), sL0_z (by decide) (by decide) (by decide), sL0_z (by decide) (by decide) (by decide)]
    decide
  · intro j h1 h2
    refine ⟨?_, Or.inl ⟨rfl, ?_⟩⟩
    · show sL0 9 j = 0 ∧ 0 ≤ sL0 9 j ∧ sL0 9 j ≤ 99
      rw [sL0_z (by decide) (by decide) (by decide)]
      decide
    · exact sL0_8 h1 h2
  · exact ⟨by decide +kernel, by rw [e39]; decide, by rw [e39]; decide⟩
  · intro p h1 h2
    rw [e39] at h2
    omega
  · exact ⟨by decide +kernel, by rw [e311]; decide, by rw [e311]; decide⟩
  · intro p h1 h2
    rw [e311] at h2
    omega
  · refine ⟨by decide +kernel, ?_⟩
    rw [show S0 (3 + 14) 0 = 0 from e170, show S0 (3 + 14) 1 = 0 from e171]
    exact ⟨by decide, by decide, fun i h1 h2 => absurd h2 (by omega), fun _ => rfl, fun l h1 h2 => absurd h2 (by omega)⟩
theorem inv_S0 : @Inv (Yn 0) S0 := by
  have e11 : S0 1 1 = 0 := by decide +kernel
  have e03 : S0 0 3 = 0 := by decide +kernel
  refine ⟨⟨by decide +kernel, ?_⟩, land_S0, by decide +kernel, ⟨by decide +kernel, Or.inl e03, fun h => absurd (e03.symm.trans h) (by decide)⟩, Or.inl (by decide +kernel), by decide +kernel, ?_⟩
  · rw [e11]
    exact ⟨by decide, by decide, fun i h1 h2 => absurd h2 (by omega)⟩
  · intro i h1 h2
    obtain ⟨j, rfl⟩ : ∃ j : Nat, i = (j : Int) := ⟨i.toNat, by omega⟩
    exact words_S0 j (by omega)
