/-! THE IMAGE in the reference: place by place -/
/-- the place in the image of cell c, index i; -1: it isn't kept -/
def sxI (c : Nat) (i : Int) : Int := if c = 75 then (if i = 1 then 0 else if i = 9 then 1 else if i = 21 then 2 else if i = 18 then 3 else if i = 4 then 223 else if i = 8 then 284 else if i = 30 then 495 else -1) else if c = 81 then (if 0 ≤ i ∧ i < 152 then 4 + i else -1) else if c = 82 then (if 0 ≤ i ∧ i < 7 then 156 + i else -1) else if 83 ≤ c ∧ c ≤ 88 then (if 0 ≤ i ∧ i < 6 then 163 + 6 * i + ((c : Int) - 83) else -1) else if 89 ≤ c ∧ c ≤ 90 then (if 0 ≤ i ∧ i < 12 then 199 + 2 * i + ((c : Int) - 89) else -1) else if 78 ≤ c ∧ c ≤ 80 then (if 0 ≤ i ∧ i < 20 then 224 + 3 * i + ((c : Int) - 78) else -1) else if c = 76 then (if 0 ≤ i ∧ i < 30 then 285 + i else -1) else if c = 77 then (if 0 ≤ i ∧ i < 180 then 315 + i else -1) else if 93 ≤ c ∧ c ≤ 95 then (if 0 ≤ i ∧ i < 16 then 496 + 3 * i + ((c : Int) - 93) else -1) else if 96 ≤ c ∧ c ≤ 97 then (if 0 ≤ i ∧ i < 400 then 544 + 2 * i + ((c : Int) - 96) else -1) else -1
def slC (j : Int) : Nat := if j < 4 then 75 else if j < 156 then 81 else if j < 163 then 82 else if j < 199 then (83 + (j - 163) % 6).toNat else if j < 223 then (89 + (j - 199) % 2).toNat else if j = 223 then 75 else if j < 284 then (78 + (j - 224) % 3).toNat else if j = 284 then 75 else if j < 315 then 76 else if j < 495 then 77 else if j = 495 then 75 else if j < 544 then (93 + (j - 496) % 3).toNat else (96 + (j - 544) % 2).toNat
def slI (j : Int) : Int := if j < 4 then (if j = 0 then 1 else if j = 1 then 9 else if j = 2 then 21 else 18) else if j < 156 then j - 4 else if j < 163 then j - 156 else if j < 199 then (j - 163) / 6 else if j < 223 then (j - 199) / 2 else if j = 223 then 4 else if j < 284 then (j - 224) / 3 else if j = 284 then 8 else if j < 315 then j - 285 else if j < 495 then j - 315 else if j = 495 then 30 else if j < 544 then (j - 496) / 3 else (j - 544) / 2
set_option maxHeartbeats 4000000 in
theorem sx_sl {c : Nat} {i : Int} (h : 0 ≤ sxI c i) : slC (sxI c i) = c ∧ slI (sxI c i) = i := by
  unfold sxI at h ⊢
  by_cases q1 : c = 75
  · rw [if_pos q1] at h ⊢
    subst q1
    by_cases a1 : i = 1
    · rw [if_pos a1, a1]; decide
    rw [if_neg a1] at h ⊢
    by_cases a2 : i = 9
    · rw [if_pos a2, a2]; decide
    rw [if_neg a2] at h ⊢
    by_cases a3 : i = 21
    · rw [if_pos a3, a3]; decide
    rw [if_neg a3] at h ⊢
    by_cases a4 : i = 18
    · rw [if_pos a4, a4]; decide
    rw [if_neg a4] at h ⊢
    by_cases a5 : i = 4
    · rw [if_pos a5, a5]; decide
    rw [if_neg a5] at h ⊢
    by_cases a6 : i = 8
    · rw [if_pos a6, a6]; decide
    rw [if_neg a6] at h ⊢
    by_cases a7 : i = 30
    · rw [if_pos a7, a7]; decide
    rw [if_neg a7] at h
    exact absurd h (by decide)
  rw [if_neg q1] at h ⊢
  by_cases q2 : c = 81
  · rw [if_pos q2] at h ⊢
    by_cases b : 0 ≤ i ∧ i < 152
    · rw [if_pos b]; unfold slC slI; rw [if_neg (by omega), if_pos (by omega), if_neg (by omega), if_pos (by omega)]; omega
    · rw [if_neg b] at h; exact absurd h (by decide)
  rw [if_neg q2] at h ⊢
  by_cases q3 : c = 82
  · rw [if_pos q3] at h ⊢
    by_cases b : 0 ≤ i ∧ i < 7
    · rw [if_pos b]; unfold slC slI; rw [if_neg (by omega), if_neg (by omega), if_pos (by omega), if_neg (by omega), if_neg (by omega), if_pos (by omega)]; omega
    · rw [if_neg b] at h; exact absurd h (by decide)
  rw [if_neg q3] at h ⊢
  by_cases q4 : 83 ≤ c ∧ c ≤ 88
  · rw [if_pos q4] at h ⊢
    by_cases b : 0 ≤ i ∧ i < 6
    · rw [if_pos b]; unfold slC slI; rw [if_neg (by omega), if_neg (by omega), if_neg (by omega), if_pos (by omega), if_neg (by omega), if_neg (by omega), if_neg (by omega), if_pos (by omega)]; omega
    · rw [if_neg b] at h; exact absurd h (by decide)
  rw [if_neg q4] at h ⊢
  by_cases q5 : 89 ≤ c ∧ c ≤ 90
  · rw [if_pos q5] at h ⊢
    by_cases b : 0 ≤ i ∧ i < 12
    · rw [if_pos b]; unfold slC slI; rw [if_neg (by omega), if_neg (by omega), if_neg (by omega), if_neg (by omega), if_pos (by omega), if_neg (by omega), if_neg (by omega), if_neg (by omega), if_neg (by omega), if_pos (by omega)]; omega
    · rw [if_neg b] at h; exact absurd h (by decide)
  rw [if_neg q5] at h ⊢
  by_cases q6 : 78 ≤ c ∧ c ≤ 80
  · rw [if_pos q6] at h ⊢
    by_cases b : 0 ≤ i ∧ i < 20
    · rw [if_pos b]; unfold slC slI; rw [if_neg (by omega), if_neg (by omega), if_neg (by omega), if_neg (by omega), if_neg (by omega), if_neg (by omega), if_pos (by omega), if_neg (by omega), if_neg (by omega), if_neg (by omega), if_neg (by omega), if_neg (by omega), if_neg (by omega), if_pos (by omega)]; omega
    · rw [if_neg b] at h; exact absurd h (by decide)
  rw [if_neg q6] at h ⊢
  by_cases q7 : c = 76
  · rw [if_pos q7] at h ⊢
    by_cases b : 0 ≤ i ∧ i < 30
    · rw [if_pos b]; unfold slC slI; rw [if_neg (by omega), if_neg (by omega), if_neg (by omega), if_neg (by omega), if_neg (by omega), if_neg (by omega), if_neg (by omega), if_neg (by omega), if_pos (by omega), if_neg (by omega), if_neg (by omega), if_neg (by omega), if_neg (by omega), if_neg (by omega), if_neg (by omega), if_neg (by omega), if_neg (by omega), if_pos (by omega)]; omega
    · rw [if_neg b] at h; exact absurd h (by decide)
  rw [if_neg q7] at h ⊢
  by_cases q8 : c = 77
  · rw [if_pos q8] at h ⊢
    by_cases b : 0 ≤ i ∧ i < 180
    · rw [if_pos b]; unfold slC slI; rw [if_neg (by omega), if_neg (by omega), if_neg (by omega), if_neg (by omega), if_neg (by omega), if_neg (by omega), if_neg (by omega), if_neg (by omega), if_neg (by omega), if_pos (by omega), if_neg (by omega), if_neg (by omega), if_neg (by omega), if_neg (by omega), if_neg (by omega), if_neg (by omega), if_neg (by omega), if_neg (by omega), if_neg (by omega), if_pos (by omega)]; omega
    · rw [if_neg b] at h; exact absurd h (by decide)
  rw [if_neg q8] at h ⊢
  by_cases q9 : 93 ≤ c ∧ c ≤ 95
  · rw [if_pos q9] at h ⊢
    by_cases b : 0 ≤ i ∧ i < 16
    · rw [if_pos b]; unfold slC slI; rw [if_neg (by omega), if_neg (by omega), if_neg (by omega), if_neg (by omega), if_neg (by omega), if_neg (by omega), if_neg (by omega), if_neg (by omega), if_neg (by omega), if_neg (by omega), if_neg (by omega), if_pos (by omega), if_neg (by omega), if_neg (by omega), if_neg (by omega), if_neg (by omega), if_neg (by omega), if_neg (by omega), if_neg (by omega), if_neg (by omega), if_neg (by omega), if_neg (by omega), if_neg (by omega), if_pos (by omega)]; omega
    · rw [if_neg b] at h; exact absurd h (by decide)
  rw [if_neg q9] at h ⊢
  by_cases q10 : 96 ≤ c ∧ c ≤ 97
  · rw [if_pos q10] at h ⊢
    by_cases b : 0 ≤ i ∧ i < 400
    · rw [if_pos b]; unfold slC slI; rw [if_neg (by omega), if_neg (by omega), if_neg (by omega), if_neg (by omega), if_neg (by omega), if_neg (by omega), if_neg (by omega), if_neg (by omega), if_neg (by omega), if_neg (by omega), if_neg (by omega), if_neg (by omega), if_neg (by omega), if_neg (by omega), if_neg (by omega), if_neg (by omega), if_neg (by omega), if_neg (by omega), if_neg (by omega), if_neg (by omega), if_neg (by omega), if_neg (by omega), if_neg (by omega), if_neg (by omega)]; omega
    · rw [if_neg b] at h; exact absurd h (by decide)
  rw [if_neg q10] at h
  exact absurd h (by decide)
theorem sx_inj {c c' : Nat} {i i' : Int} (h : 0 ≤ sxI c i) (e : sxI c' i' = sxI c i) : c' = c ∧ i' = i := by
  have a := sx_sl h
  have b := sx_sl (c := c') (i := i') (by omega)
  rw [e] at b
  exact ⟨b.1.symm.trans a.1, b.2.symm.trans a.2⟩
/-- k places done, from the store B -/
def STI (tk : Int) (B : Sto) (k : Int) (S : Sto) : Prop := S 75 70 = k ∧ (∀ (c : Nat) (i : Int), c ≠ 118 → ¬ (c = 75 ∧ i = 70) → S c i = if tk = 0 ∧ 0 ≤ sxI c i ∧ sxI c i < k then B 118 (sxI c i) else B c i) ∧ ∀ j : Int, S 118 j = if tk ≠ 0 ∧ 0 ≤ j ∧ j < k then B (slC j) (slI j) else B 118 j
theorem keep1 {tk k : Int} {B S : Sto} {c : Nat} {i : Int} (h : STI tk B k S) (hB : B 75 68 = tk) (htk : tk = 0 ∨ tk = 1) (hs : sxI c i = k) (hk : 0 ≤ k ∧ k < 1700) : ClI LY 0 MX12_kept [.inr 75, .inl (S c i)] S (fun r s' => ∀ T : Sto, T = up s' c i r → STI tk B (k + 1) T) := by
  obtain ⟨h1, h2, h3⟩ := h
  have c118 : c ≠ 118 := fun e => by
    rw [e] at hs
    have : sxI 118 i = -1 := rfl
    omega
  have c70 : ¬ (c = 75 ∧ i = 70) := fun e => by
    rw [e.1, e.2] at hs
    have : sxI 75 70 = -1 := by decide
    omega
  have s68 : S 75 68 = tk := by
    rw [h2 75 68 (by decide) (by decide), if_neg (fun q => absurd q.2.1 (by decide)), hB]
  have sci : S c i = B c i := by rw [h2 c i c118 c70, if_neg (by omega)]
  have inj : ∀ (c' : Nat) (i' : Int), ¬ (c' = c ∧ i' = i) → sxI c' i' ≠ k := fun c' i' q e => q (sx_inj (c := c) (i := i) (by omega) (by omega))
  have sl := sx_sl (c := c) (i := i) (by omega)
  rw [hs] at sl
  refine ClI.intro (by decide) rfl (Nat.le_of_ble_eq_true rfl) (fun X C r => ?_)
  refine kb_X12_kept_0 C r ?_
  rintro s1 hs1
  have a70 : s1 75 70 = k + 1 := by rw [hs1, up_at, h1]
  have a68 : s1 75 68 = tk := by rw [hs1, up_idx (by decide), s68]
  have ac : ∀ (c' : Nat) (i' : Int), ¬ (c' = 75 ∧ i' = 70) → s1 c' i' = S c' i' := fun c' i' q => by rw [hs1, up_ne q]
  rw [a70, a68, show k + 1 - 1 = k by omega]
  refine ⟨by rcases htk with z | z <;> rw [z] <;> decide, fun z => ⟨by omega, ?_⟩, fun z => ⟨by omega, ?_⟩⟩
  · -- taken
    rintro s2 hs2 T hT
    refine ⟨?_, fun c' i' q1 q2 => ?_, fun j => ?_⟩
    · rw [hT, up_ne (fun e => c70 ⟨e.1.symm, e.2.symm⟩), hs2, up_row (by decide), a70]
    · rw [if_neg (fun e => z e.1)]
      by_cases e : c' = c ∧ i' = i
      · rw [hT, e.1, e.2, up_at, sci]
      · rw [hT, up_ne e, hs2, up_row q1, ac c' i' q2, h2 c' i' q1 q2, if_neg (fun e => z e.1)]
    · rw [hT, up_row (fun e => c118 e.symm), hs2, up_if]
      by_cases e : j = k
      · rw [if_pos e, if_pos ⟨z, by omega, by omega⟩, e, sl.1, sl.2, sci]
      · rw [if_neg e, ac 118 j (by omega), h3 j]
        by_cases q : tk ≠ 0 ∧ 0 ≤ j ∧ j < k
        · rw [if_pos q, if_pos ⟨z, by omega, by omega⟩]
        · rw [if_neg q, if_neg (by omega)]
  · -- given back
    rintro T hT
    have b118 : S 118 k = B 118 k := by rw [h3 k, if_neg (fun e => e.1 z)]
    refine ⟨?_, fun c' i' q1 q2 => ?_, fun j => ?_⟩
    · rw [hT, up_ne (fun e => c70 ⟨e.1.symm, e.2.symm⟩), a70]
    · by_cases e : c' = c ∧ i' = i
      · rw [hT, e.1, e.2, up_at, ac 118 k (by omega), b118, if_pos ⟨z, by omega, by omega⟩, hs]
      · have ne := inj c' i' e
        rw [hT, up_ne e, ac c' i' q2, h2 c' i' q1 q2]
        by_cases q : tk = 0 ∧ 0 ≤ sxI c' i' ∧ sxI c' i' < k
        · rw [if_pos q, if_pos ⟨z, by omega, by omega⟩]
        · rw [if_neg q, if_neg (by omega)]
    · rw [hT, up_row (fun e => c118 e.symm), ac 118 j (by omega), h3 j, if_neg (fun e => e.1 z), if_neg (fun e => e.1 z)]
