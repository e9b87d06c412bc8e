/-! ALL ORDERS, one behind the other -/
def dgN (K n i : Nat) : Nat := n / 8 ^ (K - 1 - i) % 8
def frN (K n : Nat) : Nat → Nat
  | 0 => 0
  | i + 1 => if dgN K n i < dgN K n (i + 1) then i + 1 else frN K n i
def wtN (K n x : Nat) : Nat → Nat
  | 0 => 0
  | j + 1 => if x < dgN K n j then j else wtN K n x j
def ndN (K n f w i : Nat) : Nat := if i < f then dgN K n i else if i = f then dgN K n w else if K + f - i = w then dgN K n f else dgN K n (K + f - i)
def pkN (g : Nat → Nat) : Nat → Nat
  | 0 => 0
  | i + 1 => 8 * pkN g i + g i
/-- the next one, 0 behind the last -/
def nxN (K n : Nat) : Nat := if frN K n (K - 1) = 0 then 0 else pkN (ndN K n (frN K n (K - 1) - 1) (wtN K n (dgN K n (frN K n (K - 1) - 1)) K)) K
def vdN (K n : Nat) : Bool := (List.range K).all (fun i => decide (dgN K n i < K) && (List.range i).all (fun j => dgN K n i != dgN K n j)) && decide (n < 8 ^ K)
def okN (K : Nat) : Nat → Nat → Bool
  | 0, _ => false
  | f + 1, n => vdN K n && (frN K n (K - 1) == 0 || okN K f (nxN K n))
def idN (K : Nat) : Nat := pkN (fun i => i) K
theorem ok_2 : okN 2 720 (idN 2) = true := by decide +kernel
theorem ok_3 : okN 3 720 (idN 3) = true := by decide +kernel
theorem ok_4 : okN 4 720 (idN 4) = true := by decide +kernel
theorem ok_5 : okN 5 720 (idN 5) = true := by decide +kernel
theorem ok_6 : okN 6 720 (idN 6) = true := by decide +kernel
theorem ok_more : ∀ K : Fin 7, 2 ≤ K.val → frN K.val (idN K.val) (K.val - 1) ≠ 0 ∧ nxN K.val (idN K.val) ≠ idN K.val := by decide +kernel
theorem vd_is {K n : Nat} (h : vdN K n = true) : (∀ i : Nat, i < K → dgN K n i < K) ∧ (∀ i j : Nat, i < K → j < K → dgN K n i = dgN K n j → i = j) ∧ n < 8 ^ K := by
  unfold vdN at h
  rw [Bool.and_eq_true, decide_eq_true_eq, List.all_eq_true] at h
  have a : ∀ i : Nat, i < K → dgN K n i < K ∧ ∀ j : Nat, j < i → dgN K n i ≠ dgN K n j := by
    intro i hi
    have := h.1 i (List.mem_range.mpr hi)
    rw [Bool.and_eq_true, decide_eq_true_eq, List.all_eq_true] at this
    refine ⟨this.1, fun j hj => ?_⟩
    have := this.2 j (List.mem_range.mpr hj)
    simpa using this
  refine ⟨fun i hi => (a i hi).1, fun i j hi hj e => ?_, h.2⟩
  rcases Nat.lt_trichotomy i j with q | q | q
  · exact absurd e.symm ((a j hj).2 i q)
  · exact q
  · exact absurd e ((a i hi).2 j q)
theorem ok_is {K f n : Nat} (h : okN K (f + 1) n = true) : vdN K n = true ∧ (frN K n (K - 1) = 0 ∨ okN K f (nxN K n) = true) := by
  have e : okN K (f + 1) n = (vdN K n && (frN K n (K - 1) == 0 || okN K f (nxN K n))) := rfl
  rw [e, Bool.and_eq_true, Bool.or_eq_true] at h
  refine ⟨h.1, ?_⟩
  rcases h.2 with q | q
  · exact Or.inl (by simpa using q)
  · exact Or.inr q
theorem fr_is {K n : Nat} : ∀ k : Nat, (frN K n k = 0 ∧ ∀ i : Nat, i < k → ¬ dgN K n i < dgN K n (i + 1)) ∨ (∃ f : Nat, f < k ∧ frN K n k = f + 1 ∧ dgN K n f < dgN K n (f + 1) ∧ ∀ i : Nat, f < i → i < k → ¬ dgN K n i < dgN K n (i + 1))
  | 0 => Or.inl ⟨rfl, fun i hi => absurd hi (by omega)⟩
  | k + 1 => by
    have e : frN K n (k + 1) = if dgN K n k < dgN K n (k + 1) then k + 1 else frN K n k := rfl
    by_cases q : dgN K n k < dgN K n (k + 1)
    · rw [if_pos q] at e
      exact Or.inr ⟨k, by omega, e, q, fun i h1 h2 => absurd h1 (by omega)⟩
    · rw [if_neg q] at e
      rcases fr_is k with ⟨a, b⟩ | ⟨f, a, b, c, d⟩
      · refine Or.inl ⟨by rw [e, a], fun i hi => ?_⟩
        by_cases z : i = k
        · rw [z]; exact q
        · exact b i (by omega)
      · refine Or.inr ⟨f, by omega, by rw [e, b], c, fun i h1 h2 => ?_⟩
        by_cases z : i = k
        · rw [z]; exact q
        · exact d i h1 (by omega)
theorem wt_is {K n x : Nat} : ∀ k : Nat, (∃ j : Nat, j < k ∧ x < dgN K n j) → wtN K n x k < k ∧ x < dgN K n (wtN K n x k) ∧ ∀ j : Nat, wtN K n x k < j → j < k → ¬ x < dgN K n j
  | 0, h => by obtain ⟨j, hj, _⟩ := h; omega
  | k + 1, h => by
    have e : wtN K n x (k + 1) = if x < dgN K n k then k else wtN K n x k := rfl
    by_cases q : x < dgN K n k
    · rw [if_pos q] at e
      rw [e]
      exact ⟨by omega, q, fun j h1 h2 => absurd h1 (by omega)⟩
    · rw [if_neg q] at e
      rw [e]
      obtain ⟨j, hj, hx⟩ := h
      have jk : j ≠ k := fun z => q (by rw [← z]; exact hx)
      obtain ⟨a, b, c⟩ := wt_is k ⟨j, by omega, hx⟩
      refine ⟨by omega, b, fun i h1 h2 => ?_⟩
      by_cases z : i = k
      · rw [z]; exact q
      · exact c i h1 (by omega)
theorem pk_pq (g : Nat → Nat) : ∀ k : Nat, ((pkN g k : Nat) : Int) = pq 8 (fun i => ((g i.toNat : Nat) : Int)) k
  | 0 => rfl
  | k + 1 => by
    show ((8 * pkN g k + g k : Nat) : Int) = 8 * pq 8 (fun i => ((g i.toNat : Nat) : Int)) k + ((g ((k : Nat) : Int).toNat : Nat) : Int)
    rw [← pk_pq g k, show ((k : Nat) : Int).toNat = k by omega]
    omega
theorem dg_pk {K : Nat} {g : Nat → Nat} (hg : ∀ i : Nat, i < K → g i < 8) {i : Nat} (hi : i < K) : dgN K (pkN g K) i = g i := by
  have d := pq_dig (B := 8) (f := fun i => ((g i.toNat : Nat) : Int)) (by decide) (n := K) (i := i) (fun j hj => by
    have := hg j hj
    show 0 ≤ ((g ((j : Nat) : Int).toNat : Nat) : Int) ∧ ((g ((j : Nat) : Int).toNat : Nat) : Int) < 8
    rw [show ((j : Nat) : Int).toNat = j by omega]
    omega) hi
  rw [← pk_pq g K] at d
  have e : ((pkN g K / 8 ^ (K - 1 - i) % 8 : Nat) : Int) = ((g i : Nat) : Int) := by
    rw [Int.natCast_emod, Int.natCast_ediv, Int.natCast_pow]
    exact d
  exact Int.ofNat.inj e
/-- the digits of n as an ORDER -/
def dgI (K : Int) (n : Nat) (i : Int) : Int := ((dgN K.toNat n i.toNat : Nat) : Int)
theorem dg_all {K n : Nat} (hn : n < 8 ^ K) : ∀ k : Nat, k ≤ K → pq 8 (fun i => ((dgN K n i.toNat : Nat) : Int)) k = ((n / 8 ^ (K - k) : Nat) : Int)
  | 0, _ => by
    show (0 : Int) = _
    rw [Nat.sub_zero, Nat.div_eq_of_lt hn]
    rfl
  | k + 1, hk => by
    show 8 * pq 8 (fun i => ((dgN K n i.toNat : Nat) : Int)) k + ((dgN K n ((k : Nat) : Int).toNat : Nat) : Int) = _
    rw [dg_all hn k (by omega), show ((k : Nat) : Int).toNat = k by omega]
    unfold dgN
    have e : n / 8 ^ (K - k) = n / 8 ^ (K - (k + 1)) / 8 := by
      rw [Nat.div_div_eq_div_mul, show K - k = K - (k + 1) + 1 by omega, Nat.pow_succ]
    rw [e, show K - 1 - k = K - (k + 1) by omega]
    omega
theorem dg_OdR {K : Int} {n : Nat} (hK : 2 ≤ K ∧ K ≤ 8) (h : vdN K.toNat n = true) : OdR K (n : Int) (dgI K n) := by
  obtain ⟨a, b, c⟩ := vd_is h
  refine ⟨hK, fun i i0 i1 => ?_, fun i j i0 i1 j0 j1 e => ?_, ?_⟩
  · have := a i.toNat (by omega)
    unfold dgI
    omega
  · have := b i.toNat j.toNat (by omega) (by omega) (by unfold dgI at e; omega)
    omega
  · have := dg_all c K.toNat (Nat.le_refl _)
    rw [Nat.sub_self, Nat.pow_zero, Nat.div_one] at this
    exact this.symm
/-- what a step to the next one does -/
theorem nx_is {K : Nat} {n f : Nat} (hK : K ≤ 8) (hv : vdN K n = true) (hf : frN K n (K - 1) = f + 1) : ∃ w : Nat, f + 1 < K ∧ f < w ∧ w < K ∧ dgN K n f < dgN K n (f + 1) ∧ (∀ i : Nat, f < i → i < K - 1 → dgN K n (i + 1) < dgN K n i) ∧ dgN K n f < dgN K n w ∧ (∀ j : Nat, w < j → j < K → dgN K n j < dgN K n f) ∧ ∀ i : Nat, i < K → dgN K (nxN K n) i = ndN K n f w i := by
  obtain ⟨a, b, c⟩ := vd_is hv
  rcases fr_is (K := K) (n := n) (K - 1) with ⟨q, _⟩ | ⟨f', f1, f2, f3, f4⟩
  · omega
  · obtain rfl : f = f' := by omega
    obtain ⟨w1, w2, w3⟩ := wt_is (K := K) (n := n) (x := dgN K n f) K ⟨f + 1, by omega, f3⟩
    have ne : ∀ i j : Nat, i < K → j < K → i ≠ j → dgN K n i ≠ dgN K n j := fun i j hi hj z e => z (b i j hi hj e)
    have nx : nxN K n = pkN (ndN K n f (wtN K n (dgN K n f) K)) K := by
      unfold nxN
      rw [f2, if_neg (by omega), show f + 1 - 1 = f by omega]
    generalize wtN K n (dgN K n f) K = w at *
    have fw : f < w := by
      rcases Nat.lt_trichotomy f w with z | z | z
      · exact z
      · rw [z] at w2; omega
      · exact absurd f3 (w3 (f + 1) (by omega) (by omega))
    refine ⟨w, by omega, fw, w1, f3, fun i h1 h2 => ?_, w2, fun j h1 h2 => ?_, fun i hi => ?_⟩
    · have := f4 i h1 h2
      have := ne i (i + 1) (by omega) (by omega) (by omega)
      omega
    · have := w3 j h1 h2
      have := ne j f h2 (by omega) (by omega)
      omega
    · rw [nx, dg_pk (fun j hj => ?_) hi]
      have d : ∀ x : Nat, dgN K n x < 8 := fun x => Nat.mod_lt _ (by decide)
      unfold ndN
      split
      · exact d _
      · split
        · exact d _
        · split <;> exact d _
