/-! REST: round by round, in the class -/
theorem risI {P : Int → Prop} {a : Int} (h : P a) (st : ∀ k, a ≤ k → P k → P (k + 1)) : ∀ k, a ≤ k → P k := by
  intro k hk
  obtain ⟨n, hn⟩ := Int.eq_ofNat_of_zero_le (show 0 ≤ k - a by omega)
  have key : ∀ n : Nat, P (a + n) := by
    intro n
    induction n with
    | zero => simpa using h
    | succ n ih =>
      have := st _ (by omega) ih
      rw [show a + ((n + 1 : Nat) : Int) = a + n + 1 by omega]
      exact this
  rw [show k = a + n by omega]
  exact key n
theorem cpy_row {s : Sto} {a b c : Nat} {i j n : Int} (h : c ≠ b) : cpy s a b i j n c = s c := by
  funext k
  exact if_neg (fun q => h q.1)
theorem cpy_in {s : Sto} {a b : Nat} {i j n k : Int} (h : j ≤ k ∧ k < j + n) : cpy s a b i j n b k = s a (i + (k - j)) := if_pos ⟨rfl, h⟩
theorem cpy_out {s : Sto} {a b : Nat} {i j n k : Int} (h : ¬ (j ≤ k ∧ k < j + n)) : cpy s a b i j n b k = s b k := if_neg (fun q => h q.2)
def lkR (T : Sto) (a : Int) (T' : Sto) (b : Int) : Prop := T 76 a = T' 76 b ∧ ∀ i : Int, 0 ≤ i → i < T 76 a → T 77 (6 * a + i) = T' 77 (6 * b + i)
theorem NmR.inj {x x' n n' : Int} {f f' : Int → Int} (h : NmR x n f) (h' : NmR x' n' f') : x = x' ↔ n = n' ∧ ∀ i : Int, 0 ≤ i → i < n → f i = f' i := by
  refine ⟨fun e => ?_, fun q => ?_⟩
  · subst e
    have b1 := h.1
    have b2 := h'.1
    have L : ∀ i : Int, 0 ≤ i ∧ i < 6 → (if i < n then f i else -1) = (if i < n' then f' i else -1) := fun i hi => by rw [← h.letter hi, ← h'.letter hi]
    have en : n = n' := by
      by_cases z : n < n'
      · have := L n (by omega)
        rw [if_neg (by omega), if_pos z] at this
        have := h'.2.1 n (by omega) z
        omega
      · by_cases z2 : n' < n
        · have := L n' (by omega)
          rw [if_neg (by omega : ¬ n' < n'), if_pos z2] at this
          have := h.2.1 n' (by omega) z2
          omega
        · omega
    refine ⟨en, fun i i0 i1 => ?_⟩
    have := L i (by omega)
    rw [if_pos i1, if_pos (by omega)] at this
    exact this
  · have : NmR x n' f' := h.congr q.1.symm (fun k k0 k1 => (q.2 k k0 k1).symm)
    rw [this.2.2, h'.2.2]
def smP (T T' : Sto) (m : Int) : Prop := ∀ p : Int, 0 ≤ p → p < m → lkR T p T' p
/-- all NAMES behind k rounds -/
noncomputable def stS (t : Sto) (od : Int → Int) (g m : Int) : Nat → Sto
  | 0 => t
  | k + 1 => rnS (stS t od g m k) od g m.toNat
noncomputable def taS (t : Sto) (od : Int → Int) (g m : Int) : Nat → Int
  | 0 => 0
  | k + 1 => taS t od g m k + rnN (stS t od g m k) od g m.toNat
def goK (t : Sto) (od : Int → Int) (g m : Int) (k : Nat) : Prop := ∀ r : Nat, r < k → rnN (stS t od g m r) od g m.toNat ≠ 0 ∧ ∀ b : Nat, b ≤ r → ¬ smP (stS t od g m b) (stS t od g m (r + 1)) m
/-- what rest() comes to: rounds, circle, taken -/
def RestR (t : Sto) (od : Int → Int) (g m rd ci tk : Int) : Prop :=
  (∃ k : Nat, k < 40 ∧ goK t od g m k ∧ rnN (stS t od g m k) od g m.toNat = 0 ∧ rd = k ∧ ci = 0 ∧ tk = taS t od g m (k + 1)) ∨
  (∃ k b : Nat, k < 40 ∧ goK t od g m k ∧ rnN (stS t od g m k) od g m.toNat ≠ 0 ∧ b ≤ k ∧ smP (stS t od g m b) (stS t od g m (k + 1)) m ∧ (∀ b' : Nat, b < b' → b' ≤ k → ¬ smP (stS t od g m b') (stS t od g m (k + 1)) m) ∧ rd = -1 ∧ ci = k + 1 - b ∧ tk = taS t od g m (k + 1)) ∨
  (goK t od g m 40 ∧ rd = -1 ∧ ci = 0 ∧ tk = taS t od g m 40)
theorem RestR.uniq {t : Sto} {od : Int → Int} {g m rd ci tk rd' ci' tk' : Int} (h : RestR t od g m rd ci tk) (h' : RestR t od g m rd' ci' tk') : rd = rd' ∧ ci = ci' ∧ tk = tk' := by
  have st : ∀ k k' : Nat, goK t od g m k' → k < k' → rnN (stS t od g m k) od g m.toNat ≠ 0 ∧ ∀ b : Nat, b ≤ k → ¬ smP (stS t od g m b) (stS t od g m (k + 1)) m := fun k k' hk q => hk k q
  rcases h with ⟨k, k1, k2, k3, k4, k5, k6⟩ | ⟨k, b, k1, k2, k3, k4, k5, k6, k7, k8, k9⟩ | ⟨k2, k7, k8, k9⟩
  · rcases h' with ⟨j, j1, j2, j3, j4, j5, j6⟩ | ⟨j, b', j1, j2, j3, j4, j5, j6, j7, j8, j9⟩ | ⟨j2, j7, j8, j9⟩
    · have e : k = j := by
        rcases Nat.lt_trichotomy k j with q | q | q
        · exact absurd k3 (st k j j2 q).1
        · exact q
        · exact absurd j3 (st j k k2 q).1
      subst e
      omega
    · rcases Nat.lt_trichotomy k j with q | q | q
      · exact absurd k3 (st k j j2 q).1
      · subst q; exact absurd k3 j3
      · exact absurd j5 ((st j k k2 q).2 b' j4)
    · exact absurd k3 (st k 40 j2 k1).1
  · rcases h' with ⟨j, j1, j2, j3, j4, j5, j6⟩ | ⟨j, b', j1, j2, j3, j4, j5, j6, j7, j8, j9⟩ | ⟨j2, j7, j8, j9⟩
    · rcases Nat.lt_trichotomy k j with q | q | q
      · exact absurd k5 ((st k j j2 q).2 b k4)
      · subst q; exact absurd j3 k3
      · exact absurd j3 (st j k k2 q).1
    · have e : k = j := by
        rcases Nat.lt_trichotomy k j with q | q | q
        · exact absurd k5 ((st k j j2 q).2 b k4)
        · exact q
        · exact absurd j5 ((st j k k2 q).2 b' j4)
      subst e
      have eb : b = b' := by
        rcases Nat.lt_trichotomy b b' with q | q | q
        · exact absurd j5 (k6 b' q j4)
        · exact q
        · exact absurd k5 (j6 b q k4)
      subst eb
      omega
    · exact absurd k5 ((st k 40 j2 k1).2 b k4)
  · rcases h' with ⟨j, j1, j2, j3, j4, j5, j6⟩ | ⟨j, b', j1, j2, j3, j4, j5, j6, j7, j8, j9⟩ | ⟨j2, j7, j8, j9⟩
    · exact absurd j3 (st j 40 k2 j1).1
    · exact absurd j5 ((st j 40 k2 j1).2 b' j4)
    · omega
set_option maxHeartbeats 4000000 in
theorem t_X10_roundsSinceSame {k n : Int} {s : Sto} (hk : 0 ≤ k ∧ k < 40) (hn : 0 ≤ n ∧ n ≤ 20) (h8 : ∀ b q : Int, 0 ≤ b → b ≤ k → 0 ≤ q → q < n → rg (s 58 (b * 20 + q))) (h7 : ∀ q : Int, 0 ≤ q → q < n → rg (s 57 q)) : ClI LY 0 MX10_roundsSinceSame [.inr 56, .inl k, .inl n] s (fun r s' => s' = s ∧ ((r = 0 ∧ ∀ b : Int, 0 ≤ b → b ≤ k → ¬ ∀ q : Int, 0 ≤ q → q < n → s 58 (b * 20 + q) = s 57 q) ∨ ∃ b : Int, 0 ≤ b ∧ b ≤ k ∧ (∀ q : Int, 0 ≤ q → q < n → s 58 (b * 20 + q) = s 57 q) ∧ (∀ b' : Int, b < b' → b' ≤ k → ¬ ∀ q : Int, 0 ≤ q → q < n → s 58 (b' * 20 + q) = s 57 q) ∧ r = k + 1 - b)) := by
  refine ClI.intro (by decide) rfl (Nat.le_of_ble_eq_true rfl) (fun X C r => ?_)
  refine kb_X10_roundsSinceSame_0 C r ?_
  have key : ∀ j : Int, -1 ≤ j → (j ≤ k → (∀ b' : Int, j < b' → b' ≤ k → ¬ ∀ q : Int, 0 ≤ q → q < n → s 58 (b' * 20 + q) = s 57 q) → G LY X 2 [rv 56, iv k, iv n, iv j, none, none] [] s) := by
    refine risI (P := fun j => j ≤ k → (∀ b' : Int, j < b' → b' ≤ k → ¬ ∀ q : Int, 0 ≤ q → q < n → s 58 (b' * 20 + q) = s 57 q) → G LY X 2 [rv 56, iv k, iv n, iv j, none, none] [] s) ?_ ?_
    · intro _ H
      exact kb_X10_roundsSinceSame_2 C r ⟨⟨by omega, by omega⟩, fun _ => ⟨rfl, Or.inl ⟨rfl, fun b b0 b1 => H b (by omega) b1⟩⟩, fun z => absurd z (by omega)⟩
    · intro j0 jj ih j1 H
      have hj : 0 ≤ j0 + 1 := by omega
      generalize hJ : j0 + 1 = j at *
      have ih' : (¬ ∀ q : Int, 0 ≤ q → q < n → s 58 (j * 20 + q) = s 57 q) → G LY X 2 [rv 56, iv k, iv n, iv (j + (-1)), none, none] [] s := fun z => by
        rw [show j + (-1) = j0 by omega]
        refine ih (by omega) (fun b' b1 b2 => ?_)
        by_cases e : b' = j
        · rw [e]; exact z
        · exact H b' (by omega) b2
      refine kb_X10_roundsSinceSame_2 C r ⟨⟨by omega, by omega⟩, fun z => absurd z (by omega), fun _ => ?_⟩
      refine downI (P := fun q => (∀ q' : Int, 0 ≤ q' → q' < q → s 58 (j * 20 + q') = s 57 q') → G LY X 12 [rv 56, iv k, iv n, iv j, iv 1, iv q] [] s) (a := 0) (b := n) hn.1 ?_ ?_ (fun q' q0 q1 => absurd q1 (by omega))
      · intro A
        exact kb_X10_roundsSinceSame_12 C r ⟨⟨⟨by omega, by omega⟩, ⟨by omega, by omega⟩⟩, fun _ => ⟨by decide, fun z => absurd z (by decide), fun _ => ⟨rfl, Or.inr ⟨j, hj, j1, A, H, rfl⟩⟩⟩, fun z => absurd z (by omega)⟩
      · intro q q0 q1 ih2 A
        refine kb_X10_roundsSinceSame_12 C r ⟨⟨⟨by omega, by omega⟩, ⟨by omega, by omega⟩⟩, fun z => absurd z (by omega), fun _ => ⟨by decide, fun z => absurd z (by decide), fun _ => ⟨⟨by omega, by omega⟩, ⟨by omega, by omega⟩, ⟨h8 j q hj j1 q0 q1, h7 q q0 q1⟩, fun z => ?_, fun z => ih2 (fun q' z0 z1 => ?_)⟩⟩⟩
        · have no : ¬ ∀ q : Int, 0 ≤ q → q < n → s 58 (j * 20 + q) = s 57 q := fun A' => z (A' q q0 q1)
          exact kb_X10_roundsSinceSame_12 C r ⟨⟨⟨by omega, by omega⟩, ⟨by omega, by omega⟩⟩, fun _ => ⟨by decide, fun _ => ih' no, fun z => absurd rfl z⟩, fun _ => ⟨by decide, fun _ => ⟨by decide, fun _ => ih' no, fun z => absurd rfl z⟩, fun z => absurd rfl z⟩⟩
        · by_cases e : q' = q
          · rw [e]; exact z
          · exact A q' z0 (by omega)
  exact key k (by omega) (Int.le_refl _) (fun b' b1 b2 => absurd b1 (by omega))
