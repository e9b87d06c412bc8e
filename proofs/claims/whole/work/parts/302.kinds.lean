/-! TEXT: what is written can be worked off -/
def kstep (t : Int) (st : List Bool) : Option (List Bool) :=
  if t < 10000 ∨ (10006 ≤ t ∧ t ≤ 10015) then some (false :: st)
  else if t = 10005 then (match st with
    | true :: r => some (true :: r)
    | _ => none)
  else if 10101 ≤ t ∧ t ≤ 10104 then (match st with
    | false :: false :: r => some (false :: r)
    | _ => none)
  else if 10107 ≤ t ∧ t ≤ 10109 then (match st with
    | false :: false :: r => some (true :: r)
    | _ => none)
  else if t = 10003 ∨ t = 10004 then (match st with
    | true :: true :: r => some (true :: r)
    | _ => none)
  else none
def krun : List Int → List Bool → Option (List Bool)
  | [], st => some st
  | t :: c, st => if st.length ≤ 30 then (kstep t st).bind (krun c) else none
theorem krun_app : ∀ (c d : List Int) (st : List Bool), krun (c ++ d) st = (krun c st).bind (krun d)
  | [], d, st => rfl
  | t :: c, d, st => by
    show (if st.length ≤ 30 then (kstep t st).bind (krun (c ++ d)) else none) = (if st.length ≤ 30 then (kstep t st).bind (krun c) else none).bind (krun d)
    by_cases h : st.length ≤ 30
    · rw [if_pos h, if_pos h]
      cases e : kstep t st with
      | none => rfl
      | some x => exact krun_app c d x
    · rw [if_neg h, if_neg h]; rfl
theorem krun_seq {c d : List Int} {a b e : List Bool} (h1 : krun c a = some b) (h2 : krun d b = some e) : krun (c ++ d) a = some e := by rw [krun_app, h1]; exact h2
theorem k_unit {t : Int} {st : List Bool} (h : t < 10000 ∨ (10006 ≤ t ∧ t ≤ 10015)) (hs : st.length ≤ 30) : krun [t] st = some (false :: st) := by
  show (if st.length ≤ 30 then (kstep t st).bind (krun []) else none) = _
  rw [if_pos hs]
  unfold kstep
  rw [if_pos h]
  rfl
theorem k_calc {t : Int} {st : List Bool} (h : 10101 ≤ t ∧ t ≤ 10104) (hs : st.length ≤ 28) : krun [t] (false :: false :: st) = some (false :: st) := by
  show (if (false :: false :: st).length ≤ 30 then (kstep t (false :: false :: st)).bind (krun []) else none) = _
  rw [if_pos (by simp only [List.length_cons]; omega)]
  unfold kstep
  rw [if_neg (by omega), if_neg (by omega), if_pos h]
  rfl
theorem k_cmp {t : Int} {st : List Bool} (h : 10107 ≤ t ∧ t ≤ 10109) (hs : st.length ≤ 28) : krun [t] (false :: false :: st) = some (true :: st) := by
  show (if (false :: false :: st).length ≤ 30 then (kstep t (false :: false :: st)).bind (krun []) else none) = _
  rw [if_pos (by simp only [List.length_cons]; omega)]
  unfold kstep
  rw [if_neg (by omega), if_neg (by omega), if_neg (by omega), if_pos h]
  rfl
theorem k_not {st : List Bool} (hs : st.length ≤ 28) : krun [10005] (true :: st) = some (true :: st) := by
  show (if (true :: st).length ≤ 30 then (kstep 10005 (true :: st)).bind (krun []) else none) = _
  rw [if_pos (by simp only [List.length_cons]; omega)]
  rfl
theorem k_and {t : Int} {st : List Bool} (h : t = 10003 ∨ t = 10004) (hs : st.length ≤ 28) : krun [t] (true :: true :: st) = some (true :: st) := by
  show (if (true :: true :: st).length ≤ 30 then (kstep t (true :: true :: st)).bind (krun []) else none) = _
  rw [if_pos (by simp only [List.length_cons]; omega)]
  rcases h with h | h <;> rw [h] <;> rfl
/-- a part is by a NUMBER that isn't 0 -/
def pk (c : List Int) : Prop := ∀ k : Nat, k < c.length → c.getD k 0 = 10104 → 0 < k ∧ c.getD (k - 1) 0 < 10000 ∧ c.getD (k - 1) 0 ≠ 0
theorem getD_l {c d : List Int} {k : Nat} (h : k < c.length) : (c ++ d).getD k 0 = c.getD k 0 := by
  rw [List.getD_eq_getElem?_getD, List.getD_eq_getElem?_getD, List.getElem?_append_left h]
theorem getD_r {c d : List Int} {k : Nat} (h : c.length ≤ k) : (c ++ d).getD k 0 = d.getD (k - c.length) 0 := by
  rw [List.getD_eq_getElem?_getD, List.getD_eq_getElem?_getD, List.getElem?_append_right h]
theorem pk.app {c d : List Int} (h1 : pk c) (h2 : pk d) : pk (c ++ d) := by
  intro k hk e
  rw [List.length_append] at hk
  by_cases q : k < c.length
  · rw [getD_l q] at e
    have g := h1 k q e
    rw [getD_l (by omega)]
    exact g
  · rw [getD_r (by omega)] at e
    have g := h2 (k - c.length) (by omega) e
    rw [getD_r (by omega), show k - 1 - c.length = k - c.length - 1 by omega]
    exact ⟨by omega, g.2⟩
theorem pk.nil : pk [] := fun k hk => absurd hk (Nat.not_lt_zero _)
theorem pk.one {t : Int} (h : t ≠ 10104) : pk [t] := fun k hk e => by
  have : k = 0 := by simp at hk; omega
  rw [this] at e
  exact absurd e h
theorem pk.two {u t : Int} (h : t = 10104 → u < 10000 ∧ u ≠ 0) (hu : u ≠ 10104) : pk ([u] ++ [t]) := fun k hk e => by
  have hk' : k < 2 := by simpa using hk
  have : k = 0 ∨ k = 1 := by omega
  rcases this with rfl | rfl
  · exact absurd e hu
  · have g := h e
    exact ⟨by omega, g⟩
theorem sumL_k {T : Nat → Int} {N : Nat} (hN : T N = 10200) : ∀ (f : Nat) (w : Int) (i j : Nat) (l m : List Int), i ≤ N → (w = -1 ∨ w = 10101 ∨ w = 10102) → sumL T f w i l = .inr (j, m) → ∃ c : List Int, m = l ++ c ∧ pk c ∧ ∀ st : List Bool, st.length ≤ 25 → (w = -1 → krun c (false :: st) = some (false :: st)) ∧ (w ≠ -1 → krun c (false :: false :: st) = some (false :: st))
  | 0, _, _, _, _, _, _, _, h => by cases h
  | f + 1, w, i, j, l, m, hi, hw, h => by
    have ok := (sumL_ok hN (f + 1) w i j l m hi h)
    unfold sumL at h
    by_cases c : 10101 ≤ T i ∧ T i ≤ 10104
    · rw [if_pos c] at h
      have iN : i ≠ N := fun e => by rw [e, hN] at c; omega
      by_cases c2 : T i ≤ 10102
      · rw [if_pos c2] at h
        obtain ⟨i', l', u1, u2⟩ := Rs.go_inv h
        obtain ⟨u3, u4, u5, u6, _⟩ := unitG_ok hN (by omega) u1
        obtain ⟨d, d1, d2, d3⟩ := sumL_k hN f (T i) i' j l' m (by omega) (by omega) u2
        have hu : T (i + 1) < 10000 ∨ (10006 ≤ T (i + 1) ∧ T (i + 1) ≤ 10015) := by omega
        by_cases e : w = -1
        · refine ⟨[T (i + 1)] ++ d, ?_, (pk.one (by omega)).app d2, fun st hs => ⟨fun _ => ?_, fun z => absurd e z⟩⟩
          · rw [d1, u5]
            unfold adw
            rw [if_pos e, List.append_assoc]
          · exact krun_seq (k_unit hu (by simp only [List.length_cons]; omega)) ((d3 st hs).2 (by omega))
        · refine ⟨[w] ++ ([T (i + 1)] ++ d), ?_, (pk.one (by omega)).app ((pk.one (by omega)).app d2), fun st hs => ⟨fun z => absurd z e, fun _ => ?_⟩⟩
          · rw [d1, u5]
            unfold adw
            rw [if_neg e, List.append_assoc, List.append_assoc]
          · exact krun_seq (k_calc (by omega) (by omega)) (krun_seq (k_unit hu (by simp only [List.length_cons]; omega)) ((d3 st hs).2 (by omega)))
      · rw [if_neg c2] at h
        obtain ⟨i', l', u1, u2⟩ := Rs.go_inv h
        obtain ⟨u3, u4, u5, u6, u7⟩ := unitG_ok hN (by omega) u1
        obtain ⟨d, d1, d2, d3⟩ := sumL_k hN f w i' j (l' ++ [T i]) m (by omega) hw u2
        have hu : T (i + 1) < 10000 ∨ (10006 ≤ T (i + 1) ∧ T (i + 1) ≤ 10015) := by omega
        refine ⟨[T (i + 1)] ++ [T i] ++ d, ?_, (pk.two (by omega) (by omega)).app d2, fun st hs => ⟨fun z => ?_, fun z => ?_⟩⟩
        · rw [d1, u5]; simp
        · exact krun_seq (krun_seq (k_unit hu (by simp only [List.length_cons]; omega)) (k_calc (by omega) (by omega))) ((d3 st hs).1 z)
        · exact krun_seq (krun_seq (k_unit hu (by simp only [List.length_cons]; omega)) (k_calc (by omega) (by simp only [List.length_cons]; omega))) ((d3 st hs).2 z)
    · rw [if_neg c] at h
      have h' : (i, adw l w) = (j, m) := by injection h
      have h2 : adw l w = m := by injection h'
      unfold adw at h2
      by_cases e : w = -1
      · rw [if_pos e] at h2
        exact ⟨[], by rw [← h2]; simp, pk.nil, fun st hs => ⟨fun _ => rfl, fun z => absurd e z⟩⟩
      · rw [if_neg e] at h2
        exact ⟨[w], h2.symm, pk.one (by omega), fun st hs => ⟨fun z => absurd z e, fun _ => k_calc (by omega) (by omega)⟩⟩
theorem sumG_k {T : Nat → Int} {N f i j : Nat} {l m : List Int} (hN : T N = 10200) (hi : i ≤ N) (h : sumG T f i l = .inr (j, m)) : ∃ c : List Int, m = l ++ c ∧ pk c ∧ ∀ st : List Bool, st.length ≤ 25 → krun c st = some (false :: st) := by
  unfold sumG at h
  obtain ⟨i', l', u1, u2⟩ := Rs.go_inv h
  obtain ⟨u3, u4, u5, u6, _⟩ := unitG_ok hN hi u1
  obtain ⟨d, d1, d2, d3⟩ := sumL_k hN f (-1) i' j l' m (by omega) (Or.inl rfl) u2
  refine ⟨[T i] ++ d, by rw [d1, u5]; simp, (pk.one (by omega)).app d2, fun st hs => krun_seq (k_unit (by omega) (by omega)) ((d3 st hs).1 rfl)⟩
theorem cmpG_k {T : Nat → Int} {N f i j : Nat} {l m : List Int} (hN : T N = 10200) (hi : i ≤ N) (h : cmpG T f i l = .inr (j, m)) : ∃ c : List Int, m = l ++ c ∧ pk c ∧ c ≠ [] ∧ ∀ st : List Bool, st.length ≤ 24 → krun c st = some (true :: st) := by
  unfold cmpG at h
  obtain ⟨i', l', u1, u2⟩ := Rs.go_inv h
  have ok := sumG_ok hN hi u1
  obtain ⟨a, a1, a2, a3⟩ := sumG_k hN hi u1
  by_cases c : 10107 ≤ T i' ∧ T i' ≤ 10109
  · rw [if_pos c] at u2
    have iN : i' ≠ N := fun e => by rw [e, hN] at c; omega
    obtain ⟨k, l2, u3, u4⟩ := Rs.go_inv u2
    obtain ⟨b, b1, b2, b3⟩ := sumG_k hN (by omega) u3
    have h' : (k, l2 ++ [T i']) = (j, m) := by injection u4
    have h2 : l2 ++ [T i'] = m := by injection h'
    refine ⟨a ++ (b ++ [T i']), by rw [← h2, b1, a1]; simp, a2.app (b2.app (pk.one (by omega))), by simp, fun st hs => krun_seq (a3 st (by omega)) (krun_seq (b3 _ (by simp only [List.length_cons]; omega)) (k_cmp c (by omega)))⟩
  · rw [if_neg c] at u2; cases u2
theorem cndG_k {T : Nat → Int} {N : Nat} (hN : T N = 10200) : ∀ (f : Nat) (q : Bool) (w : Int) (o i j : Nat) (l m : List Int), i ≤ N → o ≤ 8 → (w = -1 ∨ w = 10003) → cndG T f q w o i l = .inr (j, m) → ∃ c : List Int, m = l ++ c ∧ pk c ∧ (q = true → c ≠ []) ∧ ∀ st : List Bool, (q = true → st.length ≤ 2 * o + 2 → krun c st = some (true :: st)) ∧ (q = false → st.length ≤ 2 * o → (w = -1 → krun c (true :: st) = some (true :: st)) ∧ (w ≠ -1 → krun c (true :: true :: st) = some (true :: st)))
  | 0, q, _, _, _, _, _, _, _, _, _, h => by cases q <;> cases h
  | f + 1, true, w, o, i, j, l, m, hi, ho, hw, h => by
    unfold cndG at h
    by_cases c : T i = 10005
    · rw [if_pos c] at h
      have iN : i ≠ N := fun e => by rw [e, hN] at c; omega
      by_cases c2 : 8 ≤ o
      · rw [if_pos c2] at h; cases h
      · rw [if_neg c2] at h
        obtain ⟨i', l', u1, u2⟩ := Rs.go_inv h
        obtain ⟨d, d1, d2, d3, d4⟩ := cndG_k hN f true (-1) (o + 1) (i + 1) i' l l' (by omega) (by omega) (Or.inl rfl) u1
        have h' : (i', l' ++ [10005]) = (j, m) := by injection u2
        have h2 : l' ++ [10005] = m := by injection h'
        refine ⟨d ++ [10005], by rw [← h2, d1]; simp, d2.app (pk.one (by decide)), fun _ => by simp, fun st => ⟨fun _ hs => krun_seq ((d4 st).1 rfl (by omega)) (k_not (by omega)), fun z => absurd z (by decide)⟩⟩
    · rw [if_neg c] at h
      by_cases c3 : T i = 10105
      · rw [if_pos c3] at h
        have iN : i ≠ N := fun e => by rw [e, hN] at c3; omega
        by_cases c2 : 8 ≤ o
        · rw [if_pos c2] at h; cases h
        · rw [if_neg c2] at h
          obtain ⟨i', l', u1, u2⟩ := Rs.go_inv h
          have ok := cndG_ok hN f true (-1) (o + 1) (i + 1) i' l l' (by omega) u1
          obtain ⟨d, d1, d2, d3, d4⟩ := cndG_k hN f true (-1) (o + 1) (i + 1) i' l l' (by omega) (by omega) (Or.inl rfl) u1
          obtain ⟨i2, l2, u3, u4⟩ := Rs.go_inv u2
          obtain ⟨b, b1, b2, b3, b4⟩ := cndG_k hN f false (-1) (o + 1) i' i2 l' l2 (by omega) (by omega) (Or.inl rfl) u3
          by_cases c4 : T i2 = 10106
          · rw [if_pos c4] at u4
            have h' : (i2 + 1, l2) = (j, m) := by injection u4
            have h2 : l2 = m := by injection h'
            refine ⟨d ++ b, by rw [← h2, b1, d1]; simp, d2.app b2, fun _ z => d3 rfl (List.append_eq_nil_iff.mp z).1, fun st => ⟨fun _ hs => krun_seq ((d4 st).1 rfl (by omega)) (((b4 st).2 rfl (by omega)).1 rfl), fun z => absurd z (by decide)⟩⟩
          · rw [if_neg c4] at u4; cases u4
      · rw [if_neg c3] at h
        obtain ⟨d, d1, d2, d3, d4⟩ := cmpG_k hN hi h
        exact ⟨d, d1, d2, fun _ => d3, fun st => ⟨fun _ hs => d4 st (by omega), fun z => absurd z (by decide)⟩⟩
  | f + 1, false, w, o, i, j, l, m, hi, ho, hw, h => by
    unfold cndG at h
    by_cases c : T i = 10003
    · rw [if_pos c] at h
      have iN : i ≠ N := fun e => by rw [e, hN] at c; omega
      obtain ⟨i', l', u1, u2⟩ := Rs.go_inv h
      have ok := cndG_ok hN f true (-1) o (i + 1) i' (adw l w) l' (by omega) u1
      obtain ⟨d, d1, d2, d3, d4⟩ := cndG_k hN f true (-1) o (i + 1) i' (adw l w) l' (by omega) ho (Or.inl rfl) u1
      obtain ⟨b, b1, b2, b3, b4⟩ := cndG_k hN f false 10003 o i' j l' m (by omega) ho (Or.inr rfl) u2
      by_cases e : w = -1
      · refine ⟨d ++ b, ?_, d2.app b2, fun z => absurd z (by decide), fun st => ⟨fun z => absurd z (by decide), fun _ hs => ⟨fun _ => ?_, fun z => absurd e z⟩⟩⟩
        · rw [b1, d1]
          unfold adw
          rw [if_pos e]; simp
        · exact krun_seq ((d4 _).1 rfl (by simp only [List.length_cons]; omega)) (((b4 st).2 rfl hs).2 (by decide))
      · refine ⟨[w] ++ (d ++ b), ?_, (pk.one (by omega)).app (d2.app b2), fun z => absurd z (by decide), fun st => ⟨fun z => absurd z (by decide), fun _ hs => ⟨fun z => absurd z e, fun _ => ?_⟩⟩⟩
        · rw [b1, d1]
          unfold adw
          rw [if_neg e]; simp
        · exact krun_seq (k_and (by omega) (by omega)) (krun_seq ((d4 _).1 rfl (by simp only [List.length_cons]; omega)) (((b4 st).2 rfl hs).2 (by decide)))
    · rw [if_neg c] at h
      by_cases c2 : T i = 10004
      · rw [if_pos c2] at h
        have iN : i ≠ N := fun e => by rw [e, hN] at c2; omega
        obtain ⟨i', l', u1, u2⟩ := Rs.go_inv h
        have ok := cndG_ok hN f true (-1) o (i + 1) i' l l' (by omega) u1
        obtain ⟨d, d1, d2, d3, d4⟩ := cndG_k hN f true (-1) o (i + 1) i' l l' (by omega) ho (Or.inl rfl) u1
        obtain ⟨b, b1, b2, b3, b4⟩ := cndG_k hN f false w o i' j (l' ++ [10004]) m (by omega) ho hw u2
        refine ⟨d ++ ([10004] ++ b), by rw [b1, d1]; simp, d2.app ((pk.one (by decide)).app b2), fun z => absurd z (by decide), fun st => ⟨fun z => absurd z (by decide), fun _ hs => ⟨fun z => ?_, fun z => ?_⟩⟩⟩
        · exact krun_seq ((d4 _).1 rfl (by simp only [List.length_cons]; omega)) (krun_seq (k_and (Or.inr rfl) (by omega)) (((b4 st).2 rfl hs).1 z))
        · exact krun_seq ((d4 _).1 rfl (by simp only [List.length_cons]; omega)) (krun_seq (k_and (Or.inr rfl) (by simp only [List.length_cons]; omega)) (((b4 st).2 rfl hs).2 z))
      · rw [if_neg c2] at h
        have h' : (i, adw l w) = (j, m) := by injection h
        have h2 : adw l w = m := by injection h'
        unfold adw at h2
        by_cases e : w = -1
        · rw [if_pos e] at h2
          exact ⟨[], by rw [← h2]; simp, pk.nil, fun z => absurd z (by decide), fun st => ⟨fun z => absurd z (by decide), fun _ _ => ⟨fun _ => rfl, fun z => absurd e z⟩⟩⟩
        · rw [if_neg e] at h2
          exact ⟨[w], h2.symm, pk.one (by omega), fun z => absurd z (by decide), fun st => ⟨fun z => absurd z (by decide), fun _ hs => ⟨fun z => absurd z e, fun _ => k_and (by omega) (by omega)⟩⟩⟩
theorem condG_k {T : Nat → Int} {N f i j : Nat} {l m : List Int} (hN : T N = 10200) (hi : i ≤ N) (h : condG T f 0 i l = .inr (j, m)) : ∃ c : List Int, m = l ++ c ∧ pk c ∧ c ≠ [] ∧ krun c [] = some [true] := by
  unfold condG at h
  obtain ⟨i', l', u1, u2⟩ := Rs.go_inv h
  have ok := cndG_ok hN f true (-1) 0 i i' l l' hi u1
  obtain ⟨d, d1, d2, d3, d4⟩ := cndG_k hN f true (-1) 0 i i' l l' hi (by omega) (Or.inl rfl) u1
  obtain ⟨b, b1, b2, b3, b4⟩ := cndG_k hN f false (-1) 0 i' j l' m (by omega) (by omega) (Or.inl rfl) u2
  exact ⟨d ++ b, by rw [b1, d1]; simp, d2.app b2, fun z => d3 rfl (List.append_eq_nil_iff.mp z).1, krun_seq ((d4 []).1 rfl (by decide)) (((b4 []).2 rfl (by decide)).1 rfl)⟩
