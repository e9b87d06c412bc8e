/-! TEXT: what both readers do, over the row T of TOKENS -/
/-- a fault (its kind, the TOKEN's number), or how far it came and what was written -/
abbrev Rs : Type := (Int × Nat) ⊕ (Nat × List Int)
def Rs.go (r : Rs) (k : Nat → List Int → Rs) : Rs := match r with
  | .inl e => .inl e
  | .inr (i, l) => k i l
theorem Rs.go_l {e : Int × Nat} {k : Nat → List Int → Rs} {r : Rs} (h : r = .inl e) : r.go k = .inl e := by rw [h]; rfl
theorem Rs.go_r {i : Nat} {l : List Int} {k : Nat → List Int → Rs} {r : Rs} (h : r = .inr (i, l)) : r.go k = k i l := by rw [h]; rfl
theorem Rs.ex (r : Rs) : (∃ e : Int × Nat, r = .inl e) ∨ ∃ (i : Nat) (l : List Int), r = .inr (i, l) := by
  cases r with
  | inl e => exact Or.inl ⟨e, rfl⟩
  | inr p => exact Or.inr ⟨p.1, p.2, rfl⟩
theorem Rs.go_inv {r : Rs} {k : Nat → List Int → Rs} {j : Nat} {m : List Int} (h : r.go k = .inr (j, m)) : ∃ (i : Nat) (l : List Int), r = .inr (i, l) ∧ k i l = .inr (j, m) := by
  rcases r.ex with ⟨e, he⟩ | ⟨i, l, he⟩
  · rw [Rs.go_l he] at h; cases h
  · rw [Rs.go_r he] at h; exact ⟨i, l, he, h⟩
/-- what waited is written -/
def adw (l : List Int) (w : Int) : List Int := if w = -1 then l else l ++ [w]
theorem adw_len (l : List Int) (w : Int) : (adw l w).length ≤ l.length + 1 ∧ (w = -1 → (adw l w).length = l.length) := by
  unfold adw
  by_cases h : w = -1
  · rw [if_pos h]; exact ⟨by omega, fun _ => rfl⟩
  · rw [if_neg h]; exact ⟨by simp, fun z => absurd z h⟩
def unitG (T : Nat → Int) (b : Int) (i : Nat) (l : List Int) : Rs := if 10000 ≤ T i ∧ (¬ (10006 ≤ T i ∧ T i ≤ 10015) ∨ b = 10104) then .inl (1, i) else if T i = 0 ∧ b = 10104 then .inl (2, i) else .inr (i + 1, l ++ [T i])
def sumL (T : Nat → Int) : Nat → Int → Nat → List Int → Rs
  | 0, _, _, _ => .inl (0, 0)
  | f + 1, w, i, l => if 10101 ≤ T i ∧ T i ≤ 10104 then
      (if T i ≤ 10102 then (unitG T (T i) (i + 1) (adw l w)).go (fun i' l' => sumL T f (T i) i' l')
       else (unitG T (T i) (i + 1) l).go (fun i' l' => sumL T f w i' (l' ++ [T i])))
      else .inr (i, adw l w)
def sumG (T : Nat → Int) (f i : Nat) (l : List Int) : Rs := (unitG T (-1) i l).go (fun i' l' => sumL T f (-1) i' l')
/-- two sums compared -/
def cmpG (T : Nat → Int) (f i : Nat) (l : List Int) : Rs := (sumG T f i l).go (fun j l1 => if 10107 ≤ T j ∧ T j ≤ 10109 then (sumG T f (j + 1) l1).go (fun k l2 => .inr (k, l2 ++ [T j])) else .inl (1, j))
/-- claims (true), and what is joined to one by and, or (false) -/
def cndG (T : Nat → Int) : Nat → Bool → Int → Nat → Nat → List Int → Rs
  | 0, _, _, _, _, _ => .inl (0, 0)
  | f + 1, true, _, o, i, l =>
      if T i = 10005 then (if 8 ≤ o then .inl (3, i) else (cndG T f true (-1) (o + 1) (i + 1) l).go (fun j m => .inr (j, m ++ [10005])))
      else if T i = 10105 then (if 8 ≤ o then .inl (3, i) else (cndG T f true (-1) (o + 1) (i + 1) l).go (fun j m => (cndG T f false (-1) (o + 1) j m).go (fun j' m' => if T j' = 10106 then .inr (j' + 1, m') else .inl (1, j'))))
      else cmpG T 401 i l
  | f + 1, false, w, o, i, l =>
      if T i = 10003 then (cndG T f true (-1) o (i + 1) (adw l w)).go (fun j m => cndG T f false 10003 o j m)
      else if T i = 10004 then (cndG T f true (-1) o (i + 1) l).go (fun j m => cndG T f false w o j (m ++ [10004]))
      else .inr (i, adw l w)
theorem unitG_ok {T : Nat → Int} {b : Int} {i j N : Nat} {l m : List Int} (hN : T N = 10200) (hi : i ≤ N) (h : unitG T b i l = .inr (j, m)) : j = i + 1 ∧ i < N ∧ m = l ++ [T i] ∧ (T i < 10000 ∨ (10006 ≤ T i ∧ T i ≤ 10015 ∧ b ≠ 10104)) ∧ ¬ (T i = 0 ∧ b = 10104) := by
  unfold unitG at h
  by_cases c : 10000 ≤ T i ∧ (¬ (10006 ≤ T i ∧ T i ≤ 10015) ∨ b = 10104)
  · rw [if_pos c] at h; cases h
  · rw [if_neg c] at h
    by_cases c2 : T i = 0 ∧ b = 10104
    · rw [if_pos c2] at h; cases h
    · rw [if_neg c2] at h
      have h' : (i + 1, l ++ [T i]) = (j, m) := by injection h
      have h1 : i + 1 = j := by injection h'
      have h2 : l ++ [T i] = m := by injection h'
      refine ⟨h1.symm, ?_, h2.symm, by omega, c2⟩
      by_cases e : i = N
      · rw [e, hN] at c; omega
      · omega
theorem sumL_ok {T : Nat → Int} {N : Nat} (hN : T N = 10200) : ∀ (f : Nat) (w : Int) (i j : Nat) (l m : List Int), i ≤ N → sumL T f w i l = .inr (j, m) → i ≤ j ∧ j ≤ N ∧ m.length + i ≤ l.length + j + (if w = -1 then 0 else 1)
  | 0, _, _, _, _, _, _, h => by cases h
  | f + 1, w, i, j, l, m, hi, h => by
    unfold sumL at h
    by_cases c : 10101 ≤ T i ∧ T i ≤ 10104
    · rw [if_pos c] at h
      have iN : i ≠ N := fun e => by rw [e, hN] at c; omega
      by_cases c2 : T i ≤ 10102
      · rw [if_pos c2] at h
        obtain ⟨i', l', u1, u2⟩ := Rs.go_inv h
        obtain ⟨u3, u4, u5, _⟩ := unitG_ok hN (by omega) u1
        have ih := sumL_ok hN f (T i) i' j l' m (by omega) u2
        rw [if_neg (by omega)] at ih
        have al := adw_len l w
        rw [u5, List.length_append, List.length_singleton] at ih
        by_cases e : w = -1
        · rw [if_pos e]; have := al.2 e; omega
        · rw [if_neg e]; omega
      · rw [if_neg c2] at h
        obtain ⟨i', l', u1, u2⟩ := Rs.go_inv h
        obtain ⟨u3, u4, u5, _⟩ := unitG_ok hN (by omega) u1
        have ih := sumL_ok hN f w i' j (l' ++ [T i]) m (by omega) u2
        rw [u5, List.length_append, List.length_append, List.length_singleton, List.length_singleton] at ih
        omega
    · rw [if_neg c] at h
      have h' : (i, adw l w) = (j, m) := by injection h
      have h1 : i = j := by injection h'
      have h2 : adw l w = m := by injection h'
      have al := adw_len l w
      rw [h2] at al
      by_cases e : w = -1
      · rw [if_pos e]; have := al.2 e; omega
      · rw [if_neg e]; omega
theorem sumG_ok {T : Nat → Int} {N f i j : Nat} {l m : List Int} (hN : T N = 10200) (hi : i ≤ N) (h : sumG T f i l = .inr (j, m)) : i < j ∧ j ≤ N ∧ m.length + i ≤ l.length + j := by
  unfold sumG at h
  obtain ⟨i', l', u1, u2⟩ := Rs.go_inv h
  obtain ⟨u3, u4, u5, _⟩ := unitG_ok hN hi u1
  have ih := sumL_ok hN f (-1) i' j l' m (by omega) u2
  rw [if_pos rfl, u5, List.length_append, List.length_singleton] at ih
  omega
theorem cmpG_ok {T : Nat → Int} {N f i j : Nat} {l m : List Int} (hN : T N = 10200) (hi : i ≤ N) (h : cmpG T f i l = .inr (j, m)) : i < j ∧ j ≤ N ∧ m.length + i ≤ l.length + j := by
  unfold cmpG at h
  obtain ⟨i', l', u1, u2⟩ := Rs.go_inv h
  have a := sumG_ok hN hi u1
  by_cases c : 10107 ≤ T i' ∧ T i' ≤ 10109
  · rw [if_pos c] at u2
    have iN : i' ≠ N := fun e => by rw [e, hN] at c; omega
    obtain ⟨k, l2, u3, u4⟩ := Rs.go_inv u2
    have b := sumG_ok hN (by omega) u3
    have h' : (k, l2 ++ [T i']) = (j, m) := by injection u4
    have h1 : k = j := by injection h'
    have h2 : l2 ++ [T i'] = m := by injection h'
    rw [← h2, List.length_append, List.length_singleton]
    omega
  · rw [if_neg c] at u2; cases u2
theorem cndG_ok {T : Nat → Int} {N : Nat} (hN : T N = 10200) : ∀ (f : Nat) (q : Bool) (w : Int) (o i j : Nat) (l m : List Int), i ≤ N → cndG T f q w o i l = .inr (j, m) → (q = true → i < j) ∧ i ≤ j ∧ j ≤ N ∧ m.length + i ≤ l.length + j + (if q = true ∨ w = -1 then 0 else 1)
  | 0, q, _, _, _, _, _, _, _, h => by cases q <;> cases h
  | f + 1, true, w, o, i, j, l, m, hi, h => by
    rw [if_pos (Or.inl rfl)]
    unfold cndG at h
    by_cases c : T i = 10005
    · rw [if_pos c] at h
      have iN : i ≠ N := fun e => by rw [e, hN] at c; omega
      by_cases c2 : 8 ≤ o
      · rw [if_pos c2] at h; cases h
      · rw [if_neg c2] at h
        obtain ⟨i', l', u1, u2⟩ := Rs.go_inv h
        have ih := cndG_ok hN f true (-1) (o + 1) (i + 1) i' l l' (by omega) u1
        rw [if_pos (Or.inl rfl)] at ih
        have h' : (i', l' ++ [10005]) = (j, m) := by injection u2
        have h1 : i' = j := by injection h'
        have h2 : l' ++ [10005] = m := by injection h'
        rw [← h2, List.length_append, List.length_singleton]
        omega
    · rw [if_neg c] at h
      by_cases c3 : T i = 10105
      · rw [if_pos c3] at h
        have iN : i ≠ N := fun e => by rw [e, hN] at c3; omega
        by_cases c2 : 8 ≤ o
        · rw [if_pos c2] at h; cases h
        · rw [if_neg c2] at h
          obtain ⟨i', l', u1, u2⟩ := Rs.go_inv h
          have ih := cndG_ok hN f true (-1) (o + 1) (i + 1) i' l l' (by omega) u1
          rw [if_pos (Or.inl rfl)] at ih
          obtain ⟨i2, l2, u3, u4⟩ := Rs.go_inv u2
          have ih2 := cndG_ok hN f false (-1) (o + 1) i' i2 l' l2 (by omega) u3
          rw [if_pos (Or.inr rfl)] at ih2
          by_cases c4 : T i2 = 10106
          · rw [if_pos c4] at u4
            have iN2 : i2 ≠ N := fun e => by rw [e, hN] at c4; omega
            have h' : (i2 + 1, l2) = (j, m) := by injection u4
            have h1 : i2 + 1 = j := by injection h'
            have h2 : l2 = m := by injection h'
            rw [← h2]
            omega
          · rw [if_neg c4] at u4; cases u4
      · rw [if_neg c3] at h
        have := cmpG_ok hN hi h
        omega
  | f + 1, false, w, o, i, j, l, m, hi, h => by
    unfold cndG at h
    have al := adw_len l w
    by_cases c : T i = 10003
    · rw [if_pos c] at h
      have iN : i ≠ N := fun e => by rw [e, hN] at c; omega
      obtain ⟨i', l', u1, u2⟩ := Rs.go_inv h
      have ih := cndG_ok hN f true (-1) o (i + 1) i' (adw l w) l' (by omega) u1
      have ih2 := cndG_ok hN f false 10003 o i' j l' m (by omega) u2
      rw [if_pos (Or.inl rfl)] at ih
      rw [if_neg (by decide)] at ih2
      by_cases e : w = -1
      · rw [if_pos (Or.inr e)]; have := al.2 e; exact ⟨fun z => absurd z (by decide), by omega⟩
      · rw [if_neg (by simp [e])]; exact ⟨fun z => absurd z (by decide), by omega⟩
    · rw [if_neg c] at h
      by_cases c2 : T i = 10004
      · rw [if_pos c2] at h
        have iN : i ≠ N := fun e => by rw [e, hN] at c2; omega
        obtain ⟨i', l', u1, u2⟩ := Rs.go_inv h
        have ih := cndG_ok hN f true (-1) o (i + 1) i' l l' (by omega) u1
        have ih2 := cndG_ok hN f false w o i' j (l' ++ [10004]) m (by omega) u2
        rw [if_pos (Or.inl rfl)] at ih
        rw [List.length_append, List.length_singleton] at ih2
        exact ⟨fun z => absurd z (by decide), by omega⟩
      · rw [if_neg c2] at h
        have h' : (i, adw l w) = (j, m) := by injection h
        have h1 : i = j := by injection h'
        have h2 : adw l w = m := by injection h'
        rw [h2] at al
        by_cases e : w = -1
        · rw [if_pos (Or.inr e)]; have := al.2 e; exact ⟨fun z => absurd z (by decide), by omega⟩
        · rw [if_neg (by simp [e])]; exact ⟨fun z => absurd z (by decide), by omega⟩
