/-! TEXT: a LINE's code in the reference's form -/
theorem kstep_stk {t o x : Int} {st st' : List Bool} (ht : TokR t o x) (h : kstep t st = some st') : stkR o st st' := by
  unfold kstep at h
  unfold TokR at ht
  by_cases c1 : t < 10000 ∨ (10006 ≤ t ∧ t ≤ 10015)
  · rw [if_pos c1] at h
    have e : false :: st = st' := by injection h
    have o01 : o = 0 ∨ o = 1 := by omega
    rw [← e]
    cases st with
    | nil => exact ⟨o01, rfl⟩
    | cons a r =>
      cases r with
      | nil => exact Or.inl ⟨o01, rfl⟩
      | cons b r => exact Or.inl ⟨o01, rfl⟩
  rw [if_neg c1] at h
  by_cases c2 : t = 10005
  · rw [if_pos c2] at h
    have o9 : o = 9 := by omega
    cases st with
    | nil => cases h
    | cons a r =>
      cases a with
      | false => cases h
      | true =>
        have e : true :: r = st' := by injection h
        rw [← e]
        cases r with
        | nil => exact Or.inr ⟨o9, rfl, rfl⟩
        | cons b r => exact Or.inr (Or.inl ⟨o9, rfl, rfl⟩)
  rw [if_neg c2] at h
  by_cases c3 : 10101 ≤ t ∧ t ≤ 10104
  · rw [if_pos c3] at h
    have o25 : 2 ≤ o ∧ o ≤ 5 := by omega
    cases st with
    | nil => cases h
    | cons a r =>
      cases r with
      | nil => cases a <;> cases h
      | cons b r =>
        cases a with
        | true => cases h
        | false =>
          cases b with
          | true => cases h
          | false =>
            have e : false :: r = st' := by injection h
            rw [← e]
            exact Or.inr (Or.inr (Or.inl ⟨o25, rfl, rfl, rfl⟩))
  rw [if_neg c3] at h
  by_cases c4 : 10107 ≤ t ∧ t ≤ 10109
  · rw [if_pos c4] at h
    have o68 : 6 ≤ o ∧ o ≤ 8 := by omega
    cases st with
    | nil => cases h
    | cons a r =>
      cases r with
      | nil => cases a <;> cases h
      | cons b r =>
        cases a with
        | true => cases h
        | false =>
          cases b with
          | true => cases h
          | false =>
            have e : true :: r = st' := by injection h
            rw [← e]
            exact Or.inr (Or.inr (Or.inr (Or.inl ⟨o68, rfl, rfl, rfl⟩)))
  rw [if_neg c4] at h
  by_cases c5 : t = 10003 ∨ t = 10004
  · rw [if_pos c5] at h
    have oo : o = 10 ∨ o = 11 := by omega
    cases st with
    | nil => cases h
    | cons a r =>
      cases r with
      | nil => cases a <;> cases h
      | cons b r =>
        cases a with
        | false => cases h
        | true =>
          cases b with
          | false => cases h
          | true =>
            have e : true :: r = st' := by injection h
            rw [← e]
            exact Or.inr (Or.inr (Or.inr (Or.inr ⟨oo, rfl, rfl, rfl⟩)))
  rw [if_neg c5] at h
  cases h
/-- on the way -/
theorem krun_mid {c : List Int} {st e : List Bool} (h : krun c st = some e) {k : Nat} (hk : k < c.length) : ∃ x y : List Bool, krun (c.take k) st = some x ∧ x.length ≤ 30 ∧ kstep (c.getD k 0) x = some y ∧ krun (c.take (k + 1)) st = some y := by
  have sp : c = c.take k ++ (c.getD k 0 :: c.drop (k + 1)) := by
    rw [List.getD_eq_getElem?_getD, List.getElem?_eq_getElem hk]
    exact (List.take_append_drop k c).symm.trans (by rw [List.drop_eq_getElem_cons hk]; rfl)
  have h2 := h
  rw [sp, krun_app] at h2
  cases e1 : krun (c.take k) st with
  | none => rw [e1] at h2; cases h2
  | some x =>
    rw [e1] at h2
    have h3 : (if x.length ≤ 30 then (kstep (c.getD k 0) x).bind (krun (c.drop (k + 1))) else none) = some e := h2
    by_cases q : x.length ≤ 30
    · rw [if_pos q] at h3
      cases e2 : kstep (c.getD k 0) x with
      | none => rw [e2] at h3; cases h3
      | some y =>
        refine ⟨x, y, rfl, q, e2, ?_⟩
        have tk : c.take (k + 1) = c.take k ++ [c.getD k 0] := by
          rw [List.getD_eq_getElem?_getD, List.getElem?_eq_getElem hk, List.take_succ_eq_append_getElem hk]
          rfl
        rw [tk, krun_app, e1]
        show (if x.length ≤ 30 then (kstep (c.getD k 0) x).bind (krun []) else none) = _
        rw [if_pos q, e2]
        rfl
    · rw [if_neg q] at h3; cases h3
theorem line_ok {op ar : Int → Int} {a b : Int} {c : List Int} (hk : krun c [] = some [true]) (hp : pk c) (hb : b = a + c.length) (ht : ∀ k : Nat, k < c.length → TokR (c.getD k 0) (op (a + k)) (ar (a + k))) : LineOk op ar a b := by
  refine ⟨fun i => (krun (c.take (i - a).toNat) []).getD [], ?_, ?_, fun i i0 i1 => ?_⟩
  · show (krun (c.take (a - a).toNat) []).getD [] = []
    rw [show (a - a).toNat = 0 by omega]
    rfl
  · show (krun (c.take (b - a).toNat) []).getD [] = [true]
    rw [show (b - a).toNat = c.length by omega, List.take_length, hk]
    rfl
  · obtain ⟨k, hk'⟩ := Int.eq_ofNat_of_zero_le (show 0 ≤ i - a by omega)
    have ei : i = a + k := by omega
    have kl : k < c.length := by omega
    obtain ⟨x, y, m1, m2, m3, m4⟩ := krun_mid hk kl
    have t := ht k kl
    show ((krun (c.take (i - a).toNat) []).getD []).length ≤ 30 ∧ stkR (op i) ((krun (c.take (i - a).toNat) []).getD []) ((krun (c.take (i + 1 - a).toNat) []).getD []) ∧ (op i = 5 → a < i ∧ op (i - 1) = 0 ∧ ar (i - 1) ≠ 0)
    rw [show (i - a).toNat = k by omega, show (i + 1 - a).toNat = k + 1 by omega, m1, m4, ei]
    refine ⟨m2, kstep_stk t m3, fun o5 => ?_⟩
    have t5 : c.getD k 0 = 10104 := by unfold TokR at t; omega
    obtain ⟨p1, p2, p3⟩ := hp k kl t5
    have t' := ht (k - 1) (by omega)
    rw [show a + ((k - 1 : Nat) : Int) = a + k - 1 by omega] at t'
    unfold TokR at t'
    omega
