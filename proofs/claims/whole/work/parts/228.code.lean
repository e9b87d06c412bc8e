/-! NAMING's CODE: both work it off alike -/
def twV (o a b : Int) : Int := if o = 2 then wr (a + b) else if o = 3 then wr (a - b) else if o = 4 then wr (a * b) else if o = 5 then xdiv a b else if o = 6 then (if a < b then 1 else 0) else if o = 7 then (if a = b then 1 else 0) else if o = 8 then (if b < a then 1 else 0) else if o = 10 then wr (a * b) else (if 0 < wr (a + b) then 1 else 0)
theorem twV_rg (o a b : Int) : rg (twV o a b) := by
  unfold twV
  (repeat' split) <;> first | exact wr_rg _ | exact oI_rg _ | decide
theorem t_X12_twoOf {o a b : Int} {s : Sto} (ho : (2 ≤ o ∧ o ≤ 8) ∨ o = 10 ∨ o = 11) (ha : rg a) (hb : rg b) (h5 : o = 5 → b ≠ 0) : ClI LY 0 MX12_twoOf [.inr 75, .inl o, .inl a, .inl b] s (fun r s' => s' = s ∧ r = twV o a b) := by
  refine ClI.intro (by decide) rfl (Nat.le_of_ble_eq_true rfl) (fun X C r => ?_)
  have hr : rg o := ⟨by omega, by omega⟩
  refine kb_X12_twoOf_0 C r ⟨hr, fun n2 => ⟨hr, fun n3 => ⟨hr, fun n4 => ⟨hr, fun n5 => ⟨hr, fun n6 => ⟨hr, fun n7 => ⟨hr, fun n8 => ⟨hr, fun n10 => ⟨fun z => ⟨rfl, ?_⟩, fun z => ⟨rfl, ?_⟩⟩, fun q => ⟨rfl, ?_⟩⟩, fun q => ⟨⟨ha, hb⟩, fun z => ⟨rfl, ?_⟩, fun z => ⟨rfl, ?_⟩⟩⟩, fun q => ⟨⟨ha, hb⟩, fun z => ⟨rfl, ?_⟩, fun z => ⟨rfl, ?_⟩⟩⟩, fun q => ⟨⟨ha, hb⟩, fun z => ⟨rfl, ?_⟩, fun z => ⟨rfl, ?_⟩⟩⟩, fun q => ⟨⟨hb, h5 q⟩, rfl, ?_⟩⟩, fun q => ⟨rfl, ?_⟩⟩, fun q => ⟨rfl, ?_⟩⟩, fun q => ⟨rfl, ?_⟩⟩ <;> unfold twV <;> (repeat (first | rw [if_pos (by omega)] | rw [if_neg (by omega)]))
theorem tr_and {a b : Int} (ha : a = 0 ∨ a = 1) (hb : b = 0 ∨ b = 1) : xand a b = wr (a * b) ∧ xor_ a b = (if 0 < wr (a + b) then 1 else 0) := by
  rcases ha with rfl | rfl <;> rcases hb with rfl | rfl <;> decide
theorem t_X1_worked {t o x a b : Int} {s : Sto} (hT : TokR t o x) (ho : (2 ≤ o ∧ o ≤ 8) ∨ o = 10 ∨ o = 11) (ha : rg a) (hb : rg b) (h5 : o = 5 → b ≠ 0) (ht : o = 10 ∨ o = 11 → (a = 0 ∨ a = 1) ∧ (b = 0 ∨ b = 1)) : ClI LY 0 MX1_worked [.inl t, .inl a, .inl b] s (fun r s' => s' = s ∧ r = twV o a b) := by
  refine ClI.intro (by decide) rfl (Nat.le_of_ble_eq_true rfl) (fun X C r => ?_)
  unfold TokR at hT
  refine kb_X1_worked_0 C r ⟨⟨by omega, by omega⟩, fun q => ⟨rfl, ?_⟩, fun q => ⟨rfl, ?_⟩, fun q => ⟨rfl, ?_⟩, fun q => ⟨rfl, ?_⟩, fun q => ⟨hb, fun z => ⟨⟨hb, z⟩, rfl, ?_⟩, fun z => absurd z (h5 (by omega))⟩, fun q => ⟨⟨ha, hb⟩, fun z => ⟨rfl, ?_⟩, fun z => ⟨rfl, ?_⟩⟩, fun q => ⟨⟨ha, hb⟩, fun z => ⟨rfl, ?_⟩, fun z => ⟨rfl, ?_⟩⟩, fun q => ⟨⟨ha, hb⟩, fun z => ⟨rfl, ?_⟩, fun z => ⟨rfl, ?_⟩⟩, fun q => ⟨rfl, ?_⟩⟩
  · have h := ht (by omega)
    rw [(tr_and h.1 h.2).1]
    unfold twV
    (repeat (first | rw [if_pos (by omega)] | rw [if_neg (by omega)]))
  iterate 10
    · unfold twV
      (repeat (first | rw [if_pos (by omega)] | rw [if_neg (by omega)]))
  · have h := ht (by omega)
    have h11 : o = 11 := by omega
    rw [(tr_and h.1 h.2).2, h11]
    exact rfl
/-- one code on a stack of numbers, the top first -/
def stepV (fa : Int → Int) (o x : Int) (l : List Int) : List Int := if o = 0 then x :: l else if o = 1 then fa x :: l else match l with
  | [] => []
  | [a] => if o = 9 then [1 - a] else [a]
  | b :: a :: l => if o = 9 then (1 - b) :: a :: l else twV o a b :: l
def evL (fa op ar : Int → Int) (a : Int) : Nat → List Int
  | 0 => []
  | n + 1 => stepV fa (op (a + n)) (ar (a + n)) (evL fa op ar a n)
def kdR : List Bool → List Int → Prop
  | [], [] => True
  | k :: ks, v :: vs => (rg v ∧ (k = true → v = 0 ∨ v = 1)) ∧ kdR ks vs
  | _, _ => False
theorem kdR_len : ∀ (T : List Bool) (l : List Int), kdR T l → l.length = T.length
  | [], [], _ => rfl
  | _ :: T, _ :: l, h => by
    have := kdR_len T l h.2
    simp [this]
  | [], _ :: _, h => h.elim
  | _ :: _, [], h => h.elim
theorem twV_tr {o a b : Int} (h : (6 ≤ o ∧ o ≤ 8) ∨ o = 11) : twV o a b = 0 ∨ twV o a b = 1 := by
  unfold twV
  (repeat' split) <;> omega
theorem twV_and {a b : Int} (ha : a = 0 ∨ a = 1) (hb : b = 0 ∨ b = 1) : twV 10 a b = 0 ∨ twV 10 a b = 1 := by
  rcases ha with rfl | rfl <;> rcases hb with rfl | rfl <;> decide
theorem kd_step {fa : Int → Int} {o x : Int} {T T' : List Bool} {l : List Int} (hf : ∀ j : Int, 0 ≤ j → j < 10 → rg (fa j)) (hx : (o = 0 → rg x) ∧ (o = 1 → 0 ≤ x ∧ x < 10)) (hs : stkR o T T') (h : kdR T l) : kdR T' (stepV fa o x l) := by
  have push : (o = 0 ∨ o = 1) → kdR (false :: T) (stepV fa o x l) := by
    intro q
    unfold stepV
    by_cases z : o = 0
    · rw [if_pos z]
      exact ⟨⟨hx.1 z, fun y => absurd y (by decide)⟩, h⟩
    · rw [if_neg z, if_pos (by omega)]
      exact ⟨⟨hf x (hx.2 (by omega)).1 (hx.2 (by omega)).2, fun y => absurd y (by decide)⟩, h⟩
  unfold stkR at hs
  split at hs
  · rw [hs.2]; exact push hs.1
  · rename_i k
    rcases hs with g | ⟨g1, g2, g3⟩
    · rw [g.2]; exact push g.1
    · match l, h with
      | [v], h =>
        rw [g3]
        unfold stepV
        rw [if_neg (by omega), if_neg (by omega)]
        show kdR [true] (if o = 9 then [1 - v] else [v])
        rw [if_pos g1]
        have := h.1.2 g2
        exact ⟨⟨⟨by omega, by omega⟩, fun _ => by omega⟩, trivial⟩
      | [], h => exact h.elim
      | _ :: _ :: _, h => exact h.2.elim
  · rename_i k1 k2 ks
    match l, h with
    | [], h => exact h.elim
    | [_], h => exact h.2.elim
    | b :: a :: l, h =>
      obtain ⟨hb, ha, hl⟩ := h
      have two : o ≠ 0 → o ≠ 1 → o ≠ 9 → stepV fa o x (b :: a :: l) = twV o a b :: l := by
        intro n0 n1 n9
        unfold stepV
        rw [if_neg n0, if_neg n1]
        exact if_neg n9
      rcases hs with g | g | g | g | g
      · rw [g.2]; exact push g.1
      · rw [g.2.2]
        unfold stepV
        rw [if_neg (by omega), if_neg (by omega)]
        show kdR (true :: k2 :: ks) (if o = 9 then (1 - b) :: a :: l else twV o a b :: l)
        rw [if_pos g.1]
        have := hb.2 g.2.1
        exact ⟨⟨⟨by omega, by omega⟩, fun _ => by omega⟩, ha, hl⟩
      · rw [g.2.2.2, two (by omega) (by omega) (by omega)]
        exact ⟨⟨twV_rg _ _ _, fun y => absurd y (by decide)⟩, hl⟩
      · rw [g.2.2.2, two (by omega) (by omega) (by omega)]
        exact ⟨⟨twV_rg _ _ _, fun _ => twV_tr (by omega)⟩, hl⟩
      · rw [g.2.2.2, two (by omega) (by omega) (by omega)]
        refine ⟨⟨twV_rg _ _ _, fun _ => ?_⟩, hl⟩
        rcases g.1 with z | z
        · rw [z]; exact twV_and (ha.2 g.2.2.1) (hb.2 g.2.1)
        · exact twV_tr (by omega)
