/-! TEXT: the reference's reader, up to two sums compared -/
def TVR (tk v t : Int) : Prop := (t = 10200 ∧ tk = 0) ∨ (10000 ≤ t ∧ t ≤ 10015 ∧ tk = 2 ∧ v = t - 10000) ∨ (0 ≤ t ∧ t < 10000 ∧ tk = 3 ∧ v = t) ∨ (t = 10201 ∧ tk = 1) ∨ (tk = 4 ∧ ((t = 10100 ∧ v = 59) ∨ (t = 10101 ∧ v = 43) ∨ (t = 10102 ∧ v = 45) ∨ (t = 10103 ∧ v = 42) ∨ (t = 10104 ∧ v = 47) ∨ (t = 10105 ∧ v = 40) ∨ (t = 10106 ∧ v = 41) ∨ (t = 10107 ∧ v = 60) ∨ (t = 10108 ∧ v = 61) ∨ (t = 10109 ∧ v = 62)))
theorem TVR.rgs {tk v t : Int} (h : TVR tk v t) : rg tk ∧ (tk = 2 ∨ tk = 3 ∨ tk = 4 → rg v) ∧ (0 ≤ tk ∧ tk ≤ 4) := by
  unfold TVR at h
  refine ⟨⟨by omega, by omega⟩, fun _ => ⟨by omega, by omega⟩, by omega⟩
theorem TVR.n {tk v t : Int} (h : TVR tk v t) : (tk = 3 → 0 ≤ t ∧ t < 10000 ∧ v = t) ∧ (t < 10000 → tk = 3) := by unfold TVR at h; omega
theorem TVR.w {tk v t : Int} (h : TVR tk v t) : (tk = 2 → 10000 ≤ t ∧ t ≤ 10015 ∧ v = t - 10000) ∧ (10000 ≤ t ∧ t ≤ 10015 → tk = 2) := by unfold TVR at h; omega
theorem TVR.e {tk v t : Int} (h : TVR tk v t) : tk = 0 ↔ t = 10200 := by unfold TVR at h; omega
theorem TVR.s59 {tk v t : Int} (h : TVR tk v t) : tk = 4 ∧ v = 59 ↔ t = 10100 := by unfold TVR at h; omega
theorem TVR.s43 {tk v t : Int} (h : TVR tk v t) : tk = 4 ∧ v = 43 ↔ t = 10101 := by unfold TVR at h; omega
theorem TVR.s45 {tk v t : Int} (h : TVR tk v t) : tk = 4 ∧ v = 45 ↔ t = 10102 := by unfold TVR at h; omega
theorem TVR.s42 {tk v t : Int} (h : TVR tk v t) : tk = 4 ∧ v = 42 ↔ t = 10103 := by unfold TVR at h; omega
theorem TVR.s47 {tk v t : Int} (h : TVR tk v t) : tk = 4 ∧ v = 47 ↔ t = 10104 := by unfold TVR at h; omega
theorem TVR.s40 {tk v t : Int} (h : TVR tk v t) : tk = 4 ∧ v = 40 ↔ t = 10105 := by unfold TVR at h; omega
theorem TVR.s41 {tk v t : Int} (h : TVR tk v t) : tk = 4 ∧ v = 41 ↔ t = 10106 := by unfold TVR at h; omega
theorem TVR.s60 {tk v t : Int} (h : TVR tk v t) : tk = 4 ∧ v = 60 ↔ t = 10107 := by unfold TVR at h; omega
theorem TVR.s61 {tk v t : Int} (h : TVR tk v t) : tk = 4 ∧ v = 61 ↔ t = 10108 := by unfold TVR at h; omega
theorem TVR.s62 {tk v t : Int} (h : TVR tk v t) : tk = 4 ∧ v = 62 ↔ t = 10109 := by unfold TVR at h; omega
/-- the reference's reader at TOKEN i, the code l written, o open, st waiting -/
def RQ (T pl en : Nat → Int) (u S : Sto) (i : Nat) (l : List Int) (o : Int) (st : List Int) : Prop := (∀ c : Nat, c ≠ 75 → c ≠ 96 → c ≠ 97 → c ≠ 98 → S c = u c) ∧ (∀ j : Int, ¬ (j = 25 ∨ j = 26 ∨ j = 27 ∨ j = 28 ∨ j = 36 ∨ j = 37 ∨ j = 39 ∨ j = 40 ∨ j = 41) → S 75 j = u 75 j) ∧ (∀ j : Int, j < 400 → S 96 j = u 96 j ∧ S 97 j = u 97 j) ∧ (S 75 26 = pl i ∧ S 75 25 = en i ∧ TVR (S 75 27) (S 75 28) (T i)) ∧ (S 75 36 = l.length ∧ ∀ k : Nat, k < l.length → TokR (l.getD k 0) (S 96 (400 + k)) (S 97 (400 + k))) ∧ S 75 37 = o ∧ S 75 39 = st.length ∧ ∀ k : Nat, k < st.length → S 98 (k : Int) = st.getD k 0
def EF (pl : Nat → Int) (u S : Sto) (e : Int × Nat) : Prop := (∀ c : Nat, c ≠ 75 → c ≠ 96 → c ≠ 97 → c ≠ 98 → S c = u c) ∧ (∀ j : Int, ¬ (j = 25 ∨ j = 26 ∨ j = 27 ∨ j = 28 ∨ j = 36 ∨ j = 37 ∨ j = 39 ∨ j = 40 ∨ j = 41) → S 75 j = u 75 j) ∧ (∀ j : Int, j < 400 → S 96 j = u 96 j ∧ S 97 j = u 97 j) ∧ S 75 40 = e.1 ∧ S 75 41 = pl e.2
/-- the next TOKEN can be read -/
def HR (T pl en : Nat → Int) (N : Nat) (u : Sto) : Prop := (∀ (S : Sto) (i : Nat) (l : List Int) (o : Int) (st : List Int), RQ T pl en u S i l o st → i < N → ClV LY 2 MX12_reads [.inr 75] S (fun S' => RQ T pl en u S' (i + 1) l o st)) ∧ T N = 10200 ∧ N ≤ 400
def PR (T pl en : Nat → Int) (u : Sto) (o : Int) (st : List Int) (R : Rs) (r : Int) (S : Sto) : Prop := (∃ e : Int × Nat, R = .inl e ∧ r = -1 ∧ EF pl u S e) ∨ ∃ (i : Nat) (l : List Int), R = .inr (i, l) ∧ r = 0 ∧ RQ T pl en u S i l o st
theorem PR.bd {T pl en : Nat → Int} {u S : Sto} {o : Int} {st : List Int} {R : Rs} {r : Int} (h : PR T pl en u o st R r S) : rg r := by
  rcases h with ⟨e, _, h, _⟩ | ⟨i, l, _, h, _⟩
  · rw [h]; decide
  · rw [h]; decide
theorem PR.bad {T pl en : Nat → Int} {u S : Sto} {o : Int} {st : List Int} {R : Rs} {r : Int} (h : PR T pl en u o st R r S) (hr : r = -1) : ∃ e : Int × Nat, R = .inl e ∧ EF pl u S e := by
  rcases h with ⟨e, h1, _, h2⟩ | ⟨i, l, _, h, _⟩
  · exact ⟨e, h1, h2⟩
  · omega
theorem PR.good {T pl en : Nat → Int} {u S : Sto} {o : Int} {st : List Int} {R : Rs} {r : Int} (h : PR T pl en u o st R r S) (hr : r ≠ -1) : ∃ (i : Nat) (l : List Int), R = .inr (i, l) ∧ RQ T pl en u S i l o st := by
  rcases h with ⟨e, _, h, _⟩ | ⟨i, l, h1, _, h2⟩
  · omega
  · exact ⟨i, l, h1, h2⟩
theorem tr_emits {T pl en : Nat → Int} {u S : Sto} {i : Nat} {l : List Int} {o x a b : Int} {st : List Int} (h : RQ T pl en u S i l o st) (hx : TokR x a b) (hl : l.length < 400) : ClV LY 0 MX12_emits [.inr 75, .inl a, .inl b] S (fun S' => RQ T pl en u S' i (l ++ [x]) o st) := by
  obtain ⟨h1, h2, h3, ⟨h4, h5, h6⟩, ⟨h7, h8⟩, h9, h10, h11⟩ := h
  refine ClV.intro (by decide) rfl (Nat.le_of_ble_eq_true rfl) (fun X C r => ?_)
  refine kb_X12_emits_0 C r ?_
  rw [h7]
  refine ⟨⟨by omega, by omega⟩, ?_⟩
  rintro s1 hs1
  have e1 : s1 75 36 = l.length := by rw [hs1, up_row (by decide), h7]
  rw [e1]
  refine ⟨⟨by omega, by omega⟩, ?_⟩
  rintro s2 hs2 s3 hs3
  have e2 : s2 75 36 = l.length := by rw [hs2, up_row (by decide), e1]
  rw [e2] at hs3
  have r75 : ∀ j : Int, j ≠ 36 → s3 75 j = S 75 j := fun j hj => by rw [hs3, up_idx hj, hs2, up_row (by decide), hs1, up_row (by decide)]
  have rc : ∀ c : Nat, c ≠ 75 → c ≠ 96 → c ≠ 97 → s3 c = S c := fun c c1 c2 c3 => by rw [hs3, up_row c1, hs2, up_row c3, hs1, up_row c2]
  have r96 : ∀ j : Int, s3 96 j = if j = 400 + (l.length : Int) then a else S 96 j := fun j => by rw [hs3, up_row (by decide), hs2, up_row (by decide), hs1, up_if]
  have r97 : ∀ j : Int, s3 97 j = if j = 400 + (l.length : Int) then b else S 97 j := fun j => by rw [hs3, up_row (by decide), hs2, up_if, hs1, up_row (by decide)]
  refine ⟨fun c c1 c2 c3 c4 => by rw [rc c c1 c2 c3, h1 c c1 c2 c3 c4], fun j hj => by rw [r75 j (by omega), h2 j hj], fun j hj => ?_, ⟨by rw [r75 26 (by decide), h4], by rw [r75 25 (by decide), h5], by rw [r75 27 (by decide), r75 28 (by decide)]; exact h6⟩, ⟨?_, fun k hk => ?_⟩, by rw [r75 37 (by decide), h9], by rw [r75 39 (by decide), h10], fun k hk => by rw [rc 98 (by decide) (by decide) (by decide), h11 k hk]⟩
  · rw [r96, r97, if_neg (by omega), if_neg (by omega)]; exact h3 j hj
  · rw [hs3, up_at, List.length_append, List.length_singleton]; omega
  · rw [List.length_append, List.length_singleton] at hk
    rw [r96, r97]
    by_cases e : k = l.length
    · rw [if_pos (by omega), if_pos (by omega), e, getD_r (Nat.le_refl _), Nat.sub_self]
      exact hx
    · rw [if_neg (by omega), if_neg (by omega), getD_l (by omega)]
      exact h8 k (by omega)
theorem tr_errs {T pl en : Nat → Int} {u S : Sto} {i : Nat} {l : List Int} {o k : Int} {st : List Int} (h : RQ T pl en u S i l o st) : ClI LY 0 MX12_errs [.inr 75, .inl k] S (fun r S' => r = -1 ∧ EF pl u S' (k, i)) := by
  obtain ⟨h1, h2, h3, ⟨h4, h5, h6⟩, ⟨h7, h8⟩, h9, h10, h11⟩ := h
  refine ClI.intro (by decide) rfl (Nat.le_of_ble_eq_true rfl) (fun X C r => ?_)
  refine kb_X12_errs_0 C r ?_
  rintro s1 hs1
  have e1 : s1 75 26 = pl i := by rw [hs1, up_idx (by decide), h4]
  rw [e1]
  rintro s2 hs2
  have rc : ∀ c : Nat, c ≠ 75 → s2 c = S c := fun c hc => by rw [hs2, up_row hc, hs1, up_row hc]
  exact ⟨rfl, fun c c1 c2 c3 c4 => by rw [rc c c1, h1 c c1 c2 c3 c4], fun j hj => by rw [hs2, up_idx (by omega), hs1, up_idx (by omega), h2 j hj], fun j hj => by rw [rc 96 (by decide), rc 97 (by decide)]; exact h3 j hj, by rw [hs2, up_idx (by decide), hs1, up_at], by rw [hs2, up_at]⟩
theorem tr_isSign {T pl en : Nat → Int} {u S : Sto} {i : Nat} {l : List Int} {o c : Int} {st : List Int} (h : RQ T pl en u S i l o st) (hc : rg c) : ClI LY 0 MX12_isSign [.inr 75, .inl c] S (fun r S' => S' = S ∧ (r = 0 ∨ r = 1) ∧ (r = 1 ↔ S 75 27 = 4 ∧ S 75 28 = c)) := by
  have t := h.2.2.2.1.2.2.rgs
  refine ClI.introZ (by decide) rfl (Nat.le_of_ble_eq_true rfl) (fun X C r => ?_)
  exact kb_X12_isSign_0 C r ⟨t.1, fun z => ⟨rfl, Or.inl rfl, ⟨fun w => absurd w (by decide), fun w => absurd w.1 z⟩⟩, fun z => ⟨⟨t.2.1 (by omega), hc⟩, fun z2 => ⟨rfl, Or.inl rfl, ⟨fun w => absurd w (by decide), fun w => absurd w.2 z2⟩⟩, fun z2 => ⟨rfl, Or.inr rfl, ⟨fun _ => ⟨z, z2⟩, fun _ => rfl⟩⟩⟩⟩
theorem tr_isWord {T pl en : Nat → Int} {u S : Sto} {i : Nat} {l : List Int} {o c : Int} {st : List Int} (h : RQ T pl en u S i l o st) (hc : rg c) : ClI LY 0 MX12_isWord [.inr 75, .inl c] S (fun r S' => S' = S ∧ (r = 0 ∨ r = 1) ∧ (r = 1 ↔ S 75 27 = 2 ∧ S 75 28 = c)) := by
  have t := h.2.2.2.1.2.2.rgs
  refine ClI.introZ (by decide) rfl (Nat.le_of_ble_eq_true rfl) (fun X C r => ?_)
  exact kb_X12_isWord_0 C r ⟨t.1, fun z => ⟨rfl, Or.inl rfl, ⟨fun w => absurd w (by decide), fun w => absurd w.1 z⟩⟩, fun z => ⟨⟨t.2.1 (by omega), hc⟩, fun z2 => ⟨rfl, Or.inl rfl, ⟨fun w => absurd w (by decide), fun w => absurd w.2 z2⟩⟩, fun z2 => ⟨rfl, Or.inr rfl, ⟨fun _ => ⟨z, z2⟩, fun _ => rfl⟩⟩⟩⟩
theorem RQ.ne {T pl en : Nat → Int} {N : Nat} {u : Sto} {i : Nat} (hr : HR T pl en N u) (hi : i ≤ N) (h : T i ≠ 10200) : i < N := by
  by_cases e : i = N
  · rw [e] at h; exact absurd hr.2.1 h
  · omega
theorem tr_readUnit {T pl en : Nat → Int} {N : Nat} {u S : Sto} {i : Nat} {l : List Int} {o : Int} {st : List Int} (hr : HR T pl en N u) (h : RQ T pl en u S i l o st) (hi : i ≤ N) (hl : l.length ≤ i) : ClI LY 3 MX12_readUnit [.inr 75] S (PR T pl en u o st (unitG T (-1) i l)) := by
  have tv := h.2.2.2.1.2.2
  have t := tv.rgs
  have hN := hr.2.2
  have tn := tv.n
  have tw := tv.w
  refine ClI.intro (by decide) rfl (Nat.le_of_ble_eq_true rfl) (fun X C r => ?_)
  have bad : ¬ (T i < 10000 ∨ (10006 ≤ T i ∧ T i ≤ 10015)) → CallI LY 3 MX12_errs [.inr 75, .inl 1] S (fun r1 s1 => PR T pl en u o st (unitG T (-1) i l) r1 s1) := fun q => ⟨0, _, by decide, tr_errs h, fun r1 s1 q1 => Or.inl ⟨(1, i), if_pos (by omega), q1.1, q1.2⟩⟩
  have good : ∀ a b : Int, TokR (T i) a b → (T i < 10000 ∨ (10006 ≤ T i ∧ T i ≤ 10015)) → CallV LY 3 MX12_emits [.inr 75, .inl a, .inl b] S (fun s1 => CallV LY 3 MX12_reads [.inr 75] s1 (fun s2 => PR T pl en u o st (unitG T (-1) i l) 0 s2)) := fun a b ht q => by
    have iN : i < N := RQ.ne hr hi (by omega)
    refine ⟨0, _, by decide, tr_emits h ht (by omega), fun s1 q1 => ⟨2, _, by decide, hr.1 s1 i _ o st q1 iN, fun s2 q2 => Or.inr ⟨i + 1, l ++ [T i], ?_, rfl, q2⟩⟩⟩
    unfold unitG
    rw [if_neg (by omega), if_neg (by omega)]
  have k41 : ∀ v : Int, ((v = 0 ∧ S 75 27 = 3) ∨ (v = 1 ∧ S 75 27 = 2 ∧ 6 ≤ S 75 28)) → G LY X 41 [rv 75, iv v] [] S := fun v hv => by
    have rv_ : rg v := ⟨by omega, by omega⟩
    refine kb_X12_readUnit_41 C r ⟨rv_, fun z => ⟨rv_, fun _ => good 0 (S 75 28) ?_ (by omega), fun w => absurd z w⟩, fun z => ⟨rv_, fun w => absurd w z, fun _ => good 1 (S 75 28 - 6) ?_ (by omega)⟩⟩
    · exact Or.inl ⟨rfl, by omega, by omega, by omega⟩
    · exact Or.inr (Or.inl ⟨rfl, by omega, by omega, by omega⟩)
  refine kb_X12_readUnit_0 C r ⟨t.1, fun z => ⟨t.1, fun z2 => k41 0 (by omega), fun z2 => bad (by omega)⟩, fun z => ⟨t.2.1 (by omega), fun z2 => ⟨t.1, fun z3 => absurd z3 (by omega), fun z3 => bad (by omega)⟩, fun z2 => k41 1 (by omega)⟩⟩
/-! products and sums apart -/
def prodL (T : Nat → Int) : Nat → Nat → List Int → Rs
  | 0, _, _ => .inl (0, 0)
  | f + 1, i, l => if 10103 ≤ T i ∧ T i ≤ 10104 then (unitG T (T i) (i + 1) l).go (fun j m => prodL T f j (m ++ [T i])) else .inr (i, l)
def prodG (T : Nat → Int) (f i : Nat) (l : List Int) : Rs := (unitG T (-1) i l).go (fun j m => prodL T f j m)
theorem Rs.go_eq {r : Rs} {k k' : Nat → List Int → Rs} (h : ∀ (i : Nat) (l : List Int), r = .inr (i, l) → k i l = k' i l) : r.go k = r.go k' := by
  rcases r.ex with ⟨e, he⟩ | ⟨i, l, he⟩
  · rw [Rs.go_l he, Rs.go_l he]
  · rw [Rs.go_r he, Rs.go_r he, h i l he]
theorem sumL_fuel {T : Nat → Int} {N : Nat} (hN : T N = 10200) : ∀ (f g : Nat) (w : Int) (i : Nat) (l : List Int), i ≤ N → N - i < f → N - i < g → sumL T f w i l = sumL T g w i l
  | 0, _, _, _, _, _, h, _ => absurd h (by omega)
  | _ + 1, 0, _, _, _, _, _, h => absurd h (by omega)
  | f + 1, g + 1, w, i, l, hi, h1, h2 => by
    show (if 10101 ≤ T i ∧ T i ≤ 10104 then _ else _) = (if 10101 ≤ T i ∧ T i ≤ 10104 then _ else _)
    by_cases c : 10101 ≤ T i ∧ T i ≤ 10104
    · rw [if_pos c, if_pos c]
      have iN : i ≠ N := fun e => by rw [e, hN] at c; omega
      by_cases c2 : T i ≤ 10102
      · rw [if_pos c2, if_pos c2]
        exact Rs.go_eq (fun j m hj => by
          have ok := unitG_ok hN (by omega) hj
          exact sumL_fuel hN f g (T i) j m (by omega) (by omega) (by omega))
      · rw [if_neg c2, if_neg c2]
        exact Rs.go_eq (fun j m hj => by
          have ok := unitG_ok hN (by omega) hj
          exact sumL_fuel hN f g w j _ (by omega) (by omega) (by omega))
    · rw [if_neg c, if_neg c]
theorem sumL_ev {T : Nat → Int} {N : Nat} {w : Int} {i : Nat} {l : List Int} (hN : T N = 10200) (h4 : N ≤ 400) (hi : i ≤ N) : sumL T 401 w i l = if 10101 ≤ T i ∧ T i ≤ 10104 then (if T i ≤ 10102 then (unitG T (T i) (i + 1) (adw l w)).go (fun i' l' => sumL T 401 (T i) i' l') else (unitG T (T i) (i + 1) l).go (fun i' l' => sumL T 401 w i' (l' ++ [T i]))) else .inr (i, adw l w) := sumL_fuel hN 401 402 w i l hi (by omega) (by omega)
theorem prodL_ok {T : Nat → Int} {N : Nat} (hN : T N = 10200) : ∀ (f i j : Nat) (l m : List Int), i ≤ N → prodL T f i l = .inr (j, m) → i ≤ j ∧ j ≤ N ∧ m.length + i ≤ l.length + j ∧ ¬ (10103 ≤ T j ∧ T j ≤ 10104)
  | 0, _, _, _, _, _, h => by cases h
  | f + 1, i, j, l, m, hi, h => by
    unfold prodL at h
    by_cases c : 10103 ≤ T i ∧ T i ≤ 10104
    · rw [if_pos c] at h
      have iN : i ≠ N := fun e => by rw [e, hN] at c; omega
      obtain ⟨i', l', u1, u2⟩ := Rs.go_inv h
      obtain ⟨u3, u4, u5, _⟩ := unitG_ok hN (by omega) u1
      have ih := prodL_ok hN f i' j (l' ++ [T i]) m (by omega) u2
      rw [u5, List.length_append, List.length_append, List.length_singleton, List.length_singleton] at ih
      refine ⟨by omega, by omega, by omega, ih.2.2.2⟩
    · rw [if_neg c] at h
      have h' : (i, l) = (j, m) := by injection h
      have h1 : i = j := by injection h'
      have h2 : l = m := by injection h'
      rw [← h1, ← h2]
      exact ⟨Nat.le_refl _, hi, by omega, c⟩
theorem sum_prod {T : Nat → Int} {N : Nat} {w : Int} (hN : T N = 10200) (h4 : N ≤ 400) : ∀ (f i : Nat) (l : List Int), i ≤ N → N - i < f → sumL T 401 w i l = (prodL T f i l).go (fun j m => sumL T 401 w j m)
  | 0, _, _, _, h => absurd h (by omega)
  | f + 1, i, l, hi, hf => by
    by_cases c : 10103 ≤ T i ∧ T i ≤ 10104
    · have e : prodL T (f + 1) i l = (unitG T (T i) (i + 1) l).go (fun j m => prodL T f j (m ++ [T i])) := if_pos c
      rw [e, Rs.go_go, sumL_ev hN h4 hi, if_pos (by omega), if_neg (by omega)]
      have iN : i ≠ N := fun e => by rw [e, hN] at c; omega
      exact Rs.go_eq (fun j m hj => by
        have ok := unitG_ok hN (by omega) hj
        exact sum_prod hN h4 f j (m ++ [T i]) (by omega) (by omega))
    · have e : prodL T (f + 1) i l = .inr (i, l) := if_neg c
      rw [Rs.go_r e]
/-- what waits may be written at once where no product goes on -/
theorem sum_emit {T : Nat → Int} {N : Nat} {w : Int} {j : Nat} {m : List Int} (hN : T N = 10200) (h4 : N ≤ 400) (hj : j ≤ N) (c : ¬ (10103 ≤ T j ∧ T j ≤ 10104)) : sumL T 401 w j m = sumL T 401 (-1) j (adw m w) := by
  have ea : adw (adw m w) (-1) = adw m w := if_pos rfl
  rw [sumL_ev hN h4 hj, sumL_ev hN h4 hj, ea]
  by_cases q : 10101 ≤ T j ∧ T j ≤ 10104
  · rw [if_pos q, if_pos q, if_pos (by omega), if_pos (by omega)]
  · rw [if_neg q, if_neg q]
theorem unit_b {T : Nat → Int} {b : Int} {i : Nat} {l : List Int} (hb : b ≠ 10104) : unitG T b i l = unitG T (-1) i l := by
  unfold unitG
  by_cases c : 10000 ≤ T i ∧ ¬ (10006 ≤ T i ∧ T i ≤ 10015)
  · rw [if_pos ⟨c.1, Or.inl c.2⟩, if_pos ⟨c.1, Or.inl c.2⟩]
  · rw [if_neg (by omega), if_neg (by omega), if_neg (by omega), if_neg (by omega)]
set_option maxHeartbeats 4000000 in
theorem tr_readProduct {T pl en : Nat → Int} {N f : Nat} {u S : Sto} {i : Nat} {l : List Int} {o : Int} {st : List Int} (hr : HR T pl en N u) (h : RQ T pl en u S i l o st) (hi : i ≤ N) (hl : l.length ≤ i) (hf : N - i < f) : ClI LY 4 MX12_readProduct [.inr 75] S (PR T pl en u o st (prodG T f i l)) := by
  have hN := hr.2.2
  have hE := hr.2.1
  refine ClI.intro (by decide) rfl (Nat.le_of_ble_eq_true rfl) (fun X C r => ?_)
  have loop : ∀ (g : Nat) (j : Nat) (m : List Int) (S' : Sto), prodG T f i l = prodL T g j m → RQ T pl en u S' j m o st → j ≤ N → m.length ≤ j → N - j < g → G LY X 10 [rv 75, none] [] S' := by
    intro g
    induction g with
    | zero => intro j m S' _ _ _ _ hg; omega
    | succ g ih =>
      intro j m S' hR q hj hm hg
      have tv := q.2.2.2.1.2.2
      have t := tv.rgs
      have s42 := tv.s42
      have s47 := tv.s47
      have stop : ¬ (10103 ≤ T j ∧ T j ≤ 10104) → PR T pl en u o st (prodG T f i l) 0 S' := fun c => Or.inr ⟨j, m, by rw [hR]; exact if_neg c, rfl, q⟩
      -- behind the sign
      have k57 : ∀ (v : Int) (s3 : Sto), RQ T pl en u s3 (j + 1) m o st → j < N → ((v = 1 ∧ T j = 10103) ∨ (v = 0 ∧ T j = 10104 ∧ s3 75 27 = 3)) → G LY X 57 [rv 75, iv v] [] s3 := fun v s3 q3 jN hv => by
        have tv3 := q3.2.2.2.1.2.2
        have t3 := tv3.rgs
        have tn3 := tv3.n
        have rv_ : rg v := ⟨by omega, by omega⟩
        have eR : prodG T f i l = (unitG T (T j) (j + 1) m).go (fun j' m' => prodL T g j' (m' ++ [T j])) := by rw [hR]; exact if_pos (by omega)
        have un := tr_readUnit hr q3 (by omega) (by omega)
        have eb : ¬ (T j = 10104 ∧ ¬ T (j + 1) < 10000) → ¬ (T j = 10104 ∧ T (j + 1) = 0) → unitG T (T j) (j + 1) m = unitG T (-1) (j + 1) m := fun z z2 => by
          by_cases w : T j = 10104
          · unfold unitG
            rw [if_neg (by omega), if_neg (by omega), if_neg (by omega), if_neg (by omega)]
          · exact unit_b w
        have next : ∀ (a : Int), TokR (T j) a 0 → unitG T (T j) (j + 1) m = unitG T (-1) (j + 1) m → ∀ (r1 : Int) (s1 : Sto), PR T pl en u o st (unitG T (-1) (j + 1) m) r1 s1 → rg r1 ∧ (r1 ≠ -1 → CallV LY 4 MX12_emits [.inr 75, .inl a, .inl 0] s1 (fun s2 => G LY X 10 [rv 75, none] [] s2)) ∧ (r1 = -1 → PR T pl en u o st (prodG T f i l) (-1) s1) := fun a ha hb r1 s1 q1 => by
          refine ⟨q1.bd, fun z => ?_, fun z => ?_⟩
          · obtain ⟨j', m', p1, p2⟩ := q1.good z
            obtain ⟨g1, g2, g3, _⟩ := unitG_ok hE (by omega) p1
            have lm : m'.length = m.length + 1 := by rw [g3, List.length_append, List.length_singleton]
            refine ⟨0, _, by decide, tr_emits p2 ha (by omega), fun s2 q2 => ih j' (m' ++ [T j]) s2 ?_ q2 (by omega) ?_ (by omega)⟩
            · rw [eR, hb, Rs.go_r p1]
            · rw [List.length_append, List.length_singleton]; omega
          · obtain ⟨e, p1, p2⟩ := q1.bad z
            exact Or.inl ⟨e, by rw [eR, hb, Rs.go_l p1], rfl, p2⟩
        refine kb_X12_readProduct_57 C r ⟨rv_, fun z => ⟨3, _, by decide, un, fun r1 s1 q1 => ?_⟩, fun z => ⟨t3.2.1 (by omega), fun z2 => ⟨3, _, by decide, un, fun r1 s1 q1 => ?_⟩, fun z2 => ⟨0, _, by decide, tr_errs q3, fun r1 s1 q1 => Or.inl ⟨(2, j + 1), ?_, q1.1, q1.2⟩⟩⟩⟩
        · have k := next 4 (by unfold TokR; exact Or.inr (Or.inr (Or.inr (Or.inr (Or.inl ⟨rfl, by omega⟩))))) (eb (by omega) (by omega)) r1 s1 q1
          exact ⟨k.1, fun y => ⟨rv_, fun w => absurd w z, fun _ => k.2.1 y⟩, k.2.2⟩
        · have k := next 5 (by unfold TokR; exact Or.inr (Or.inr (Or.inr (Or.inr (Or.inr (Or.inl ⟨rfl, by omega⟩)))))) (eb (by omega) (by omega)) r1 s1 q1
          exact ⟨k.1, fun y => ⟨rv_, fun _ => k.2.1 y, fun w => absurd z w⟩, k.2.2⟩
        · have e2 : unitG T (T j) (j + 1) m = .inl (2, j + 1) := by
            unfold unitG
            rw [if_neg (by omega), if_pos (by omega)]
          rw [eR, Rs.go_l e2]
      have noNum : ∀ s3 : Sto, RQ T pl en u s3 (j + 1) m o st → j < N → T j = 10104 → s3 75 27 ≠ 3 → CallI LY 4 MX12_errs [.inr 75, .inl 1] s3 (fun r4 s4 => PR T pl en u o st (prodG T f i l) r4 s4) := fun s3 q3 jN hj4 z => ⟨0, _, by decide, tr_errs q3, fun r1 s1 q1 => Or.inl ⟨(1, j + 1), by
        have tn3 := q3.2.2.2.1.2.2.n
        have e2 : unitG T (T j) (j + 1) m = .inl (1, j + 1) := if_pos (by omega)
        rw [hR]
        have e3 : prodL T (g + 1) j m = (unitG T (T j) (j + 1) m).go (fun j' m' => prodL T g j' (m' ++ [T j])) := if_pos (by omega)
        rw [e3, Rs.go_l e2], q1.1, q1.2⟩⟩
      refine kb_X12_readProduct_10 C r ⟨0, _, by decide, tr_isSign q (by decide), ?_⟩
      rintro r1 s1 ⟨hs1, b1, b2⟩
      rw [hs1]
      refine ⟨⟨by omega, by omega⟩, fun z => ⟨0, _, by decide, tr_isSign q (by decide), ?_⟩, fun z => ⟨0, _, by decide, tr_isSign q (by decide), ?_⟩⟩
      · rintro r2 s2 ⟨hs2, d1, d2⟩
        rw [hs2]
        have a1 := b2.mp (by omega)
        have a2 := s42.mp a1
        have jN : j < N := RQ.ne hr hj (by omega)
        refine ⟨2, _, by decide, hr.1 S' j m o st q jN, fun s3 q3 => ⟨⟨by omega, by omega⟩, fun y => k57 r2 s3 q3 jN (by omega), fun y => absurd (d2.mpr a1) (by omega)⟩⟩
      · rintro r5 s5 ⟨hs5, d1, d2⟩
        rw [hs5]
        refine ⟨⟨by omega, by omega⟩, fun y => stop (by omega), fun y => ⟨0, _, by decide, tr_isSign q (by decide), ?_⟩⟩
        rintro r6 s6 ⟨hs6, f1, f2⟩
        rw [hs6]
        have a1 := d2.mp (by omega)
        have a2 := s47.mp a1
        have jN : j < N := RQ.ne hr hj (by omega)
        refine ⟨2, _, by decide, hr.1 S' j m o st q jN, fun s7 q7 => ⟨⟨by omega, by omega⟩, fun x => absurd (f2.mp (by omega)) (by omega), fun x => ⟨q7.2.2.2.1.2.2.rgs.1, fun x2 => k57 r6 s7 q7 jN (by omega), fun x2 => noNum s7 q7 jN (by omega) x2⟩⟩⟩
  refine kb_X12_readProduct_0 C r ⟨3, _, by decide, tr_readUnit hr h hi hl, fun r1 s1 q1 => ⟨q1.bd, fun z => ?_, fun z => ?_⟩⟩
  · obtain ⟨j, m, p1, p2⟩ := q1.good z
    obtain ⟨g1, g2, g3, _⟩ := unitG_ok hE hi p1
    refine loop f j m s1 ?_ p2 (by omega) ?_ (by omega)
    · unfold prodG; rw [Rs.go_r p1]
    · rw [g3, List.length_append, List.length_singleton]; omega
  · obtain ⟨e, p1, p2⟩ := q1.bad z
    exact Or.inl ⟨e, by unfold prodG; rw [Rs.go_l p1], rfl, p2⟩
