/-! TEXT: the class's reader over its TOKENS -/
theorem Rs.go_go (r : Rs) (k k' : Nat → List Int → Rs) : (r.go k).go k' = r.go (fun i l => (k i l).go k') := by
  rcases r.ex with ⟨e, he⟩ | ⟨i, l, he⟩
  · rw [he]; rfl
  · rw [he]; rfl
/-- a condition: a claim and what is joined to it -/
def condG (T : Nat → Int) (f o i : Nat) (l : List Int) : Rs := (cndG T f true (-1) o i l).go (fun j m => cndG T f false (-1) o j m)
theorem condG_ok {T : Nat → Int} {N f o i j : Nat} {l m : List Int} (hN : T N = 10200) (hi : i ≤ N) (h : condG T f o i l = .inr (j, m)) : i < j ∧ j ≤ N ∧ m.length + i ≤ l.length + j := by
  unfold condG at h
  obtain ⟨i', l', u1, u2⟩ := Rs.go_inv h
  have a := cndG_ok hN f true (-1) o i i' l l' hi u1
  have b := cndG_ok hN f false (-1) o i' j l' m (by omega) u2
  rw [if_pos (Or.inl rfl)] at a
  rw [if_pos (Or.inr rfl)] at b
  have := a.1 rfl
  omega
/-- TOKENS T with their places pl, N of them and the end -/
def TQ (T pl : Nat → Int) (N : Nat) (u : Sto) : Prop := (∀ k : Nat, k ≤ N → u 40 (k : Int) = T k ∧ u 41 (k : Int) = pl k ∧ 0 ≤ T k ∧ T k ≤ 10201) ∧ T N = 10200 ∧ N ≤ 400
/-- the reader at TOKEN i, the code l written -/
def CQ (u S : Sto) (i : Nat) (l : List Int) : Prop := (∀ c : Nat, c ≠ 39 → c ≠ 42 → c ≠ 45 → S c = u c) ∧ S 39 3 = i ∧ S 42 0 = u 42 0 ∧ S 42 1 = l.length ∧ (∀ k : Nat, k < l.length → S 45 (k : Int) = l.getD k 0) ∧ S 39 4 = u 39 4 ∧ S 39 5 = u 39 5
def FQ (pl : Nat → Int) (u S : Sto) (e : Int × Nat) : Prop := (∀ c : Nat, c ≠ 39 → c ≠ 42 → c ≠ 45 → S c = u c) ∧ S 39 4 = e.1 ∧ S 39 5 = pl e.2 ∧ 0 ≤ S 42 1 ∧ S 42 1 ≤ 400
def PO (pl : Nat → Int) (u : Sto) (R : Rs) (r : Int) (S : Sto) : Prop := (∃ e : Int × Nat, R = .inl e ∧ r = 0 ∧ FQ pl u S e) ∨ ∃ (i : Nat) (l : List Int), R = .inr (i, l) ∧ r = 1 ∧ CQ u S i l
theorem PO.bd {pl : Nat → Int} {u S : Sto} {R : Rs} {r : Int} (h : PO pl u R r S) : rg r ∧ (r = 0 ∨ r = 1) := by
  rcases h with ⟨e, _, h, _⟩ | ⟨i, l, _, h, _⟩
  · rw [h]; decide
  · rw [h]; decide
theorem PO.bad {pl : Nat → Int} {u S : Sto} {R : Rs} {r : Int} (h : PO pl u R r S) (hr : r = 0) : ∃ e : Int × Nat, R = .inl e ∧ FQ pl u S e := by
  rcases h with ⟨e, h1, _, h2⟩ | ⟨i, l, _, h, _⟩
  · exact ⟨e, h1, h2⟩
  · omega
theorem PO.good {pl : Nat → Int} {u S : Sto} {R : Rs} {r : Int} (h : PO pl u R r S) (hr : r ≠ 0) : ∃ (i : Nat) (l : List Int), R = .inr (i, l) ∧ CQ u S i l := by
  rcases h with ⟨e, _, h, _⟩ | ⟨i, l, h1, _, h2⟩
  · omega
  · exact ⟨i, l, h1, h2⟩
theorem t_X4_add {u S : Sto} {i : Nat} {l : List Int} {x : Int} (h : CQ u S i l) (hx : rg x) (hl : x ≠ -1 → l.length < 400) : ClV LY 0 MX4_add [.inr 42, .inl x] S (fun S' => CQ u S' i (adw l x)) := by
  obtain ⟨h1, h2, h3, h4, h5, h6, h7⟩ := h
  refine ClV.intro (by decide) rfl (Nat.le_of_ble_eq_true rfl) (fun X C r => ?_)
  refine kb_X4_add_0 C r ?_
  rw [h4]
  unfold adw
  by_cases q : x = -1
  · rw [if_pos q]
    exact ⟨hx, fun _ => ⟨h1, h2, h3, h4, h5, h6, h7⟩, fun z => absurd q z⟩
  · have hl' := hl q
    rw [if_neg q]
    refine ⟨hx, fun z => absurd z q, fun _ => ⟨⟨by omega, by omega⟩, fun z => absurd z (by omega), fun _ => ⟨⟨by omega, by omega⟩, ?_⟩⟩⟩
    rintro s1 hs1 s2 hs2
    have e42 : s1 42 1 = l.length := by rw [hs1, up_row (by decide), h4]
    rw [e42] at hs2
    refine ⟨fun c c1 c2 c3 => by rw [hs2, up_row c2, hs1, up_row c3, h1 c c1 c2 c3], by rw [hs2, up_row (by decide), hs1, up_row (by decide), h2], by rw [hs2, up_idx (by decide), hs1, up_row (by decide), h3], ?_, fun k hk => ?_, by rw [hs2, up_row (by decide), hs1, up_row (by decide), h6], by rw [hs2, up_row (by decide), hs1, up_row (by decide), h7]⟩
    · rw [hs2, up_at, List.length_append, List.length_singleton]; omega
    · rw [List.length_append, List.length_singleton] at hk
      rw [hs2, up_row (by decide), hs1, up_if]
      by_cases e : k = l.length
      · rw [if_pos (by omega), e]
        simp
      · rw [if_neg (by omega), h5 k (by omega), List.getD_eq_getElem?_getD, List.getD_eq_getElem?_getD, List.getElem?_append_left (by omega)]
theorem t_X8_goOn {u S : Sto} {i : Nat} {l : List Int} (h : CQ u S i l) (hi : i < 400) : ClV LY 0 MX8_goOn [.inr 39] S (fun S' => CQ u S' (i + 1) l) := by
  obtain ⟨h1, h2, h3, h4, h5, h6, h7⟩ := h
  refine ClV.intro (by decide) rfl (Nat.le_of_ble_eq_true rfl) (fun X C r => ?_)
  refine kb_X8_goOn_0 C r ?_
  rw [h2]
  refine ⟨⟨by omega, by omega⟩, fun z => absurd z (by omega), fun _ => ?_⟩
  rintro s1 hs1
  refine ⟨fun c c1 c2 c3 => by rw [hs1, up_row c1, h1 c c1 c2 c3], by rw [hs1, up_at]; omega, by rw [hs1, up_row (by decide), h3], by rw [hs1, up_row (by decide), h4], fun k hk => by rw [hs1, up_row (by decide), h5 k hk], by rw [hs1, up_idx (by decide), h6], by rw [hs1, up_idx (by decide), h7]⟩
theorem t_X8_fail {T pl : Nat → Int} {N : Nat} {u S : Sto} {i : Nat} {l : List Int} {k : Int} (hT : TQ T pl N u) (h : CQ u S i l) (hi : i ≤ N) (hl : l.length ≤ 400) : ClI LY 0 MX8_fail [.inr 39, .inl k] S (fun r S' => r = 0 ∧ FQ pl u S' (k, i)) := by
  obtain ⟨h1, h2, h3, h4, h5, h6, h7⟩ := h
  have hN := hT.2.2
  refine ClI.introZ (by decide) rfl (Nat.le_of_ble_eq_true rfl) (fun X C r => ?_)
  refine kb_X8_fail_0 C r ?_
  rintro s1 hs1
  have e3 : s1 39 3 = i := by rw [hs1, up_idx (by decide), h2]
  have e41 : s1 41 (i : Int) = pl i := by rw [hs1, up_row (by decide), h1 41 (by decide) (by decide) (by decide)]; exact (hT.1 i hi).2.1
  rw [e3, e41]
  refine ⟨⟨by omega, by omega⟩, ?_⟩
  rintro s2 hs2
  exact ⟨rfl, fun c c1 c2 c3 => by rw [hs2, up_row c1, hs1, up_row c1, h1 c c1 c2 c3], by rw [hs2, up_idx (by decide), hs1, up_at], by rw [hs2, up_at], by rw [hs2, up_row (by decide), hs1, up_row (by decide), h4]; omega⟩
/-- after a fault nothing else is told -/
theorem t_X4_addF {pl : Nat → Int} {u S : Sto} {e : Int × Nat} {x : Int} (h : FQ pl u S e) (hx : rg x) : ClV LY 0 MX4_add [.inr 42, .inl x] S (fun S' => FQ pl u S' e) := by
  obtain ⟨h1, h2, h3, h4⟩ := id h
  refine ClV.intro (by decide) rfl (Nat.le_of_ble_eq_true rfl) (fun X C r => ?_)
  refine kb_X4_add_0 C r ⟨hx, fun _ => h, fun z => ⟨⟨by omega, by omega⟩, fun _ => h, fun z2 => ⟨⟨by omega, z2⟩, ?_⟩⟩⟩
  rintro s1 hs1 s2 hs2
  have e42 : s1 42 1 = S 42 1 := by rw [hs1, up_row (by decide)]
  rw [e42] at hs2
  exact ⟨fun c c1 c2 c3 => by rw [hs2, up_row c2, hs1, up_row c3, h1 c c1 c2 c3], by rw [hs2, up_row (by decide), hs1, up_row (by decide), h2], by rw [hs2, up_row (by decide), hs1, up_row (by decide), h3], by rw [hs2, up_at]; omega⟩
/-- the TOKEN at hand -/
theorem CQ.tok {T pl : Nat → Int} {N : Nat} {u S : Sto} {i : Nat} {l : List Int} (hT : TQ T pl N u) (h : CQ u S i l) (hi : i ≤ N) : S 39 3 = i ∧ S 40 (i : Int) = T i ∧ (0 ≤ (i : Int) ∧ (i : Int) < 401) ∧ rg (T i) ∧ 0 ≤ T i := by
  have hN := hT.2.2
  have g := hT.1 i hi
  refine ⟨h.2.1, by rw [h.1 40 (by decide) (by decide) (by decide)]; exact g.1, by omega, ⟨by omega, by omega⟩, g.2.2.1⟩
set_option maxHeartbeats 4000000 in
theorem t_X8_readUnit {T pl : Nat → Int} {N : Nat} {u S : Sto} {i : Nat} {l : List Int} {b : Int} (hT : TQ T pl N u) (h : CQ u S i l) (hi : i ≤ N) (hl : l.length ≤ i) (hb : rg b) : ClI LY 1 MX8_readUnit [.inr 39, .inl b] S (PO pl u (unitG T b i l)) := by
  obtain ⟨e1, e2, e3, e4, e5⟩ := h.tok hT hi
  have hN := hT.2.2
  have hE := hT.2.1
  refine ClI.introZ (by decide) rfl (Nat.le_of_ble_eq_true rfl) (fun X C r => ?_)
  -- both ends
  have bad : ∀ (k : Int) (P : Int → Sto → Prop), unitG T b i l = .inl (k, i) → (∀ r S', PO pl u (unitG T b i l) r S' → P r S') → CallI LY 1 MX8_fail [.inr 39, .inl k] S (fun r S' => (r = 0 ∨ r = 1) ∧ P r S') := fun k P hk hP => ⟨0, _, by decide, t_X8_fail hT h hi (by omega), fun r S' hq => ⟨Or.inl hq.1, hP r S' (Or.inl ⟨(k, i), hk, hq.1, hq.2⟩)⟩⟩
  have good : ∀ (P : Sto → Prop), unitG T b i l = .inr (i + 1, l ++ [T i]) → (∀ S', CQ u S' (i + 1) (l ++ [T i]) → P S') → CallV LY 1 MX8_goOn [.inr 39] S (fun s1 => CallV LY 1 MX4_add [.inr 42, .inl (T i)] s1 P) := fun P hk hP => by
    have iN : i ≠ N := fun z => by
      have := unitG_ok hE hi hk
      omega
    refine ⟨0, _, by decide, t_X8_goOn h (by omega), fun s1 q1 => ⟨0, _, by decide, t_X4_add q1 e4 (fun _ => by omega), fun s2 q2 => hP s2 ?_⟩⟩
    have : adw l (T i) = l ++ [T i] := if_neg (by omega)
    rw [this] at q2
    exact q2
  have u1 : 10000 ≤ T i ∧ (¬ (10006 ≤ T i ∧ T i ≤ 10015) ∨ b = 10104) → unitG T b i l = .inl (1, i) := fun q => if_pos q
  have u2 : ¬ (10000 ≤ T i ∧ (¬ (10006 ≤ T i ∧ T i ≤ 10015) ∨ b = 10104)) → T i = 0 ∧ b = 10104 → unitG T b i l = .inl (2, i) := fun q q2 => by
    unfold unitG; rw [if_neg q, if_pos q2]
  have u3 : ¬ (10000 ≤ T i ∧ (¬ (10006 ≤ T i ∧ T i ≤ 10015) ∨ b = 10104)) → ¬ (T i = 0 ∧ b = 10104) → unitG T b i l = .inr (i + 1, l ++ [T i]) := fun q q2 => by
    unfold unitG; rw [if_neg q, if_neg q2]
  have fin : ∀ S', CQ u S' (i + 1) (l ++ [T i]) → unitG T b i l = .inr (i + 1, l ++ [T i]) → PO pl u (unitG T b i l) 1 S' := fun S' q e => Or.inr ⟨_, _, e, rfl, q⟩
  have k41 : ∀ v3 : Int, ((v3 = 1 ∧ T i < 10000) ∨ (v3 = 0 ∧ 10000 ≤ T i ∧ ¬ (10006 ≤ T i ∧ T i ≤ 10015))) → G LY X 41 [rv 39, iv b, iv (T i), iv v3, none] [] S := fun v3 hv => by
    refine kb_X8_readUnit_41 C r ⟨⟨by omega, by omega⟩, fun z => ⟨e4, fun z2 => good _ (u3 (by omega) (by omega)) (fun S' q => fin S' q (u3 (by omega) (by omega))), fun z2 => ⟨hb, fun z3 => good _ (u3 (by omega) (by omega)) (fun S' q => fin S' q (u3 (by omega) (by omega))), fun z3 => bad 2 _ (u2 (by omega) (by omega)) (fun r S' q => q)⟩⟩, fun z => bad 1 _ (u1 (by omega)) (fun r S' q => q)⟩
  refine kb_X8_readUnit_0 C r ?_
  rw [e1, e2]
  refine ⟨e3, e4, fun z => ⟨e4, fun z2 => k41 0 (by omega), fun z2 => ⟨e4, fun z3 => k41 0 (by omega), fun z3 => ⟨hb, fun z4 => ⟨e4, fun z5 => good _ (u3 (by omega) (by omega)) (fun S' q => fin S' q (u3 (by omega) (by omega))), fun z5 => absurd z5 (by omega)⟩, fun z4 => bad 1 _ (u1 (by omega)) (fun r S' q => q)⟩⟩⟩, fun z => ⟨e4, fun z2 => k41 1 (by omega), fun z2 => absurd z2 (by omega)⟩⟩
