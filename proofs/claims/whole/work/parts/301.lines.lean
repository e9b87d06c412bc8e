/-! TEXT: LINES in the class -/
def lineG (T : Nat → Int) (n i : Nat) (l : List Int) : Rs := if T i ≠ 10000 ∧ T i ≠ 10001 then .inl (1, i) else if 16 ≤ n then .inl (3, i) else if T (i + 1) = 10002 then (condG T 401 0 (i + 2) l).go (fun j m => if T j = 10100 then .inr (j + 1, m) else .inl (1, j)) else if T (i + 1) = 10100 then .inr (i + 2, l) else .inl (1, i + 1)
abbrev Rt : Type := (Int × Nat) ⊕ (List (Int × Int) × List Int)
def Rs.to (r : Rs) (k : Nat → List Int → Rt) : Rt := match r with
  | .inl e => .inl e
  | .inr (i, l) => k i l
theorem Rs.to_l {e : Int × Nat} {k : Nat → List Int → Rt} {r : Rs} (h : r = .inl e) : r.to k = .inl e := by rw [h]; rfl
theorem Rs.to_r {i : Nat} {l : List Int} {k : Nat → List Int → Rt} {r : Rs} (h : r = .inr (i, l)) : r.to k = k i l := by rw [h]; rfl
def txtG (T : Nat → Int) : Nat → Nat → List (Int × Int) → List Int → Rt
  | 0, _, _, _ => .inl (0, 0)
  | f + 1, i, q, l => if T i = 10200 then .inr (q, l) else (lineG T q.length i l).to (fun j m => txtG T f j (q ++ [(T i, (m.length : Int))]) m)
theorem lineG_ok {T : Nat → Int} {N n i j : Nat} {l m : List Int} (hN : T N = 10200) (hi : i < N) (h : lineG T n i l = .inr (j, m)) : i + 2 ≤ j ∧ j ≤ N ∧ n < 16 ∧ m.length + i ≤ l.length + j ∧ (T i = 10000 ∨ T i = 10001) := by
  unfold lineG at h
  by_cases c1 : T i ≠ 10000 ∧ T i ≠ 10001
  · rw [if_pos c1] at h; cases h
  · rw [if_neg c1] at h
    by_cases c2 : 16 ≤ n
    · rw [if_pos c2] at h; cases h
    · rw [if_neg c2] at h
      by_cases c3 : T (i + 1) = 10002
      · rw [if_pos c3] at h
        have e1 : i + 1 ≠ N := fun z => by rw [z, hN] at c3; omega
        obtain ⟨j', m', u1, u2⟩ := Rs.go_inv h
        have ok := condG_ok hN (by omega) u1
        by_cases c4 : T j' = 10100
        · rw [if_pos c4] at u2
          have e2 : j' ≠ N := fun z => by rw [z, hN] at c4; omega
          have h' : (j' + 1, m') = (j, m) := by injection u2
          have h1 : j' + 1 = j := by injection h'
          have h2 : m' = m := by injection h'
          rw [← h2]
          omega
        · rw [if_neg c4] at u2; cases u2
      · rw [if_neg c3] at h
        by_cases c4 : T (i + 1) = 10100
        · rw [if_pos c4] at h
          have e2 : i + 1 ≠ N := fun z => by rw [z, hN] at c4; omega
          have h' : (i + 2, l) = (j, m) := by injection h
          have h1 : i + 2 = j := by injection h'
          have h2 : l = m := by injection h'
          rw [← h2]
          omega
        · rw [if_neg c4] at h; cases h
/-- the reader at TOKEN i, the LINES q and the code l written -/
def LQ (u S : Sto) (i : Nat) (q : List (Int × Int)) (l : List Int) : Prop := (∀ c : Nat, c ≠ 39 → c ≠ 42 → c ≠ 43 → c ≠ 44 → c ≠ 45 → S c = u c) ∧ S 39 3 = i ∧ S 42 0 = q.length ∧ S 42 1 = l.length ∧ (∀ k : Nat, k < l.length → S 45 (k : Int) = l.getD k 0) ∧ (∀ k : Nat, k < q.length → S 43 (k : Int) = (q.getD k (0, 0)).1 ∧ S 44 (k : Int) = (q.getD k (0, 0)).2) ∧ S 39 4 = 0 ∧ S 39 5 = -1
def FT (pl : Nat → Int) (u S : Sto) (e : Int × Nat) : Prop := (∀ c : Nat, c ≠ 39 → c ≠ 42 → c ≠ 43 → c ≠ 44 → c ≠ 45 → S c = u c) ∧ S 39 4 = e.1 ∧ S 39 5 = pl e.2
theorem LQ.cq {u S : Sto} {i : Nat} {q : List (Int × Int)} {l : List Int} (h : LQ u S i q l) : CQ S S i l := ⟨fun _ _ _ _ => rfl, h.2.1, rfl, h.2.2.2.1, h.2.2.2.2.1, rfl, rfl⟩
theorem LQ.tq {T pl : Nat → Int} {N : Nat} {u S : Sto} {i : Nat} {q : List (Int × Int)} {l : List Int} (hT : TQ T pl N u) (h : LQ u S i q l) : TQ T pl N S := by
  refine ⟨fun k hk => ?_, hT.2⟩
  rw [h.1 40 (by decide) (by decide) (by decide) (by decide) (by decide), h.1 41 (by decide) (by decide) (by decide) (by decide) (by decide)]
  exact hT.1 k hk
/-- code is added, nothing else -/
theorem LQ.of {u S S' : Sto} {i j : Nat} {q : List (Int × Int)} {l m : List Int} (h : LQ u S i q l) (c : CQ S S' j m) : LQ u S' j q m := by
  obtain ⟨h1, h2, h3, h4, h5, h6, h7, h8⟩ := h
  obtain ⟨c1, c2, c3, c4, c5, c6, c7⟩ := c
  refine ⟨fun k a1 a2 a3 a4 a5 => by rw [c1 k a1 a2 a5, h1 k a1 a2 a3 a4 a5], c2, by rw [c3, h3], c4, c5, fun k hk => ?_, by rw [c6, h7], by rw [c7, h8]⟩
  rw [c1 43 (by decide) (by decide) (by decide), c1 44 (by decide) (by decide) (by decide)]
  exact h6 k hk
theorem LQ.ft {pl : Nat → Int} {u S S' : Sto} {i : Nat} {q : List (Int × Int)} {l : List Int} {e : Int × Nat} (h : LQ u S i q l) (f : FQ pl S S' e) : FT pl u S' e := ⟨fun k a1 a2 a3 a4 a5 => by rw [f.1 k a1 a2 a5, h.1 k a1 a2 a3 a4 a5], f.2.1, f.2.2.1⟩
theorem t_X4_closeLine {u S : Sto} {i : Nat} {q : List (Int × Int)} {l : List Int} {x : Int} (h : LQ u S i q l) (hq : q.length < 16) : ClV LY 0 MX4_closeLine [.inr 42, .inl x] S (fun S' => LQ u S' i (q ++ [(x, (l.length : Int))]) l) := by
  obtain ⟨h1, h2, h3, h4, h5, h6, h7, h8⟩ := h
  refine ClV.intro (by decide) rfl (Nat.le_of_ble_eq_true rfl) (fun X C r => ?_)
  refine kb_X4_closeLine_0 C r ?_
  rw [h3]
  refine ⟨⟨by omega, by omega⟩, fun z => absurd z (by omega), fun _ => ⟨⟨by omega, by omega⟩, ?_⟩⟩
  rintro s1 hs1
  have a0 : s1 42 0 = q.length := by rw [hs1, up_row (by decide), h3]
  have a1 : s1 42 1 = l.length := by rw [hs1, up_row (by decide), h4]
  rw [a0, a1]
  refine ⟨⟨by omega, by omega⟩, ?_⟩
  rintro s2 hs2 s3 hs3
  have b0 : s2 42 0 = q.length := by rw [hs2, up_row (by decide), a0]
  rw [b0] at hs3
  have row : ∀ c : Nat, c ≠ 42 → c ≠ 43 → c ≠ 44 → s3 c = S c := fun c c1 c2 c3 => by rw [hs3, up_row c1, hs2, up_row c3, hs1, up_row c2]
  refine ⟨fun c c1 c2 c3 c4 c5 => by rw [row c c2 c3 c4, h1 c c1 c2 c3 c4 c5], by rw [row 39 (by decide) (by decide) (by decide), h2], ?_, ?_, fun k hk => by rw [row 45 (by decide) (by decide) (by decide), h5 k hk], fun k hk => ?_, by rw [row 39 (by decide) (by decide) (by decide), h7], by rw [row 39 (by decide) (by decide) (by decide), h8]⟩
  · rw [hs3, up_at, List.length_append, List.length_singleton]; omega
  · rw [hs3, up_idx (by decide), hs2, up_row (by decide), a1]
  · rw [List.length_append, List.length_singleton] at hk
    have e43 : s3 43 (k : Int) = if (k : Int) = q.length then x else S 43 (k : Int) := by rw [hs3, up_row (by decide), hs2, up_row (by decide), hs1, up_if]
    have e44 : s3 44 (k : Int) = if (k : Int) = q.length then (l.length : Int) else S 44 (k : Int) := by rw [hs3, up_row (by decide), hs2, up_if, hs1, up_row (by decide)]
    rw [e43, e44]
    by_cases e : k = q.length
    · rw [if_pos (by omega), if_pos (by omega), e]
      simp
    · rw [if_neg (by omega), if_neg (by omega)]
      have g := h6 k (by omega)
      rw [List.getD_eq_getElem?_getD, List.getElem?_append_left (by omega), ← List.getD_eq_getElem?_getD]
      exact g
def PL (T pl : Nat → Int) (u : Sto) (i : Nat) (q : List (Int × Int)) (R : Rs) (r : Int) (S : Sto) : Prop := (∃ e : Int × Nat, R = .inl e ∧ r = 0 ∧ FT pl u S e) ∨ ∃ (j : Nat) (m : List Int), R = .inr (j, m) ∧ r = 1 ∧ LQ u S j (q ++ [(T i, (m.length : Int))]) m
set_option maxHeartbeats 8000000 in
theorem t_X8_readLine {T pl : Nat → Int} {N : Nat} {u S : Sto} {i : Nat} {q : List (Int × Int)} {l : List Int} (hT : TQ T pl N u) (h : LQ u S i q l) (hi : i < N) (hl : l.length ≤ i) (hq : q.length ≤ 16) : ClI LY 29 MX8_readLine [.inr 39] S (PL T pl u i q (lineG T q.length i l)) := by
  have hN := hT.2.2
  have hE := hT.2.1
  have hS := h.tq hT
  have hc := h.cq
  obtain ⟨e1, e2, e3, e4, e5⟩ := hc.tok hS (by omega)
  have e0 : S 42 0 = q.length := h.2.2.1
  have r0 : rg (q.length : Int) := ⟨by omega, by omega⟩
  refine ClI.introZ (by decide) rfl (Nat.le_of_ble_eq_true rfl) (fun X C r => ?_)
  have fail : ∀ (k : Int) (S' : Sto) (j : Nat) (m : List Int), CQ S S' j m → j ≤ N → m.length ≤ 400 → lineG T q.length i l = .inl (k, j) → CallI LY 29 MX8_fail [.inr 39, .inl k] S' (fun r4 s4 => (r4 = 0 ∨ r4 = 1) ∧ PL T pl u i q (lineG T q.length i l) r4 s4) := fun k S' j m c hj hm hk => ⟨0, _, by decide, t_X8_fail hS c hj hm, fun r4 s4 q4 => ⟨Or.inl q4.1, Or.inl ⟨(k, j), hk, q4.1, h.ft q4.2⟩⟩⟩
  have go : ∀ (S' : Sto) (j : Nat) (m : List Int), CQ S S' j m → j < N → CallV LY 29 MX8_goOn [.inr 39] S' (fun s4 => CQ S s4 (j + 1) m) := fun S' j m c hj => ⟨0, _, by decide, t_X8_goOn c (by omega), fun _ q => q⟩
  have close : ∀ (S' : Sto) (j : Nat) (m : List Int), CQ S S' j m → j < N → q.length < 16 → lineG T q.length i l = .inr (j + 1, m) → CallV LY 29 MX8_goOn [.inr 39] S' (fun s2 => CallV LY 29 MX4_closeLine [.inr 42, .inl (T i)] s2 (fun s3 => PL T pl u i q (lineG T q.length i l) 1 s3)) := fun S' j m c hj h16 hk => by
    obtain ⟨d0, Q0, a0, c0, k0⟩ := go S' j m c hj
    exact ⟨d0, Q0, a0, c0, fun s2 q2 => ⟨0, _, by decide, t_X4_closeLine (x := T i) (h.of (k0 s2 q2)) h16, fun s3 q3 => Or.inr ⟨j + 1, m, hk, rfl, q3⟩⟩⟩
  have body : T i = 10000 ∨ T i = 10001 → q.length < 16 → ∀ s1 : Sto, CQ S s1 (i + 1) l → ((0 ≤ s1 39 3 ∧ s1 39 3 < 401) ∧ rg (s1 40 (s1 39 3)) ∧ (s1 40 (s1 39 3) ≠ 10002 → (0 ≤ s1 39 3 ∧ s1 39 3 < 401) ∧ rg (s1 40 (s1 39 3)) ∧ (s1 40 (s1 39 3) = 10100 → CallV LY 29 MX8_goOn [.inr 39] s1 (fun s2 => CallV LY 29 MX4_closeLine [.inr 42, .inl (T i)] s2 (fun s3 => PL T pl u i q (lineG T q.length i l) 1 s3))) ∧ (s1 40 (s1 39 3) ≠ 10100 → CallI LY 29 MX8_fail [.inr 39, .inl 1] s1 (fun r4 s4 => (r4 = 0 ∨ r4 = 1) ∧ PL T pl u i q (lineG T q.length i l) r4 s4))) ∧ (s1 40 (s1 39 3) = 10002 → CallV LY 29 MX8_goOn [.inr 39] s1 (fun s5 => CallI LY 29 MX8_readCondition [.inr 39, .inl 0] s5 (fun r6 s6 => rg r6 ∧ (r6 ≠ 0 → (0 ≤ s6 39 3 ∧ s6 39 3 < 401) ∧ rg (s6 40 (s6 39 3)) ∧ (s6 40 (s6 39 3) = 10100 → CallV LY 29 MX8_goOn [.inr 39] s6 (fun s7 => CallV LY 29 MX4_closeLine [.inr 42, .inl (T i)] s7 (fun s8 => PL T pl u i q (lineG T q.length i l) 1 s8))) ∧ (s6 40 (s6 39 3) ≠ 10100 → CallI LY 29 MX8_fail [.inr 39, .inl 1] s6 (fun r9 s9 => (r9 = 0 ∨ r9 = 1) ∧ PL T pl u i q (lineG T q.length i l) r9 s9))) ∧ (r6 = 0 → PL T pl u i q (lineG T q.length i l) 0 s6))))) := fun t1 h16 s1 c1 => by
    obtain ⟨w1, w2, w3, w4, w5⟩ := c1.tok hS (by omega)
    rw [w1, w2]
    have n1 : ¬ (T i ≠ 10000 ∧ T i ≠ 10001) := by omega
    have n2 : ¬ 16 ≤ q.length := by omega
    refine ⟨w3, w4, fun z => ⟨w3, w4, fun z2 => close s1 (i + 1) l c1 ?_ h16 ?_, fun z2 => fail 1 s1 (i + 1) l c1 (by omega) (by omega) ?_⟩, fun z => ?_⟩
    · by_cases e : i + 1 = N
      · rw [e, hE] at z2; omega
      · omega
    · unfold lineG
      rw [if_neg n1, if_neg n2, if_neg z, if_pos z2]
    · unfold lineG
      rw [if_neg n1, if_neg n2, if_neg z, if_neg z2]
    · have i1 : i + 1 < N := by
        by_cases e : i + 1 = N
        · rw [e, hE] at z; omega
        · omega
      obtain ⟨d0, Q0, a0, c0, k0⟩ := go s1 (i + 1) l c1 i1
      refine ⟨d0, Q0, a0, c0, fun s5 q5 => ?_⟩
      have c5 := k0 s5 q5
      have eL : lineG T q.length i l = (condG T 401 0 (i + 2) l).go (fun j m => if T j = 10100 then .inr (j + 1, m) else .inl (1, j)) := by
        unfold lineG
        rw [if_neg n1, if_neg n2, if_pos z]
      have rc := t_X8_readCondition (f := 401) (o := 0) (i := i + 2) (l := l) hS (t_claims hS 401) (by omega) c5 (by omega) (by omega) (by omega)
      refine ⟨_, _, by decide, rc, fun r6 s6 q6 => ⟨q6.bd.1, fun y => ?_, fun y => ?_⟩⟩
      · obtain ⟨j, m, p1, p2⟩ := q6.good y
        have ok := condG_ok hE (by omega) p1
        obtain ⟨x1, x2, x3, x4, x5⟩ := p2.tok hS ok.2.1
        rw [x1, x2]
        refine ⟨x3, x4, fun y2 => close s6 j m p2 ?_ h16 (by rw [eL, Rs.go_r p1, if_pos y2]), fun y2 => fail 1 s6 j m p2 ok.2.1 (by omega) (by rw [eL, Rs.go_r p1, if_neg y2])⟩
        by_cases e : j = N
        · rw [e, hE] at y2; omega
        · omega
      · obtain ⟨e, p1, p2⟩ := q6.bad y
        exact Or.inl ⟨e, by rw [eL, Rs.go_l p1], rfl, h.ft p2⟩
  have many : T i = 10000 ∨ T i = 10001 → 16 ≤ q.length → lineG T q.length i l = .inl (3, i) := fun t1 t2 => by
    unfold lineG
    rw [if_neg (by omega), if_pos t2]
  refine kb_X8_readLine_0 C r ?_
  rw [e1, e2, e0]
  refine ⟨e3, e4, fun z => ⟨r0, fun z2 => ?_, fun z2 => fail 3 S i l hc (by omega) (by omega) (many (Or.inl z) (by omega))⟩, fun z => ⟨e4, fun z1 => ⟨r0, fun z2 => ?_, fun z2 => fail 3 S i l hc (by omega) (by omega) (many (Or.inr z1) (by omega))⟩, fun z1 => fail 1 S i l hc (by omega) (by omega) ?_⟩⟩
  · obtain ⟨d0, Q0, a0, c0, k0⟩ := go S i l hc hi
    exact ⟨d0, Q0, a0, c0, fun s1 q1 => body (Or.inl z) (by omega) s1 (k0 s1 q1)⟩
  · obtain ⟨d0, Q0, a0, c0, k0⟩ := go S i l hc hi
    exact ⟨d0, Q0, a0, c0, fun s1 q1 => body (Or.inr z1) (by omega) s1 (k0 s1 q1)⟩
  · unfold lineG
    rw [if_pos ⟨z, z1⟩]
/-- all LINES -/
theorem t_readAll {T pl : Nat → Int} {N : Nat} {u : Sto} (hT : TQ T pl N u) {X : Cx} {R : Rt} (C : Ok LY X RX8 cX8_read 3 30) (r : RetZ LY X cX8_read (fun r S => (∃ e : Int × Nat, R = .inl e ∧ r = 0 ∧ FT pl u S e) ∨ ∃ (i : Nat) (q : List (Int × Int)) (l : List Int), R = .inr (q, l) ∧ r = 1 ∧ LQ u S i q l ∧ q.length ≤ 16 ∧ l.length ≤ 400)) : ∀ (f i : Nat) (q : List (Int × Int)) (l : List Int) (v2 : Int) (S : Sto), R = txtG T f i q l → LQ u S i q l → i ≤ N → N - i < f → l.length ≤ i → q.length ≤ 16 → (0 ≤ v2 ∧ v2 ≤ i) → G LY X 29 [rv 39, rv 1, iv v2] [] S := by
  have hN := hT.2.2
  have hE := hT.2.1
  intro f
  induction f with
  | zero => intro i q l v2 S _ _ _ hf; omega
  | succ f ih =>
    intro i q l v2 S hR h hi hf hl hq hv
    obtain ⟨e1, e2, e3, e4, e5⟩ := h.cq.tok (h.tq hT) hi
    have fin : T i = 10200 → R = .inr (q, l) := fun z => by rw [hR]; exact if_pos z
    refine kb_X8_read_29 C r ?_
    rw [e1, e2]
    refine ⟨⟨by omega, by omega⟩, fun z => Or.inr ⟨i, q, l, fin ?_, rfl, h, hq, by omega⟩, fun _ => ⟨e3, e4, fun z => Or.inr ⟨i, q, l, fin z, rfl, h, hq, by omega⟩, fun z => ?_⟩⟩
    · rw [show i = N by omega]; exact hE
    · have iN : i < N := by
        by_cases e : i = N
        · rw [e] at z; exact absurd hE z
        · omega
      have eR : R = (lineG T q.length i l).to (fun j m => txtG T f j (q ++ [(T i, (m.length : Int))]) m) := by rw [hR]; exact if_neg z
      refine ⟨29, _, by decide, t_X8_readLine hT h iN hl hq, fun r1 s1 q1 => ?_⟩
      rcases q1 with ⟨e, p1, p2, p3⟩ | ⟨j, m, p1, p2, p3⟩
      · rw [p2]
        exact ⟨by decide, fun y => absurd rfl y, fun _ => Or.inl ⟨e, by rw [eR, Rs.to_l p1], rfl, p3⟩⟩
      · have ok := lineG_ok hE iN p1
        rw [p2]
        refine ⟨by decide, fun _ => ih j (q ++ [(T i, (m.length : Int))]) m (v2 + 1) s1 (by rw [eR, Rs.to_r p1]) p3 (by omega) (by omega) (by omega) ?_ (by omega), fun y => absurd y (by decide)⟩
        rw [List.length_append, List.length_singleton]; omega
