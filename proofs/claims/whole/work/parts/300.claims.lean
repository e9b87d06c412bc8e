/-! TEXT: sums, claims, conditions in the class -/
set_option maxHeartbeats 8000000 in
theorem t_X8_readSum {T pl : Nat → Int} {N f : Nat} {u S : Sto} {i : Nat} {l : List Int} (hT : TQ T pl N u) (h : CQ u S i l) (hi : i ≤ N) (hl : l.length ≤ i) (hf : N - i < f) : ClI LY 2 MX8_readSum [.inr 39] S (PO pl u (sumG T f i l)) := by
  have hN := hT.2.2
  have hE := hT.2.1
  refine ClI.introZ (by decide) rfl (Nat.le_of_ble_eq_true rfl) (fun X C r => ?_)
  have loop : ∀ (g : Nat) (w : Int) (j : Nat) (m : List Int) (v2 : Int) (S' : Sto), sumG T f i l = sumL T g w j m → CQ u S' j m → j ≤ N → N - j < g → m.length + (if w = -1 then 0 else 1) ≤ j → rg w → (0 ≤ v2 ∧ v2 < j) → G LY X 14 [rv 39, iv w, iv v2, none] [] S' := by
    intro g
    induction g with
    | zero => intro w j m v2 S' _ _ _ hg; omega
    | succ g ih =>
      intro w j m v2 S' hR hc hj hg hm rw_ hv
      obtain ⟨e1, e2, e3, e4, e5⟩ := hc.tok hT hj
      have cap : w ≠ -1 → m.length < 400 := fun z => by rw [if_neg z] at hm; omega
      have ml : m.length ≤ j := by split at hm <;> omega
      have ending : ¬ (10101 ≤ T j ∧ T j ≤ 10104) → CallV LY 2 MX4_add [.inr 42, .inl w] S' (fun s1 => PO pl u (sumG T f i l) 1 s1) := fun q => ⟨0, _, by decide, t_X4_add hc rw_ cap, fun s1 q1 => Or.inr ⟨j, adw m w, by rw [hR]; exact if_neg q, rfl, q1⟩⟩
      have jN : 10101 ≤ T j ∧ T j ≤ 10104 → j < N := fun q => by
        by_cases e : j = N
        · rw [e, hE] at q; omega
        · omega
      have plus : ∀ s4 : Sto, CQ u s4 (j + 1) m → 10101 ≤ T j → T j ≤ 10102 → CallV LY 2 MX4_add [.inr 42, .inl w] s4 (fun s5 => CallI LY 2 MX8_readUnit [.inr 39, .inl (T j)] s5 (fun r6 s6 => rg r6 ∧ ((r6 ≠ 0 → G LY X 14 [rv 39, iv (T j), iv (v2 + 1), none] [] s6) ∧ (r6 = 0 → PO pl u (sumG T f i l) 0 s6)))) := fun s4 q4 t1 t2 => by
        have jn := jN ⟨t1, by omega⟩
        have al := adw_len m w
        have al2 : (adw m w).length ≤ j := by
          by_cases z : w = -1
          · have := al.2 z; omega
          · rw [if_neg z] at hm; omega
        refine ⟨0, _, by decide, t_X4_add q4 rw_ cap, fun s5 q5 => ⟨1, _, by decide, t_X8_readUnit hT q5 (by omega) (by omega) e4, fun r6 s6 q6 => ⟨q6.bd.1, fun z => ?_, fun z => ?_⟩⟩⟩
        · obtain ⟨j', m', p1, p2⟩ := q6.good z
          obtain ⟨g1, g2, g3, _⟩ := unitG_ok hE (by omega) p1
          refine ih (T j) j' m' (v2 + 1) s6 ?_ p2 (by omega) (by omega) ?_ e4 (by omega)
          · rw [hR]
            show (if 10101 ≤ T j ∧ T j ≤ 10104 then _ else _) = _
            rw [if_pos ⟨t1, by omega⟩, if_pos t2, Rs.go_r p1]
          · rw [if_neg (by omega), g3, List.length_append, List.length_singleton]; omega
        · obtain ⟨e, p1, p2⟩ := q6.bad z
          refine Or.inl ⟨e, ?_, rfl, p2⟩
          rw [hR]
          show (if 10101 ≤ T j ∧ T j ≤ 10104 then _ else _) = _
          rw [if_pos ⟨t1, by omega⟩, if_pos t2, Rs.go_l p1]
      have times : ∀ s4 : Sto, CQ u s4 (j + 1) m → 10103 ≤ T j → T j ≤ 10104 → CallI LY 2 MX8_readUnit [.inr 39, .inl (T j)] s4 (fun r6 s6 => rg r6 ∧ ((r6 ≠ 0 → CallV LY 2 MX4_add [.inr 42, .inl (T j)] s6 (fun s7 => G LY X 14 [rv 39, iv w, iv (v2 + 1), none] [] s7)) ∧ (r6 = 0 → PO pl u (sumG T f i l) 0 s6))) := fun s4 q4 t1 t2 => by
        have jn := jN ⟨by omega, t2⟩
        refine ⟨1, _, by decide, t_X8_readUnit hT q4 (by omega) (by omega) e4, fun r6 s6 q6 => ⟨q6.bd.1, fun z => ?_, fun z => ?_⟩⟩
        · obtain ⟨j', m', p1, p2⟩ := q6.good z
          obtain ⟨g1, g2, g3, _⟩ := unitG_ok hE (by omega) p1
          have lm : m'.length = m.length + 1 := by rw [g3, List.length_append, List.length_singleton]
          refine ⟨0, _, by decide, t_X4_add p2 e4 (fun _ => by omega), fun s7 q7 => ?_⟩
          have ea : adw m' (T j) = m' ++ [T j] := if_neg (by omega)
          rw [ea] at q7
          refine ih w j' (m' ++ [T j]) (v2 + 1) s7 ?_ q7 (by omega) (by omega) ?_ rw_ (by omega)
          · rw [hR]
            show (if 10101 ≤ T j ∧ T j ≤ 10104 then _ else _) = _
            rw [if_pos ⟨by omega, t2⟩, if_neg (by omega), Rs.go_r p1]
          · rw [List.length_append, List.length_singleton]; omega
        · obtain ⟨e, p1, p2⟩ := q6.bad z
          refine Or.inl ⟨e, ?_, rfl, p2⟩
          rw [hR]
          show (if 10101 ≤ T j ∧ T j ≤ 10104 then _ else _) = _
          rw [if_pos ⟨by omega, t2⟩, if_neg (by omega), Rs.go_l p1]
      refine kb_X8_readSum_14 C r ?_
      rw [e1, e2]
      refine ⟨⟨by omega, by omega⟩, fun z => absurd z (by omega), fun _ => ⟨e3, e4, fun z => ending (by omega), fun z1 => ⟨e3, e4, fun z => ending (by omega), fun z2 => ⟨e3, 0, _, by decide, t_X8_goOn hc (by have := jN ⟨z1, z2⟩; omega), fun s4 q4 => ⟨e4, fun z3 => ?_, fun z3 => ⟨e4, fun z4 => ?_, fun z4 => ?_⟩⟩⟩⟩⟩⟩
      · obtain ⟨d1, Q1, a1, a2, a3⟩ := plus s4 q4 (by omega) (by omega)
        refine ⟨d1, Q1, a1, a2, fun s5 q5 => ?_⟩
        obtain ⟨d2, Q2, b1, b2, b3⟩ := a3 s5 q5
        refine ⟨d2, Q2, b1, b2, fun r6 s6 q6 => ?_⟩
        have k := b3 r6 s6 q6
        exact ⟨k.1, fun z => ⟨e4, fun y => absurd y (by omega), fun _ => ⟨e4, fun _ => k.2.1 z, fun y => absurd y (by omega)⟩⟩, k.2.2⟩
      · obtain ⟨d2, Q2, b1, b2, b3⟩ := times s4 q4 (by omega) (by omega)
        refine ⟨d2, Q2, b1, b2, fun r6 s6 q6 => ?_⟩
        have k := b3 r6 s6 q6
        exact ⟨k.1, fun z => ⟨e4, fun _ => k.2.1 z, fun _ => ⟨e4, fun y => absurd y (by omega), fun _ => k.2.1 z⟩⟩, k.2.2⟩
      · obtain ⟨d1, Q1, a1, a2, a3⟩ := plus s4 q4 (by omega) (by omega)
        refine ⟨d1, Q1, a1, a2, fun s5 q5 => ?_⟩
        obtain ⟨d2, Q2, b1, b2, b3⟩ := a3 s5 q5
        refine ⟨d2, Q2, b1, b2, fun r6 s6 q6 => ?_⟩
        have k := b3 r6 s6 q6
        exact ⟨k.1, fun z => ⟨e4, fun y => absurd y (by omega), fun _ => ⟨e4, fun _ => k.2.1 z, fun y => absurd y (by omega)⟩⟩, k.2.2⟩
  refine kb_X8_readSum_0 C r ⟨1, _, by decide, t_X8_readUnit hT h hi hl (by decide), fun r1 s1 q1 => ⟨q1.bd.1, fun z => ?_, fun z => ?_⟩⟩
  · obtain ⟨j, m, p1, p2⟩ := q1.good z
    obtain ⟨g1, g2, g3, _⟩ := unitG_ok hE hi p1
    refine loop f (-1) j m 0 s1 ?_ p2 (by omega) (by omega) ?_ (by decide) (by omega)
    · unfold sumG; rw [Rs.go_r p1]
    · rw [if_pos rfl, g3, List.length_append, List.length_singleton]; omega
  · obtain ⟨e, p1, p2⟩ := q1.bad z
    exact Or.inl ⟨e, by unfold sumG; rw [Rs.go_l p1], rfl, p2⟩
/-- claims are read with fuel up to f -/
def HA (T pl : Nat → Int) (N : Nat) (u : Sto) (f : Nat) : Prop := ∀ (g o i : Nat) (l : List Int) (S : Sto), g ≤ f → o ≤ 8 → CQ u S i l → i ≤ N → l.length ≤ i → N - i < g → ClI LY (3 + 3 * (8 - o)) MX8_readClaim [.inr 39, .inl (o : Int)] S (PO pl u (cndG T g true (-1) o i l))
set_option maxHeartbeats 8000000 in
theorem t_X8_readCondition {T pl : Nat → Int} {N f o : Nat} {u S : Sto} {i : Nat} {l : List Int} (hT : TQ T pl N u) (ha : HA T pl N u f) (ho : o ≤ 8) (h : CQ u S i l) (hi : i ≤ N) (hl : l.length ≤ i) (hf : N - i < f) : ClI LY (4 + 3 * (8 - o)) MX8_readCondition [.inr 39, .inl (o : Int)] S (PO pl u (condG T f o i l)) := by
  have hN := hT.2.2
  have hE := hT.2.1
  refine ClI.introZ (by decide) rfl (Nat.le_of_ble_eq_true rfl) (fun X C r => ?_)
  have loop : ∀ (g : Nat) (w : Int) (j : Nat) (m : List Int) (v3 : Int) (S' : Sto), g ≤ f → condG T f o i l = cndG T g false w o j m → CQ u S' j m → j ≤ N → N - j < g → m.length + (if w = -1 then 0 else 1) ≤ j → rg w → (0 ≤ v3 ∧ v3 < j) → G LY X 14 [rv 39, iv (o : Int), iv w, iv v3, none] [] S' := by
    intro g
    induction g with
    | zero => intro w j m v3 S' _ _ _ _ hg; omega
    | succ g ih =>
      intro w j m v3 S' gf hR hc hj hg hm rw_ hv
      obtain ⟨e1, e2, e3, e4, e5⟩ := hc.tok hT hj
      have cap : w ≠ -1 → m.length < 400 := fun z => by rw [if_neg z] at hm; omega
      have ml : m.length ≤ j := by split at hm <;> omega
      have ending : T j ≠ 10003 → T j ≠ 10004 → CallV LY (4 + 3 * (8 - o)) MX4_add [.inr 42, .inl w] S' (fun s1 => PO pl u (condG T f o i l) 1 s1) := fun q q2 => ⟨0, _, by omega, t_X4_add hc rw_ cap, fun s1 q1 => Or.inr ⟨j, adw m w, by rw [hR]; unfold cndG; rw [if_neg q, if_neg q2], rfl, q1⟩⟩
      have jN : T j = 10003 ∨ T j = 10004 → j < N := fun q => by
        by_cases e : j = N
        · rw [e, hE] at q; omega
        · omega
      have orr : ∀ s4 : Sto, CQ u s4 (j + 1) m → T j = 10003 → CallV LY (4 + 3 * (8 - o)) MX4_add [.inr 42, .inl w] s4 (fun s5 => CallI LY (4 + 3 * (8 - o)) MX8_readClaim [.inr 39, .inl (o : Int)] s5 (fun r6 s6 => rg r6 ∧ ((r6 ≠ 0 → G LY X 14 [rv 39, iv (o : Int), iv 10003, iv (v3 + 1), none] [] s6) ∧ (r6 = 0 → PO pl u (condG T f o i l) 0 s6)))) := fun s4 q4 t1 => by
        have jn := jN (Or.inl t1)
        have al := adw_len m w
        have al2 : (adw m w).length ≤ j := by
          by_cases z : w = -1
          · have := al.2 z; omega
          · rw [if_neg z] at hm; omega
        refine ⟨0, _, by omega, t_X4_add q4 rw_ cap, fun s5 q5 => ⟨_, _, by omega, ha g o (j + 1) _ s5 (by omega) ho q5 (by omega) (by omega) (by omega), fun r6 s6 q6 => ⟨q6.bd.1, fun z => ?_, fun z => ?_⟩⟩⟩
        · obtain ⟨j', m', p1, p2⟩ := q6.good z
          have ok := cndG_ok hE g true (-1) o (j + 1) j' (adw m w) m' (by omega) p1
          rw [if_pos (Or.inl rfl)] at ok
          have ok1 := ok.1 rfl
          refine ih 10003 j' m' (v3 + 1) s6 (by omega) ?_ p2 (by omega) (by omega) ?_ (by decide) (by omega)
          · rw [hR]
            show (if T j = 10003 then _ else _) = _
            rw [if_pos t1, Rs.go_r p1]
          · rw [if_neg (by decide)]; omega
        · obtain ⟨e, p1, p2⟩ := q6.bad z
          refine Or.inl ⟨e, ?_, rfl, p2⟩
          rw [hR]
          show (if T j = 10003 then _ else _) = _
          rw [if_pos t1, Rs.go_l p1]
      have andd : ∀ s4 : Sto, CQ u s4 (j + 1) m → T j = 10004 → CallI LY (4 + 3 * (8 - o)) MX8_readClaim [.inr 39, .inl (o : Int)] s4 (fun r6 s6 => rg r6 ∧ ((r6 ≠ 0 → CallV LY (4 + 3 * (8 - o)) MX4_add [.inr 42, .inl 10004] s6 (fun s7 => G LY X 14 [rv 39, iv (o : Int), iv w, iv (v3 + 1), none] [] s7)) ∧ (r6 = 0 → PO pl u (condG T f o i l) 0 s6))) := fun s4 q4 t1 => by
        have jn := jN (Or.inr t1)
        refine ⟨_, _, by omega, ha g o (j + 1) _ s4 (by omega) ho q4 (by omega) (by omega) (by omega), fun r6 s6 q6 => ⟨q6.bd.1, fun z => ?_, fun z => ?_⟩⟩
        · obtain ⟨j', m', p1, p2⟩ := q6.good z
          have ok := cndG_ok hE g true (-1) o (j + 1) j' m m' (by omega) p1
          rw [if_pos (Or.inl rfl)] at ok
          have ok1 := ok.1 rfl
          refine ⟨0, _, by omega, t_X4_add p2 (by decide) (fun _ => by omega), fun s7 q7 => ?_⟩
          have ea : adw m' 10004 = m' ++ [10004] := if_neg (by decide)
          rw [ea] at q7
          refine ih w j' (m' ++ [10004]) (v3 + 1) s7 (by omega) ?_ q7 (by omega) (by omega) ?_ rw_ (by omega)
          · rw [hR]
            show (if T j = 10003 then _ else _) = _
            rw [if_neg (by omega), if_pos t1, Rs.go_r p1]
          · rw [List.length_append, List.length_singleton]; omega
        · obtain ⟨e, p1, p2⟩ := q6.bad z
          refine Or.inl ⟨e, ?_, rfl, p2⟩
          rw [hR]
          show (if T j = 10003 then _ else _) = _
          rw [if_neg (by omega), if_pos t1, Rs.go_l p1]
      have go : j < 400 → CallV LY (4 + 3 * (8 - o)) MX8_goOn [.inr 39] S' (fun s4 => CQ u s4 (j + 1) m) := fun z => ⟨0, _, by omega, t_X8_goOn hc z, fun _ q => q⟩
      refine kb_X8_readCondition_14 C r ?_
      rw [e1, e2]
      refine ⟨⟨by omega, by omega⟩, fun z => absurd z (by omega), fun _ => ⟨e3, e4, fun z => ⟨e3, ?_⟩, fun z => ⟨e3, e4, ?_⟩⟩⟩
      · obtain ⟨d0, Q0, a0, c0, k0⟩ := go (by have := jN (Or.inl z); omega)
        refine ⟨d0, Q0, a0, c0, fun s4 q4 => ⟨e4, fun y => absurd z y, fun _ => ?_⟩⟩
        obtain ⟨d1, Q1, a1, a2, a3⟩ := orr s4 (k0 s4 q4) z
        refine ⟨d1, Q1, a1, a2, fun s5 q5 => ?_⟩
        obtain ⟨d2, Q2, b1, b2, b3⟩ := a3 s5 q5
        refine ⟨d2, Q2, b1, b2, fun r6 s6 q6 => ?_⟩
        have k := b3 r6 s6 q6
        exact ⟨k.1, fun y => ⟨e4, fun _ => k.2.1 y, fun y2 => absurd y2 (by omega)⟩, k.2.2⟩
      · refine ⟨fun y => ending z y, fun y => ⟨e3, ?_⟩⟩
        obtain ⟨d0, Q0, a0, c0, k0⟩ := go (by have := jN (Or.inr y); omega)
        refine ⟨d0, Q0, a0, c0, fun s4 q4 => ⟨e4, fun _ => ?_, fun y2 => absurd y2 z⟩⟩
        obtain ⟨d2, Q2, b1, b2, b3⟩ := andd s4 (k0 s4 q4) y
        refine ⟨d2, Q2, b1, b2, fun r6 s6 q6 => ?_⟩
        have k := b3 r6 s6 q6
        exact ⟨k.1, fun x => ⟨e4, fun y2 => absurd y y2, fun _ => k.2.1 x⟩, k.2.2⟩
  refine kb_X8_readCondition_0 C r ⟨_, _, by omega, ha f o i l S (Nat.le_refl _) ho h hi hl hf, fun r1 s1 q1 => ⟨q1.bd.1, fun z => ?_, fun z => ?_⟩⟩
  · obtain ⟨j, m, p1, p2⟩ := q1.good z
    have ok := cndG_ok hE f true (-1) o i j l m hi p1
    rw [if_pos (Or.inl rfl)] at ok
    have ok1 := ok.1 rfl
    refine loop f (-1) j m 0 s1 (Nat.le_refl _) ?_ p2 (by omega) (by omega) ?_ (by decide) (by omega)
    · unfold condG; rw [Rs.go_r p1]
    · rw [if_pos rfl]; omega
  · obtain ⟨e, p1, p2⟩ := q1.bad z
    exact Or.inl ⟨e, by unfold condG; rw [Rs.go_l p1], rfl, p2⟩
set_option maxHeartbeats 8000000 in
theorem t_claims {T pl : Nat → Int} {N : Nat} {u : Sto} (hT : TQ T pl N u) : ∀ f : Nat, HA T pl N u f := by
  have hN := hT.2.2
  have hE := hT.2.1
  intro f
  induction f with
  | zero => intro g o i l S hg _ _ _ _ hf; omega
  | succ f ih =>
    intro g o i l S hg ho h hi hl hf
    by_cases gf : g ≤ f
    · exact ih g o i l S gf ho h hi hl hf
    obtain rfl : g = f + 1 := by omega
    obtain ⟨e1, e2, e3, e4, e5⟩ := h.tok hT hi
    have nN : T i ≠ 10200 → i < N := fun q => by
      by_cases e : i = N
      · rw [e] at q; exact absurd hE q
      · omega
    have ro : rg (o : Int) := ⟨by omega, by omega⟩
    refine ClI.introZ (by decide) rfl (Nat.le_of_ble_eq_true rfl) (fun X C r => ?_)
    have fail : ∀ (k : Int) (S' : Sto) (j : Nat) (m : List Int), CQ u S' j m → j ≤ N → m.length ≤ 400 → cndG T (f + 1) true (-1) o i l = .inl (k, j) → CallI LY (3 + 3 * (8 - o)) MX8_fail [.inr 39, .inl k] S' (fun r4 s4 => (r4 = 0 ∨ r4 = 1) ∧ PO pl u (cndG T (f + 1) true (-1) o i l) r4 s4) := fun k S' j m q hj hm hk => ⟨0, _, by omega, t_X8_fail hT q hj hm, fun r4 s4 q4 => ⟨Or.inl q4.1, Or.inl ⟨(k, j), hk, q4.1, q4.2⟩⟩⟩
    have go : ∀ (S' : Sto) (j : Nat) (m : List Int), CQ u S' j m → j < N → CallV LY (3 + 3 * (8 - o)) MX8_goOn [.inr 39] S' (fun s4 => CQ u s4 (j + 1) m) := fun S' j m q hj => ⟨0, _, by omega, t_X8_goOn q (by omega), fun _ q => q⟩
    -- a claim denied
    have denied : ∀ s1 : Sto, CQ u s1 (i + 1) l → T i = 10005 → ¬ 8 ≤ o → CallI LY (3 + 3 * (8 - o)) MX8_readDenied [.inr 39, .inl ((o : Int) + 1)] s1 (fun r3 s3 => (r3 = 0 ∨ r3 = 1) ∧ PO pl u (cndG T (f + 1) true (-1) o i l) r3 s3) := fun s1 q1 t1 ho8 => by
      have iN := nN (by omega)
      have eq : cndG T (f + 1) true (-1) o i l = (cndG T f true (-1) (o + 1) (i + 1) l).go (fun j m => .inr (j, m ++ [10005])) := by
        show (if T i = 10005 then _ else _) = _
        rw [if_pos t1, if_neg ho8]
      refine ⟨4 + 3 * (8 - (o + 1)), PO pl u (cndG T (f + 1) true (-1) o i l), by omega, ?_, fun r3 s3 q3 => ⟨q3.bd.2, q3⟩⟩
      refine ClI.introZ (by decide) rfl (Nat.le_of_ble_eq_true rfl) (fun X C r => ?_)
      have cl := ih f (o + 1) (i + 1) l s1 (Nat.le_refl _) (by omega) q1 (by omega) (by omega) (by omega)
      rw [show ((o + 1 : Nat) : Int) = (o : Int) + 1 by omega] at cl
      refine kb_X8_readDenied_0 C r ⟨_, _, by omega, cl, fun r6 s6 q6 => ?_⟩
      by_cases z : r6 = 0
      · obtain ⟨e, p1, p2⟩ := q6.bad z
        exact ⟨0, _, by omega, t_X4_addF p2 (by decide), fun s7 q7 => ⟨q6.bd.2, Or.inl ⟨e, by rw [eq, Rs.go_l p1], z, q7⟩⟩⟩
      · obtain ⟨j, m, p1, p2⟩ := q6.good z
        have ok := cndG_ok hE f true (-1) (o + 1) (i + 1) j l m (by omega) p1
        rw [if_pos (Or.inl rfl)] at ok
        refine ⟨0, _, by omega, t_X4_add p2 (by decide) (fun _ => by omega), fun s7 q7 => ⟨q6.bd.2, ?_⟩⟩
        have ea : adw m 10005 = m ++ [10005] := if_neg (by decide)
        rw [ea] at q7
        exact Or.inr ⟨j, m ++ [10005], by rw [eq, Rs.go_r p1], by have := q6.bd.2; omega, q7⟩
    -- a condition in brackets
    have bracket : ∀ s1 : Sto, CQ u s1 (i + 1) l → T i = 10105 → ¬ 8 ≤ o → CallI LY (3 + 3 * (8 - o)) MX8_readBracket [.inr 39, .inl ((o : Int) + 1)] s1 (fun r3 s3 => (r3 = 0 ∨ r3 = 1) ∧ PO pl u (cndG T (f + 1) true (-1) o i l) r3 s3) := fun s1 q1 t1 ho8 => by
      have iN := nN (by omega)
      have eq : cndG T (f + 1) true (-1) o i l = (condG T f (o + 1) (i + 1) l).go (fun j m => if T j = 10106 then .inr (j + 1, m) else .inl (1, j)) := by
        show (if T i = 10005 then _ else if T i = 10105 then _ else _) = _
        rw [if_neg (by omega), if_pos t1, if_neg ho8]
        unfold condG
        rw [Rs.go_go]
      refine ⟨5 + 3 * (8 - (o + 1)), PO pl u (cndG T (f + 1) true (-1) o i l), by omega, ?_, fun r3 s3 q3 => ⟨q3.bd.2, q3⟩⟩
      refine ClI.introZ (by decide) rfl (Nat.le_of_ble_eq_true rfl) (fun X C r => ?_)
      have cl := t_X8_readCondition (f := f) (o := o + 1) (i := i + 1) hT ih (by omega) q1 (by omega) (by omega) (by omega)
      rw [show ((o + 1 : Nat) : Int) = (o : Int) + 1 by omega] at cl
      refine kb_X8_readBracket_0 C r ⟨_, _, by omega, cl, fun r6 s6 q6 => ⟨q6.bd.1, fun z => ?_, fun z => ?_⟩⟩
      · obtain ⟨j, m, p1, p2⟩ := q6.good z
        have ok := condG_ok hE (by omega) p1
        obtain ⟨g1, g2, g3, g4, g5⟩ := p2.tok hT ok.2.1
        rw [g1, g2]
        refine ⟨g3, g4, fun y => ?_, fun y => ?_⟩
        · have jN : j ≠ N := fun w => by rw [w, hE] at y; omega
          exact ⟨0, _, by omega, t_X8_goOn p2 (by omega), fun s7 q7 => Or.inr ⟨j + 1, m, by rw [eq, Rs.go_r p1, if_pos y], rfl, q7⟩⟩
        · exact ⟨0, _, by omega, t_X8_fail hT p2 ok.2.1 (by omega), fun r7 s7 q7 => ⟨Or.inl q7.1, Or.inl ⟨(1, j), by rw [eq, Rs.go_r p1, if_neg y], q7.1, q7.2⟩⟩⟩
      · obtain ⟨e, p1, p2⟩ := q6.bad z
        exact Or.inl ⟨e, by rw [eq, Rs.go_l p1], rfl, p2⟩
    -- two sums compared
    have compared : T i ≠ 10005 → T i ≠ 10105 → CallI LY (3 + 3 * (8 - o)) MX8_readSum [.inr 39] S (fun r5 s5 => rg r5 ∧ ((r5 ≠ 0 → ∃ (j : Nat) (m : List Int), j ≤ N ∧ CQ u s5 j m ∧ m.length ≤ j ∧ (¬ (10107 ≤ T j ∧ T j ≤ 10109) → cndG T (f + 1) true (-1) o i l = .inl (1, j)) ∧ (10107 ≤ T j ∧ T j ≤ 10109 → j < N ∧ ∀ s6 : Sto, CQ u s6 (j + 1) m → CallI LY (3 + 3 * (8 - o)) MX8_readSum [.inr 39] s6 (fun r7 s7 => CallV LY (3 + 3 * (8 - o)) MX4_add [.inr 42, .inl (T j)] s7 (fun s8 => (r7 = 0 ∨ r7 = 1) ∧ PO pl u (cndG T (f + 1) true (-1) o i l) r7 s8)))) ∧ (r5 = 0 → PO pl u (cndG T (f + 1) true (-1) o i l) 0 s5))) := fun t1 t2 => by
      have eq : cndG T (f + 1) true (-1) o i l = cmpG T 401 i l := by
        show (if T i = 10005 then _ else if T i = 10105 then _ else _) = _
        rw [if_neg t1, if_neg t2]
      · refine ⟨2, _, by omega, t_X8_readSum (f := 401) hT h hi hl (by omega), fun r5 s5 q5 => ⟨q5.bd.1, fun z => ?_, fun z => ?_⟩⟩
        · obtain ⟨j, m, p1, p2⟩ := q5.good z
          have ok := sumG_ok hE hi p1
          refine ⟨j, m, ok.2.1, p2, by omega, fun y => ?_, fun y => ?_⟩
          · rw [eq]; unfold cmpG; rw [Rs.go_r p1, if_neg y]
          · have jN : j ≠ N := fun w => by rw [w, hE] at y; omega
            refine ⟨by omega, fun s6 q6 => ⟨2, _, by omega, t_X8_readSum (f := 401) hT q6 (by omega) (by omega) (by omega), fun r7 s7 q7 => ?_⟩⟩
            have rT : rg (T j) := ⟨by omega, by omega⟩
            by_cases z7 : r7 = 0
            · obtain ⟨e, a1, a2⟩ := q7.bad z7
              refine ⟨0, _, by omega, t_X4_addF a2 rT, fun s8 q8 => ⟨q7.bd.2, Or.inl ⟨e, ?_, z7, q8⟩⟩⟩
              rw [eq]; unfold cmpG; rw [Rs.go_r p1, if_pos y, Rs.go_l a1]
            · obtain ⟨k, m', a1, a2⟩ := q7.good z7
              have ok2 := sumG_ok hE (by omega) a1
              refine ⟨0, _, by omega, t_X4_add a2 rT (fun _ => by omega), fun s8 q8 => ⟨q7.bd.2, ?_⟩⟩
              have ea : adw m' (T j) = m' ++ [T j] := if_neg (by omega)
              rw [ea] at q8
              refine Or.inr ⟨k, m' ++ [T j], ?_, by have := q7.bd.2; omega, q8⟩
              rw [eq]; unfold cmpG; rw [Rs.go_r p1, if_pos y, Rs.go_r a1]
        · obtain ⟨e, p1, p2⟩ := q5.bad z
          refine Or.inl ⟨e, ?_, rfl, p2⟩
          rw [eq]; unfold cmpG; rw [Rs.go_l p1]
    have many : T i = 10005 ∨ T i = 10105 → 8 ≤ o → cndG T (f + 1) true (-1) o i l = .inl (3, i) := fun q q2 => by
      show (if T i = 10005 then _ else if T i = 10105 then _ else _) = _
      rcases q with q | q
      · rw [if_pos q, if_pos q2]
      · rw [if_neg (by omega), if_pos q, if_pos q2]
    refine kb_X8_readClaim_0 C r ?_
    rw [e1, e2]
    refine ⟨e3, e4, fun z => ⟨ro, fun z2 => ?_, fun z2 => fail 3 S i l h hi (by omega) (many (Or.inl z) (by omega))⟩, fun z => ⟨e4, fun z2 => ?_, fun z2 => ⟨ro, fun z3 => ?_, fun z3 => fail 3 S i l h hi (by omega) (many (Or.inr z2) (by omega))⟩⟩⟩
    · obtain ⟨d0, Q0, a0, c0, k0⟩ := go S i l h (nN (by omega))
      exact ⟨d0, Q0, a0, c0, fun s1 q1 => ⟨e4, fun y => absurd z y, fun _ => denied s1 (k0 s1 q1) z (by omega)⟩⟩
    · obtain ⟨d0, Q0, a0, c0, k0⟩ := compared z z2
      refine ⟨d0, Q0, a0, c0, fun r5 s5 q5 => ?_⟩
      obtain ⟨b1, b2, b3⟩ := k0 r5 s5 q5
      refine ⟨b1, fun y => ?_, b3⟩
      obtain ⟨j, m, g1, g2, g3, g4, g5⟩ := b2 y
      obtain ⟨w1, w2, w3, w4, w5⟩ := g2.tok hT g1
      rw [w1, w2]
      have next : 10107 ≤ T j ∧ T j ≤ 10109 → CallV LY (3 + 3 * (8 - o)) MX8_goOn [.inr 39] s5 (fun s6 => CallI LY (3 + 3 * (8 - o)) MX8_readSum [.inr 39] s6 (fun r7 s7 => CallV LY (3 + 3 * (8 - o)) MX4_add [.inr 42, .inl (T j)] s7 (fun s8 => (r7 = 0 ∨ r7 = 1) ∧ PO pl u (cndG T (f + 1) true (-1) o i l) r7 s8))) := fun x => by
        obtain ⟨x1, x2⟩ := g5 x
        obtain ⟨d1, Q1, a1, c1, k1⟩ := go s5 j m g2 x1
        exact ⟨d1, Q1, a1, c1, fun s6 q6 => x2 s6 (k1 s6 q6)⟩
      exact ⟨w3, w4, fun x => next (by omega), fun x => ⟨w4, fun x2 => next (by omega), fun x2 => ⟨w4, fun x3 => next (by omega), fun x3 => fail 1 s5 j m g2 g1 (by omega) (g4 (by omega))⟩⟩⟩
    · obtain ⟨d0, Q0, a0, c0, k0⟩ := go S i l h (nN (by omega))
      exact ⟨d0, Q0, a0, c0, fun s1 q1 => ⟨e4, fun _ => bracket s1 (k0 s1 q1) z2 (by omega), fun y => absurd y z⟩⟩
