/-! TEXT: sums and comparisons in the reference -/
theorem prodG_ok {T : Nat → Int} {N f i j : Nat} {l m : List Int} (hN : T N = 10200) (hi : i ≤ N) (h : prodG T f i l = .inr (j, m)) : i < j ∧ j ≤ N ∧ m.length + i ≤ l.length + j ∧ ¬ (10103 ≤ T j ∧ T j ≤ 10104) := by
  unfold prodG at h
  obtain ⟨i', l', u1, u2⟩ := Rs.go_inv h
  obtain ⟨u3, u4, u5, _⟩ := unitG_ok hN hi u1
  have ih := prodL_ok hN f i' j l' m (by omega) u2
  rw [u5, List.length_append, List.length_singleton] at ih
  exact ⟨by omega, by omega, by omega, ih.2.2.2⟩
theorem sumG_prod {T : Nat → Int} {N i : Nat} {l : List Int} (hN : T N = 10200) (h4 : N ≤ 400) (hi : i ≤ N) : sumG T 401 i l = (prodG T 401 i l).go (fun j m => sumL T 401 (-1) j m) := by
  unfold sumG prodG
  rw [Rs.go_go]
  exact Rs.go_eq (fun j m hj => by
    have ok := unitG_ok hN hi hj
    exact sum_prod hN h4 401 j m (by omega) (by omega))
set_option maxHeartbeats 4000000 in
theorem tr_readSum {T pl en : Nat → Int} {N : Nat} {u S : Sto} {i : Nat} {l : List Int} {o : Int} {st : List Int} (hr : HR T pl en N u) (h : RQ T pl en u S i l o st) (hi : i ≤ N) (hl : l.length ≤ i) : ClI LY 5 MX12_readSum [.inr 75] S (PR T pl en u o st (sumG T 401 i l)) := by
  have hN := hr.2.2
  have hE := hr.2.1
  refine ClI.intro (by decide) rfl (Nat.le_of_ble_eq_true rfl) (fun X C r => ?_)
  have loop : ∀ (g : Nat) (j : Nat) (m : List Int) (S' : Sto), sumG T 401 i l = sumL T 401 (-1) j m → RQ T pl en u S' j m o st → j ≤ N → m.length ≤ j → ¬ (10103 ≤ T j ∧ T j ≤ 10104) → N - j < g → G LY X 10 [rv 75, none] [] S' := by
    intro g
    induction g with
    | zero => intro j m S' _ _ _ _ _ hg; omega
    | succ g ih =>
      intro j m S' hR q hj hm np hg
      have tv := q.2.2.2.1.2.2
      have t := tv.rgs
      have s43 := tv.s43
      have s45 := tv.s45
      have stop : ¬ (T j = 10101 ∨ T j = 10102) → PR T pl en u o st (sumG T 401 i l) 0 S' := fun c => Or.inr ⟨j, m, by
        rw [hR, sumL_ev hE hN hj, if_neg (by omega)]
        rfl, rfl, q⟩
      have step : ∀ a : Int, TokR (T j) a 0 → (T j = 10101 ∨ T j = 10102) → CallV LY 5 MX12_reads [.inr 75] S' (fun s2 => CallI LY 5 MX12_readProduct [.inr 75] s2 (fun r3 s3 => rg r3 ∧ ((r3 ≠ -1 → CallV LY 5 MX12_emits [.inr 75, .inl a, .inl 0] s3 (fun s4 => G LY X 10 [rv 75, none] [] s4)) ∧ (r3 = -1 → PR T pl en u o st (sumG T 401 i l) (-1) s3)))) := fun a ha c => by
        have jN : j < N := RQ.ne hr hj (by omega)
        have eR : sumG T 401 i l = (prodG T 401 (j + 1) m).go (fun j' m' => sumL T 401 (-1) j' (m' ++ [T j])) := by
          have ea : adw m (-1) = m := if_pos rfl
          rw [hR, sumL_ev hE hN hj, if_pos (by omega), if_pos (by omega), ea, unit_b (by omega)]
          unfold prodG
          rw [Rs.go_go]
          refine Rs.go_eq (fun j' m' hj' => ?_)
          have ok := unitG_ok hE (by omega) hj'
          rw [sum_prod hE hN 401 j' m' (by omega) (by omega)]
          refine Rs.go_eq (fun j2 m2 hj2 => ?_)
          have ok2 := prodL_ok hE 401 j' j2 m' m2 (by omega) hj2
          have ew : adw m2 (T j) = m2 ++ [T j] := if_neg (by omega)
          rw [sum_emit hE hN ok2.2.1 ok2.2.2.2, ew]
        refine ⟨2, _, by decide, hr.1 S' j m o st q jN, fun s2 q2 => ⟨4, _, by decide, tr_readProduct hr q2 (by omega) (by omega) (by omega : N - (j + 1) < 401), fun r3 s3 q3 => ⟨q3.bd, fun z => ?_, fun z => ?_⟩⟩⟩
        · obtain ⟨j', m', p1, p2⟩ := q3.good z
          have ok := prodG_ok hE (by omega) p1
          refine ⟨0, _, by decide, tr_emits p2 ha (by omega), fun s4 q4 => ih j' (m' ++ [T j]) s4 (by rw [eR, Rs.go_r p1]) q4 ok.2.1 ?_ ok.2.2.2 (by omega)⟩
          rw [List.length_append, List.length_singleton]; omega
        · obtain ⟨e, p1, p2⟩ := q3.bad z
          exact Or.inl ⟨e, by rw [eR, Rs.go_l p1], rfl, p2⟩
      have tk2 : T j = 10101 → TokR (T j) 2 0 := fun z => Or.inr (Or.inr (Or.inl ⟨rfl, z⟩))
      have tk3 : T j = 10102 → TokR (T j) 3 0 := fun z => Or.inr (Or.inr (Or.inr (Or.inl ⟨rfl, z⟩)))
      refine kb_X12_readSum_10 C r ⟨0, _, by decide, tr_isSign q (by decide), ?_⟩
      rintro r1 s1 ⟨hs1, b1, b2⟩
      rw [hs1]
      refine ⟨⟨by omega, by omega⟩, fun z => ?_, fun z => ⟨0, _, by decide, tr_isSign q (by decide), ?_⟩⟩
      · have a1 := b2.mp (by omega)
        have a2 := s43.mp a1
        exact ⟨t.2.1 (by omega), fun w => absurd a1.2 w, fun _ => step 2 (tk2 a2) (Or.inl a2)⟩
      · rintro r8 s8 ⟨hs8, d1, d2⟩
        rw [hs8]
        refine ⟨⟨by omega, by omega⟩, fun y => stop (fun c => ?_), fun y => ?_⟩
        · rcases c with c | c
          · have := b2.mpr (s43.mpr c); omega
          · have := d2.mpr (s45.mpr c); omega
        · have a1 := d2.mp (by omega)
          have a2 := s45.mp a1
          exact ⟨t.2.1 (by omega), fun _ => step 3 (tk3 a2) (Or.inr a2), fun w => absurd w (by omega)⟩
  refine kb_X12_readSum_0 C r ⟨4, _, by decide, tr_readProduct hr h hi hl (by omega : N - i < 401), fun r1 s1 q1 => ⟨q1.bd, fun z => ?_, fun z => ?_⟩⟩
  · obtain ⟨j, m, p1, p2⟩ := q1.good z
    have ok := prodG_ok hE hi p1
    exact loop 401 j m s1 (by rw [sumG_prod hE hN hi, Rs.go_r p1]) p2 ok.2.1 (by omega) ok.2.2.2 (by omega)
  · obtain ⟨e, p1, p2⟩ := q1.bad z
    exact Or.inl ⟨e, by rw [sumG_prod hE hN hi, Rs.go_l p1], rfl, p2⟩
set_option maxHeartbeats 4000000 in
theorem tr_readCompared {T pl en : Nat → Int} {N : Nat} {u S : Sto} {i : Nat} {l : List Int} {o : Int} {st : List Int} (hr : HR T pl en N u) (h : RQ T pl en u S i l o st) (hi : i ≤ N) (hl : l.length ≤ i) : ClI LY 6 MX12_readCompared [.inr 75] S (PR T pl en u o st (cmpG T 401 i l)) := by
  have hN := hr.2.2
  have hE := hr.2.1
  refine ClI.intro (by decide) rfl (Nat.le_of_ble_eq_true rfl) (fun X C r => ?_)
  refine kb_X12_readCompared_0 C r ⟨5, _, by decide, tr_readSum hr h hi hl, fun r1 s1 q1 => ⟨q1.bd, fun z => ?_, fun z => ?_⟩⟩
  · obtain ⟨j, m, p1, q⟩ := q1.good z
    have ok := sumG_ok hE hi p1
    have tv := q.2.2.2.1.2.2
    have t := tv.rgs
    have s60 := tv.s60
    have s61 := tv.s61
    have s62 := tv.s62
    have eR : cmpG T 401 i l = if 10107 ≤ T j ∧ T j ≤ 10109 then (sumG T 401 (j + 1) m).go (fun k l2 => .inr (k, l2 ++ [T j])) else .inl (1, j) := by
      unfold cmpG
      rw [Rs.go_r p1]
    have step : ∀ a : Int, TokR (T j) a 0 → (10107 ≤ T j ∧ T j ≤ 10109) → CallV LY 6 MX12_reads [.inr 75] s1 (fun s3 => CallI LY 6 MX12_readSum [.inr 75] s3 (fun r4 s4 => rg r4 ∧ ((r4 ≠ -1 → CallV LY 6 MX12_emits [.inr 75, .inl a, .inl 0] s4 (fun s5 => PR T pl en u o st (cmpG T 401 i l) 0 s5)) ∧ (r4 = -1 → PR T pl en u o st (cmpG T 401 i l) (-1) s4)))) := fun a ha c => by
      have jN : j < N := RQ.ne hr ok.2.1 (by omega)
      refine ⟨2, _, by decide, hr.1 s1 j m o st q jN, fun s3 q3 => ⟨5, _, by decide, tr_readSum hr q3 (by omega) (by omega), fun r4 s4 q4 => ⟨q4.bd, fun y => ?_, fun y => ?_⟩⟩⟩
      · obtain ⟨k, m', g1, g2⟩ := q4.good y
        have ok2 := sumG_ok hE (by omega) g1
        exact ⟨0, _, by decide, tr_emits g2 ha (by omega), fun s5 q5 => Or.inr ⟨k, m' ++ [T j], by rw [eR, if_pos c, Rs.go_r g1], rfl, q5⟩⟩
      · obtain ⟨e, g1, g2⟩ := q4.bad y
        exact Or.inl ⟨e, by rw [eR, if_pos c, Rs.go_l g1], rfl, g2⟩
    have t6 : T j = 10107 → TokR (T j) 6 0 := fun z => by unfold TokR; exact Or.inr (Or.inr (Or.inr (Or.inr (Or.inr (Or.inr (Or.inl ⟨rfl, z⟩))))))
    have t7 : T j = 10108 → TokR (T j) 7 0 := fun z => by unfold TokR; exact Or.inr (Or.inr (Or.inr (Or.inr (Or.inr (Or.inr (Or.inr (Or.inl ⟨rfl, z⟩)))))))
    have t8 : T j = 10109 → TokR (T j) 8 0 := fun z => by unfold TokR; exact Or.inr (Or.inr (Or.inr (Or.inr (Or.inr (Or.inr (Or.inr (Or.inr (Or.inl ⟨rfl, z⟩))))))))
    refine ⟨0, _, by decide, tr_isSign q (by decide), ?_⟩
    rintro r2 s2 ⟨hs2, b1, b2⟩
    rw [hs2]
    refine ⟨⟨by omega, by omega⟩, fun y => ?_, fun y => ⟨0, _, by decide, tr_isSign q (by decide), ?_⟩⟩
    · have a1 := b2.mp (by omega)
      have a2 := s60.mp a1
      exact ⟨t.2.1 (by omega), fun w => absurd a1.2 w, fun _ => step 6 (t6 a2) (by omega)⟩
    · rintro r3 s3 ⟨hs3, d1, d2⟩
      rw [hs3]
      refine ⟨⟨by omega, by omega⟩, fun y2 => ?_, fun y2 => ⟨0, _, by decide, tr_isSign q (by decide), ?_⟩⟩
      · have a1 := d2.mp (by omega)
        have a2 := s61.mp a1
        exact ⟨t.2.1 (by omega), fun _ => ⟨t.2.1 (by omega), fun w => absurd a1.2 w, fun _ => step 7 (t7 a2) (by omega)⟩, fun w => absurd w (by omega)⟩
      · rintro r4 s4 ⟨hs4, f1, f2⟩
        rw [hs4]
        refine ⟨⟨by omega, by omega⟩, fun y3 => ?_, fun y3 => ⟨0, _, by decide, tr_errs q, fun r5 s5 q5 => Or.inl ⟨(1, j), ?_, q5.1, q5.2⟩⟩⟩
        · have a1 := f2.mp (by omega)
          have a2 := s62.mp a1
          exact ⟨t.2.1 (by omega), fun _ => ⟨t.2.1 (by omega), fun _ => step 8 (t8 a2) (by omega), fun w => absurd w (by omega)⟩, fun w => absurd w (by omega)⟩
        · rw [eR, if_neg]
          intro c
          have c3 : T j = 10107 ∨ T j = 10108 ∨ T j = 10109 := by omega
          rcases c3 with c3 | c3 | c3
          · have := b2.mpr (s60.mpr c3); omega
          · have := d2.mpr (s61.mpr c3); omega
          · have := f2.mpr (s62.mpr c3); omega
  · obtain ⟨e, p1, p2⟩ := q1.bad z
    exact Or.inl ⟨e, by unfold cmpG; rw [Rs.go_l p1], rfl, p2⟩
theorem tr_waits {T pl en : Nat → Int} {u S : Sto} {i : Nat} {l : List Int} {o x : Int} {st : List Int} (h : RQ T pl en u S i l o st) (hs : st.length < 40) : ClV LY 0 MX12_waits [.inr 75, .inl x] S (fun S' => RQ T pl en u S' i l o (st ++ [x])) := by
  obtain ⟨h1, h2, h3, ⟨h4, h5, h6⟩, ⟨h7, h8⟩, h9, h10, h11⟩ := h
  refine ClV.intro (by decide) rfl (Nat.le_of_ble_eq_true rfl) (fun X C r => ?_)
  refine kb_X12_waits_0 C r ?_
  rw [h10]
  refine ⟨⟨by omega, by omega⟩, ?_⟩
  rintro s1 hs1
  have e1 : s1 75 39 = st.length := by rw [hs1, up_row (by decide), h10]
  rw [e1]
  rintro s2 hs2
  have r75 : ∀ j : Int, j ≠ 39 → s2 75 j = S 75 j := fun j hj => by rw [hs2, up_idx hj, hs1, up_row (by decide)]
  have rc : ∀ c : Nat, c ≠ 75 → c ≠ 98 → s2 c = S c := fun c c1 c2 => by rw [hs2, up_row c1, hs1, up_row c2]
  refine ⟨fun c c1 c2 c3 c4 => by rw [rc c c1 c4, h1 c c1 c2 c3 c4], fun j hj => by rw [r75 j (by omega), h2 j hj], fun j hj => by rw [rc 96 (by decide) (by decide), rc 97 (by decide) (by decide)]; exact h3 j hj, ⟨by rw [r75 26 (by decide), h4], by rw [r75 25 (by decide), h5], by rw [r75 27 (by decide), r75 28 (by decide)]; exact h6⟩, ⟨by rw [r75 36 (by decide), h7], fun k hk => by rw [rc 96 (by decide) (by decide), rc 97 (by decide) (by decide)]; exact h8 k hk⟩, by rw [r75 37 (by decide), h9], ?_, fun k hk => ?_⟩
  · rw [hs2, up_at, List.length_append, List.length_singleton]; omega
  · rw [List.length_append, List.length_singleton] at hk
    rw [hs2, up_row (by decide), hs1, up_if]
    by_cases e : k = st.length
    · rw [if_pos (by omega), e, getD_r (Nat.le_refl _), Nat.sub_self]; rfl
    · rw [if_neg (by omega), getD_l (by omega)]
      exact h11 k (by omega)
/-- the counts of open ones and of those waiting may be set -/
theorem RQ.set {T pl en : Nat → Int} {u S S' : Sto} {i : Nat} {l : List Int} {o o' : Int} {st st' : List Int} (h : RQ T pl en u S i l o st) (e : ∀ c : Nat, c ≠ 75 → S' c = S c) (e75 : ∀ j : Int, j ≠ 37 → j ≠ 39 → S' 75 j = S 75 j) (ho : S' 75 37 = o') (hs : S' 75 39 = st'.length) (hp : ∀ k : Nat, k < st'.length → k < st.length ∧ st'.getD k 0 = st.getD k 0) : RQ T pl en u S' i l o' st' := by
  obtain ⟨h1, h2, h3, ⟨h4, h5, h6⟩, ⟨h7, h8⟩, h9, h10, h11⟩ := h
  refine ⟨fun c c1 c2 c3 c4 => by rw [e c c1, h1 c c1 c2 c3 c4], fun j hj => by rw [e75 j (by omega) (by omega), h2 j hj], fun j hj => by rw [e 96 (by decide), e 97 (by decide)]; exact h3 j hj, ⟨by rw [e75 26 (by decide) (by decide), h4], by rw [e75 25 (by decide) (by decide), h5], by rw [e75 27 (by decide) (by decide), e75 28 (by decide) (by decide)]; exact h6⟩, ⟨by rw [e75 36 (by decide) (by decide), h7], fun k hk => by rw [e 96 (by decide), e 97 (by decide)]; exact h8 k hk⟩, ho, hs, fun k hk => ?_⟩
  rw [e 98 (by decide), (hp k hk).2]
  exact h11 k (hp k hk).1
/-- those of one kind on top are written -/
theorem tr_settles {T pl en : Nat → Int} {u : Sto} {x t : Int} {st0 : List Int} (hx : rg x) (ht : TokR t x 0) (hn : st0 = [] ∨ ∃ (s1 : List Int) (y : Int), st0 = s1 ++ [y] ∧ y ≠ x ∧ rg y) : ∀ (k : Nat) (S : Sto) (i : Nat) (l : List Int) (o : Int), RQ T pl en u S i l o (st0 ++ List.replicate k x) → l.length + k ≤ 400 → st0.length + k ≤ 40 → ClV LY 1 MX12_settles [.inr 75, .inl x] S (fun S' => RQ T pl en u S' i (l ++ List.replicate k t) (if x = 9 then o - k else o) st0) := by
  intro k S i l o h hl hs
  refine ClV.intro (by decide) rfl (Nat.le_of_ble_eq_true rfl) (fun X C r => ?_)
  have main : ∀ (a b : Nat) (S' : Sto), a + b = k → RQ T pl en u S' i (l ++ List.replicate a t) (if x = 9 then o - a else o) (st0 ++ List.replicate b x) → G LY X 0 [rv 75, iv x] [] S' := by
    intro a b
    induction b generalizing a with
    | zero =>
      intro S' hab q
      have ak : a = k := by omega
      rw [ak] at q
      have e0 : st0 ++ List.replicate 0 x = st0 := by simp
      rw [e0] at q
      obtain ⟨_, _, _, _, _, _, q7, q8⟩ := id q
      refine kb_X12_settles_0 C r ?_
      rw [q7]
      rcases hn with hn | ⟨s1, y, hn, hy, ry⟩
      · subst hn
        exact ⟨by decide, fun _ => q, fun z => absurd z (by simp)⟩
      · have ln : st0.length = s1.length + 1 := by rw [hn, List.length_append, List.length_singleton]
        have g := q8 s1.length (by omega)
        rw [hn, getD_r (Nat.le_refl _), Nat.sub_self] at g
        have g' : S' 98 ((st0.length : Int) - 1) = y := by
          rw [show (st0.length : Int) - 1 = (s1.length : Int) by omega]
          exact g
        rw [g']
        exact ⟨⟨by omega, by omega⟩, fun _ => q, fun _ => ⟨⟨by omega, by omega⟩, ⟨ry, hx⟩, fun _ => q, fun z => absurd z hy⟩⟩
    | succ b ih =>
      intro S' hab q
      obtain ⟨_, _, _, _, _, q6, q7, q8⟩ := id q
      have eb : st0 ++ List.replicate (b + 1) x = (st0 ++ List.replicate b x) ++ [x] := by rw [List.replicate_succ', List.append_assoc]
      have ln : (st0 ++ List.replicate (b + 1) x).length = st0.length + b + 1 := by rw [List.length_append, List.length_replicate]; omega
      have g := q8 (st0.length + b) (by omega)
      have lb : (st0 ++ List.replicate b x).length = st0.length + b := by rw [List.length_append, List.length_replicate]
      rw [eb, getD_r (by omega), lb, Nat.sub_self] at g
      refine kb_X12_settles_0 C r ?_
      rw [q7, ln]
      have g' : S' 98 (((st0.length + b + 1 : Nat) : Int) - 1) = x := by
        rw [show ((st0.length + b + 1 : Nat) : Int) - 1 = ((st0.length + b : Nat) : Int) by omega]
        exact g
      rw [g']
      refine ⟨⟨by omega, by omega⟩, fun z => absurd z (by omega), fun _ => ⟨⟨by omega, by omega⟩, ⟨hx, hx⟩, fun z => absurd rfl z, fun _ => ?_⟩⟩
      rintro s1 hs1
      have q1 : RQ T pl en u s1 i (l ++ List.replicate a t) (if x = 9 then o - a else o) (st0 ++ List.replicate b x) := q.set (fun c hc => by rw [hs1, up_row hc]) (fun j _ hj => by rw [hs1, up_idx hj]) (by rw [hs1, up_idx (by decide), q6]) (by rw [hs1, up_at, lb]; omega) (fun n hn' => by
        rw [lb] at hn'
        refine ⟨by omega, ?_⟩
        rw [eb]
        exact (getD_l (by omega)).symm)
      have la : (l ++ List.replicate a t).length = l.length + a := by rw [List.length_append, List.length_replicate]
      refine ⟨0, _, by decide, tr_emits q1 ht (by omega), fun s2 q2 => ?_⟩
      have ea : l ++ List.replicate a t ++ [t] = l ++ List.replicate (a + 1) t := by rw [List.append_assoc, ← List.replicate_succ']
      rw [ea] at q2
      refine ⟨hx, fun z => ih (a + 1) s2 (by omega) ?_, fun z => ?_⟩
      · rw [if_neg z] at q2 ⊢
        exact q2
      · rintro s3 hs3
        refine ih (a + 1) s3 (by omega) ?_
        rw [if_pos z] at q2 ⊢
        obtain ⟨_, _, _, _, _, w6, w7, _⟩ := id q2
        exact q2.set (fun c hc => by rw [hs3, up_row hc]) (fun j hj _ => by rw [hs3, up_idx hj]) (by rw [hs3, up_at, w6]; omega) (by rw [hs3, up_idx (by decide), w7]) (fun n hn' => ⟨hn', rfl⟩)
  refine main 0 k S (by omega) ?_
  have e1 : l ++ List.replicate 0 t = l := by simp
  rw [e1]
  by_cases z : x = 9
  · rw [if_pos z, show o - ((0 : Nat) : Int) = o by omega]; exact h
  · rw [if_neg z]; exact h
