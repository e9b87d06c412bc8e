/-! TEXT: conditions in the reference: those waiting on a row -/
def okTop (x : Int) (st : List Int) : Prop := st = [] ∨ ∃ (s1 : List Int) (y : Int), st = s1 ++ [y] ∧ y ≠ x ∧ rg y
theorem okTop.app {x y : Int} {st : List Int} (hy : y ≠ x) (ry : rg y) : okTop x (st ++ [y]) := Or.inr ⟨st, y, rfl, hy, ry⟩
/-- behind a condition -/
def endF (X : Cx) (P : Int → Sto → Prop) (v1 : Int) (s4 : Sto) : Prop := (rg v1) ∧ ((v1 ≠ 0 → CallI LY 7 MX12_isSign [.inr 75, .inl 41] s4 (fun r5 s5 => (rg r5) ∧ ((r5 ≠ 0 → ∀ s6 : Sto, s6 = up s5 75 39 ((s5 75 39) - 1) → ∀ s7 : Sto, s7 = up s6 75 37 ((s6 75 37) - 1) → CallV LY 7 MX12_settles [.inr 75, .inl 9] s7 (fun s8 => CallV LY 7 MX12_reads [.inr 75] s8 (fun s9 => G LY X 9 [rv 75, iv (v1 - 1), iv 0, none] [] s9))) ∧ (r5 = 0 → CallI LY 7 MX12_errs [.inr 75, .inl 1] s5 (fun r10 s10 => P r10 s10))))) ∧ (v1 = 0 → P 0 s4))
set_option maxHeartbeats 16000000 in
theorem mach {T pl en : Nat → Int} {N : Nat} {u : Sto} (hr : HR T pl en N u) {X : Cx} {R : Rs} (C : Ok LY X RX12 cX12_readAny 4 7) (r : RetI LY X cX12_readAny (PR T pl en u 0 [] R)) : ∀ f : Nat, (∀ (o k i : Nat) (l st0 : List Int) (br : Int) (S : Sto), N - i < f → i ≤ N → o ≤ 8 → k ≤ o → RQ T pl en u S i l o (st0 ++ List.replicate k 9) → okTop 9 st0 → l.length + st0.length + k ≤ i → st0.length + k ≤ 3 * o + 2 → (0 ≤ br ∧ br ≤ o) → (∀ e : Int × Nat, cndG T f true (-1) o i l = .inl e → R = .inl e) → (∀ (j : Nat) (m : List Int), cndG T f true (-1) o i l = .inr (j, m) → ∀ S' : Sto, RQ T pl en u S' j (m ++ List.replicate k 10005) ((o : Int) - k) st0 → G LY X 9 [rv 75, iv br, iv 0, none] [] S') → G LY X 9 [rv 75, iv br, iv 1, none] [] S) ∧ (∀ (o i nw na : Nat) (l base : List Int) (br : Int) (S : Sto), N - i < f → i ≤ N → o ≤ 8 → nw ≤ 1 → na ≤ 1 → RQ T pl en u S i l o ((base ++ List.replicate nw 11) ++ List.replicate na 10) → okTop 10 base → okTop 11 base → l.length + base.length + nw + na ≤ i → base.length ≤ 3 * o → (0 ≤ br ∧ br ≤ o) → (∀ e : Int × Nat, cndG T f false (if nw = 0 then -1 else 10003) o i (l ++ List.replicate na 10004) = .inl e → R = .inl e) → (∀ (j : Nat) (m : List Int), cndG T f false (if nw = 0 then -1 else 10003) o i (l ++ List.replicate na 10004) = .inr (j, m) → j ≤ N → m.length + base.length ≤ j → ∀ S' : Sto, RQ T pl en u S' j m o base → endF X (PR T pl en u 0 [] R) br S') → G LY X 9 [rv 75, iv br, iv 0, none] [] S) := by
  have hN := hr.2.2
  have hE := hr.2.1
  have tNot : TokR 10005 9 0 := by unfold TokR; omega
  have tAnd : TokR 10004 10 0 := by unfold TokR; omega
  have tOr : TokR 10003 11 0 := by unfold TokR; omega
  intro f
  induction f with
  | zero => exact ⟨fun _ _ _ _ _ _ _ h => absurd h (by omega), fun _ _ _ _ _ _ _ _ h => absurd h (by omega)⟩
  | succ f ih =>
    obtain ⟨ihc, ihl⟩ := ih
    refine ⟨?_, ?_⟩
    · intro o k i l st0 br S hf hi ho hk q top hl hs hbr Kerr Kok
      have tv := q.2.2.2.1.2.2
      have tw := tv.w
      have s40 := tv.s40
      have q37 : S 75 37 = o := q.2.2.2.2.2.1
      have r37 : rg (S 75 37) := ⟨by omega, by omega⟩
      have lst : (st0 ++ List.replicate k 9).length = st0.length + k := by rw [List.length_append, List.length_replicate]
      -- too many at once
      have many : T i = 10005 ∨ T i = 10105 → S 75 37 = 8 → CallI LY 7 MX12_errs [.inr 75, .inl 3] S (fun r1 s1 => PR T pl en u 0 [] R r1 s1) := fun c c8 => ⟨0, _, by decide, tr_errs q, fun r1 s1 q1 => Or.inl ⟨(3, i), Kerr (3, i) (by
        show (if T i = 10005 then _ else if T i = 10105 then _ else _) = _
        by_cases c5 : T i = 10005
        · rw [if_pos c5, if_pos (by omega)]
        · rw [if_neg c5, if_pos (by omega), if_pos (by omega)]), q1.1, q1.2⟩⟩
      -- one more is open
      have opened : ∀ (x : Int) (s1 : Sto), s1 = up S 75 37 (S 75 37 + 1) → (T i = 10005 ∨ T i = 10105) → CallV LY 7 MX12_waits [.inr 75, .inl x] s1 (fun s2 => CallV LY 7 MX12_reads [.inr 75] s2 (fun s3 => RQ T pl en u s3 (i + 1) l ((o : Int) + 1) ((st0 ++ List.replicate k 9) ++ [x]))) := fun x s1 hs1 c => by
        have iN : i < N := RQ.ne hr hi (by omega)
        have q7 : S 75 39 = (st0 ++ List.replicate k 9).length := q.2.2.2.2.2.2.1
        have q1 : RQ T pl en u s1 i l ((o : Int) + 1) (st0 ++ List.replicate k 9) := q.set (fun c hc => by rw [hs1, up_row hc]) (fun j hj _ => by rw [hs1, up_idx hj]) (by rw [hs1, up_at, q37]) (by rw [hs1, up_idx (by decide), q7]) (fun n hn => ⟨hn, rfl⟩)
        exact ⟨0, _, by decide, tr_waits q1 (by omega), fun s2 q2 => ⟨2, _, by decide, hr.1 s2 i l _ _ q2 iN, fun s3 q3 => q3⟩⟩
      refine kb_X12_readAny_9 C r ⟨by decide, fun z => absurd z (by decide), fun _ => ⟨0, _, by decide, tr_isWord q (by decide), ?_⟩⟩
      rintro r1 s1 ⟨hs1, b1, b2⟩
      rw [hs1]
      have r1g : rg r1 := ⟨by omega, by omega⟩
      refine ⟨r1g, fun z => ⟨r37, fun z8 => ?_, fun z8 => many (by have := b2.mp (by omega); omega) z8⟩, fun z => ?_⟩
      · -- not
        have a1 := b2.mp (by omega)
        have c5 : T i = 10005 := by omega
        have iN : i < N := RQ.ne hr hi (by omega)
        have eC : cndG T (f + 1) true (-1) o i l = (cndG T f true (-1) (o + 1) (i + 1) l).go (fun j m => .inr (j, m ++ [10005])) := by
          show (if T i = 10005 then _ else _) = _
          rw [if_pos c5, if_neg (by omega)]
        rintro s19 hs19
        refine ⟨r1g, fun _ => ⟨r1g, fun y => absurd y z, fun _ => ?_⟩, fun y => absurd y z⟩
        obtain ⟨d1, Q1, a2, a3, a4⟩ := opened 9 s19 hs19 (Or.inl c5)
        refine ⟨d1, Q1, a2, a3, fun s2 g2 => ?_⟩
        obtain ⟨d2, Q2, a5, a6, a7⟩ := a4 s2 g2
        refine ⟨d2, Q2, a5, a6, fun s3 g3 => ?_⟩
        have q3 := a7 s3 g3
        have es : (st0 ++ List.replicate k 9) ++ [9] = st0 ++ List.replicate (k + 1) 9 := by rw [List.replicate_succ', List.append_assoc]
        rw [es, show (o : Int) + 1 = ((o + 1 : Nat) : Int) by omega] at q3
        refine ihc (o + 1) (k + 1) (i + 1) l st0 br s3 (by omega) (by omega) (by omega) (by omega) q3 top (by omega) (by omega) (by omega) (fun e he => Kerr e (by rw [eC, Rs.go_l he])) (fun j m hj S' q' => ?_)
        refine Kok j (m ++ [10005]) (by rw [eC, Rs.go_r hj]) S' ?_
        have em : m ++ List.replicate (k + 1) 10005 = (m ++ [10005]) ++ List.replicate k 10005 := by rw [List.replicate_succ, List.append_assoc]; rfl
        rw [em, show ((o + 1 : Nat) : Int) - ((k + 1 : Nat) : Int) = (o : Int) - k by omega] at q'
        exact q'
      · have n5 : T i ≠ 10005 := fun w => by have := b2.mpr (by omega); omega
        refine ⟨0, _, by decide, tr_isSign q (by decide), ?_⟩
        rintro r2 s2 ⟨hs2, d1, d2⟩
        rw [hs2]
        refine ⟨⟨by omega, by omega⟩, fun z2 => ?_, fun z2 => ⟨r37, fun z8 => ?_, fun z8 => many (Or.inr (s40.mp (d2.mp (by omega)))) z8⟩⟩
        · -- two sums
          have n0 : T i ≠ 10105 := fun w => by have := d2.mpr (s40.mpr w); omega
          have eC : cndG T (f + 1) true (-1) o i l = cmpG T 401 i l := by
            show (if T i = 10005 then _ else if T i = 10105 then _ else _) = _
            rw [if_neg n5, if_neg n0]
          refine ⟨6, _, by decide, tr_readCompared hr q hi (by omega), fun r3 s3 q3 => ⟨q3.bd, fun y => ?_, fun y => ?_⟩⟩
          · obtain ⟨j, m, p1, p2⟩ := q3.good y
            have ok := cmpG_ok hE hi p1
            refine ⟨1, _, by decide, tr_settles (t := 10005) (by decide) tNot top k s3 j m (o : Int) p2 (by omega) (by omega), fun s4 q4 => ?_⟩
            rw [if_pos rfl] at q4
            exact Kok j m (by rw [eC, p1]) s4 q4
          · obtain ⟨e, p1, p2⟩ := q3.bad y
            exact Or.inl ⟨e, Kerr e (by rw [eC, p1]), rfl, p2⟩
        · -- a bracket
          have c0 : T i = 10105 := s40.mp (d2.mp (by omega))
          have iN : i < N := RQ.ne hr hi (by omega)
          have eC : cndG T (f + 1) true (-1) o i l = (cndG T f true (-1) (o + 1) (i + 1) l).go (fun j m => (cndG T f false (-1) (o + 1) j m).go (fun j' m' => if T j' = 10106 then .inr (j' + 1, m') else .inl (1, j'))) := by
            show (if T i = 10005 then _ else if T i = 10105 then _ else _) = _
            rw [if_neg n5, if_pos c0, if_neg (by omega)]
          rintro s32 hs32
          refine ⟨r1g, fun y => absurd z y, fun _ => ⟨r1g, fun _ => ?_, fun y => absurd z y⟩⟩
          obtain ⟨d1, Q1, a2, a3, a4⟩ := opened 12 s32 hs32 (Or.inr c0)
          refine ⟨d1, Q1, a2, a3, fun s2 g2 => ?_⟩
          obtain ⟨d2, Q2, a5, a6, a7⟩ := a4 s2 g2
          refine ⟨d2, Q2, a5, a6, fun s3 g3 => ?_⟩
          have q3 := a7 s3 g3
          rw [show (o : Int) + 1 = ((o + 1 : Nat) : Int) by omega] at q3
          have lb : ((st0 ++ List.replicate k 9) ++ [12]).length = st0.length + k + 1 := by rw [List.length_append, lst]; rfl
          have e0 : ((st0 ++ List.replicate k 9) ++ [12]) ++ List.replicate 0 9 = (st0 ++ List.replicate k 9) ++ [12] := by simp
          refine ihc (o + 1) 0 (i + 1) l ((st0 ++ List.replicate k 9) ++ [12]) (br + 1) s3 (by omega) (by omega) (by omega) (by omega) (by rw [e0]; exact q3) (okTop.app (by decide) (by decide)) (by omega) (by omega) (by omega) (fun e he => Kerr e (by rw [eC, Rs.go_l he])) (fun j m hj S' q' => ?_)
          have ok := cndG_ok hE f true (-1) (o + 1) (i + 1) j l m (by omega) hj
          rw [if_pos (Or.inl rfl)] at ok
          have ok1 := ok.1 rfl
          have em : m ++ List.replicate 0 10005 = m := by simp
          rw [em, show ((o + 1 : Nat) : Int) - ((0 : Nat) : Int) = ((o + 1 : Nat) : Int) by omega] at q'
          have e1 : (((st0 ++ List.replicate k 9) ++ [12]) ++ List.replicate 0 11) ++ List.replicate 0 10 = (st0 ++ List.replicate k 9) ++ [12] := by simp
          have e2 : m ++ List.replicate 0 10004 = m := by simp
          refine ihl (o + 1) j 0 0 m ((st0 ++ List.replicate k 9) ++ [12]) (br + 1) S' (by omega) (by omega) (by omega) (by omega) (by omega) (by rw [e1]; exact q') (okTop.app (by decide) (by decide)) (okTop.app (by decide) (by decide)) (by omega) (by omega) (by omega) (fun e he => ?_) (fun j2 m2 hj2 jN2 lm2 S2 q2 => ?_)
          · rw [if_pos rfl, e2] at he
            exact Kerr e (by rw [eC, Rs.go_r hj, Rs.go_l he])
          · rw [if_pos rfl, e2] at hj2
            have tv2 := q2.2.2.2.1.2.2
            have s41 := tv2.s41
            refine ⟨⟨by omega, by omega⟩, fun _ => ⟨0, _, by decide, tr_isSign q2 (by decide), ?_⟩, fun y => absurd y (by omega)⟩
            rintro r5 s5 ⟨hs5, f1, f2⟩
            rw [hs5]
            refine ⟨⟨by omega, by omega⟩, fun y => ?_, fun y => ⟨0, _, by decide, tr_errs q2, fun r6 s6 q6 => Or.inl ⟨(1, j2), Kerr (1, j2) ?_, q6.1, q6.2⟩⟩⟩
            · have c6 : T j2 = 10106 := s41.mp (f2.mp (by omega))
              have j2N : j2 < N := RQ.ne hr jN2 (by omega)
              rintro s6 hs6 s7 hs7
              have w37 : S2 75 37 = ((o + 1 : Nat) : Int) := q2.2.2.2.2.2.1
              have w39 : S2 75 39 = ((st0 ++ List.replicate k 9) ++ [12]).length := q2.2.2.2.2.2.2.1
              have q7 : RQ T pl en u s7 j2 m2 (o : Int) (st0 ++ List.replicate k 9) := q2.set (fun c hc => by rw [hs7, up_row hc, hs6, up_row hc]) (fun n n1 n2 => by rw [hs7, up_idx n1, hs6, up_idx n2]) (by rw [hs7, up_at, hs6, up_idx (by decide), w37]; omega) (by rw [hs7, up_idx (by decide), hs6, up_at, w39, lb, lst]; omega) (fun n hn => ⟨by rw [lb]; omega, (getD_l hn).symm⟩)
              refine ⟨1, _, by decide, tr_settles (t := 10005) (by decide) tNot top k s7 j2 m2 (o : Int) q7 (by omega) (by omega), fun s8 q8 => ⟨2, _, by decide, hr.1 s8 j2 _ _ _ q8 j2N, fun s9 q9 => ?_⟩⟩
              rw [if_pos rfl] at q9
              rw [show br + 1 - 1 = br by omega]
              exact Kok (j2 + 1) m2 (by rw [eC, Rs.go_r hj, Rs.go_r hj2, if_pos c6]) s9 q9
            · have n6 : T j2 ≠ 10106 := fun w => by have := f2.mpr (s41.mpr w); omega
              rw [eC, Rs.go_r hj, Rs.go_r hj2, if_neg n6]
    · intro o i nw na l base br S hf hi ho hnw hna q top10 top11 hl hb hbr Kerr Kend
      have tv := q.2.2.2.1.2.2
      have tw := tv.w
      have lb : (base ++ List.replicate nw 11).length = base.length + nw := by rw [List.length_append, List.length_replicate]
      have topw : okTop 10 (base ++ List.replicate nw 11) := by
        have c : nw = 0 ∨ nw = 1 := by omega
        rcases c with c | c
        · rw [c]; simpa using top10
        · rw [c]
          exact Or.inr ⟨base, 11, rfl, by decide, by decide⟩
      have lm : (l ++ List.replicate na 10004).length = l.length + na := by rw [List.length_append, List.length_replicate]
      have ea : adw (l ++ List.replicate na 10004) (if nw = 0 then -1 else 10003) = (l ++ List.replicate na 10004) ++ List.replicate nw 10003 := by
        have c : nw = 0 ∨ nw = 1 := by omega
        unfold adw
        rcases c with c | c
        · subst c; simp
        · subst c; rfl
      have st10 : CallV LY 7 MX12_settles [.inr 75, .inl 10] S (fun s1 => RQ T pl en u s1 i (l ++ List.replicate na 10004) o (base ++ List.replicate nw 11)) := ⟨1, _, by decide, tr_settles (t := 10004) (by decide) tAnd topw na S i l (o : Int) q (by omega) (by omega), fun s1 q1 => by rw [if_neg (by decide)] at q1; exact q1⟩
      have st11 : ∀ s1 : Sto, RQ T pl en u s1 i (l ++ List.replicate na 10004) o (base ++ List.replicate nw 11) → CallV LY 7 MX12_settles [.inr 75, .inl 11] s1 (fun s2 => RQ T pl en u s2 i (adw (l ++ List.replicate na 10004) (if nw = 0 then -1 else 10003)) o base) := fun s1 q1 => ⟨1, _, by decide, tr_settles (t := 10003) (by decide) tOr top11 nw s1 i _ (o : Int) q1 (by omega) (by omega), fun s2 q2 => by rw [if_neg (by decide)] at q2; rw [ea]; exact q2⟩
      have la : (adw (l ++ List.replicate na 10004) (if nw = 0 then -1 else 10003)).length = l.length + na + nw := by rw [ea, List.length_append, List.length_replicate, lm]
      refine kb_X12_readAny_9 C r ⟨by decide, fun _ => ⟨0, _, by decide, tr_isWord q (by decide), ?_⟩, fun z => absurd rfl z⟩
      rintro r1 s1 ⟨hs1, b1, b2⟩
      rw [hs1]
      refine ⟨⟨by omega, by omega⟩, fun z => ⟨0, _, by decide, tr_isWord q (by decide), ?_⟩, fun z => ?_⟩
      · have n4 : T i ≠ 10004 := fun w => by have := b2.mpr (by omega); omega
        rintro r2 s2 ⟨hs2, d1, d2⟩
        rw [hs2]
        refine ⟨⟨by omega, by omega⟩, fun z2 => ?_, fun z2 => ?_⟩
        · -- the end of it
          have n3 : T i ≠ 10003 := fun w => by have := d2.mpr (by omega); omega
          obtain ⟨e1, Q1, a2, a3, a4⟩ := st10
          refine ⟨e1, Q1, a2, a3, fun s3 g3 => ?_⟩
          obtain ⟨e2, Q2, a5, a6, a7⟩ := st11 s3 (a4 s3 g3)
          refine ⟨e2, Q2, a5, a6, fun s4 g4 => ?_⟩
          exact Kend i _ (by
            show (if T i = 10003 then _ else if T i = 10004 then _ else _) = _
            rw [if_neg n3, if_neg n4]) hi (by omega) s4 (a7 s4 g4)
        · -- or
          have c3 : T i = 10003 := by have := d2.mp (by omega); omega
          have iN : i < N := RQ.ne hr hi (by omega)
          have eC : cndG T (f + 1) false (if nw = 0 then -1 else 10003) o i (l ++ List.replicate na 10004) = (cndG T f true (-1) o (i + 1) (adw (l ++ List.replicate na 10004) (if nw = 0 then -1 else 10003))).go (fun j m => cndG T f false 10003 o j m) := by
            show (if T i = 10003 then _ else if T i = 10004 then _ else _) = _
            rw [if_pos c3]
          obtain ⟨e1, Q1, a2, a3, a4⟩ := st10
          refine ⟨e1, Q1, a2, a3, fun s3 g3 => ?_⟩
          obtain ⟨e2, Q2, a5, a6, a7⟩ := st11 s3 (a4 s3 g3)
          refine ⟨e2, Q2, a5, a6, fun s4 g4 => ⟨0, _, by decide, tr_waits (x := 11) (a7 s4 g4) (by omega), fun s5 q5 => ⟨2, _, by decide, hr.1 s5 i _ _ _ q5 iN, fun s6 q6 => ?_⟩⟩⟩
          have e0 : (base ++ [11]) ++ List.replicate 0 9 = base ++ [11] := by simp
          have l11 : (base ++ [11]).length = base.length + 1 := by rw [List.length_append]; rfl
          refine ihc o 0 (i + 1) _ (base ++ [11]) br s6 (by omega) (by omega) ho (by omega) (by rw [e0]; exact q6) (okTop.app (by decide) (by decide)) (by omega) (by omega) hbr (fun e he => Kerr e (by rw [eC, Rs.go_l he])) (fun j m hj S' q' => ?_)
          have ok := cndG_ok hE f true (-1) o (i + 1) j _ m (by omega) hj
          rw [if_pos (Or.inl rfl)] at ok
          have ok1 := ok.1 rfl
          have em : m ++ List.replicate 0 10005 = m := by simp
          rw [em, show (o : Int) - ((0 : Nat) : Int) = (o : Int) by omega] at q'
          have es : (base ++ List.replicate 1 11) ++ List.replicate 0 10 = base ++ [11] := by simp
          have e2' : m ++ List.replicate 0 10004 = m := by simp
          refine ihl o j 1 0 m base br S' (by omega) (by omega) ho (by omega) (by omega) (by rw [es]; exact q') top10 top11 (by omega) hb hbr (fun e he => ?_) (fun j2 m2 hj2 jN2 lm2 S2 q2 => ?_)
          · rw [if_neg (by decide), e2'] at he
            exact Kerr e (by rw [eC, Rs.go_r hj, he])
          · rw [if_neg (by decide), e2'] at hj2
            exact Kend j2 m2 (by rw [eC, Rs.go_r hj, hj2]) jN2 lm2 S2 q2
      · -- and
        have c4 : T i = 10004 := by have := b2.mp (by omega); omega
        have iN : i < N := RQ.ne hr hi (by omega)
        have eC : cndG T (f + 1) false (if nw = 0 then -1 else 10003) o i (l ++ List.replicate na 10004) = (cndG T f true (-1) o (i + 1) (l ++ List.replicate na 10004)).go (fun j m => cndG T f false (if nw = 0 then -1 else 10003) o j (m ++ [10004])) := by
          show (if T i = 10003 then _ else if T i = 10004 then _ else _) = _
          rw [if_neg (by omega), if_pos c4]
        obtain ⟨e1, Q1, a2, a3, a4⟩ := st10
        refine ⟨e1, Q1, a2, a3, fun s3 g3 => ⟨0, _, by decide, tr_waits (x := 10) (a4 s3 g3) (by omega), fun s5 q5 => ⟨2, _, by decide, hr.1 s5 i _ _ _ q5 iN, fun s6 q6 => ?_⟩⟩⟩
        have e0 : ((base ++ List.replicate nw 11) ++ [10]) ++ List.replicate 0 9 = (base ++ List.replicate nw 11) ++ [10] := by simp
        have l10 : ((base ++ List.replicate nw 11) ++ [10]).length = base.length + nw + 1 := by rw [List.length_append, lb]; rfl
        refine ihc o 0 (i + 1) _ ((base ++ List.replicate nw 11) ++ [10]) br s6 (by omega) (by omega) ho (by omega) (by rw [e0]; exact q6) (okTop.app (by decide) (by decide)) (by omega) (by omega) hbr (fun e he => Kerr e (by rw [eC, Rs.go_l he])) (fun j m hj S' q' => ?_)
        have ok := cndG_ok hE f true (-1) o (i + 1) j _ m (by omega) hj
        rw [if_pos (Or.inl rfl)] at ok
        have ok1 := ok.1 rfl
        have em : m ++ List.replicate 0 10005 = m := by simp
        rw [em, show (o : Int) - ((0 : Nat) : Int) = (o : Int) by omega] at q'
        have e2' : m ++ List.replicate 1 10004 = m ++ [10004] := rfl
        refine ihl o j nw 1 m base br S' (by omega) (by omega) ho hnw (by omega) q' top10 top11 (by omega) hb hbr (fun e he => ?_) (fun j2 m2 hj2 jN2 lm2 S2 q2 => ?_)
        · rw [e2'] at he
          exact Kerr e (by rw [eC, Rs.go_r hj, he])
        · rw [e2'] at hj2
          exact Kend j2 m2 (by rw [eC, Rs.go_r hj, hj2]) jN2 lm2 S2 q2
