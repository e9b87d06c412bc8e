/-! OPERATION: text -/
theorem LandR.nam [Inhabited YT] {s t : Sto} (h : LandR s 3 s) (hc : ∀ c : Nat, 3 ≤ c → c ≤ 16 → t c = s c) (hm : ∀ c : Nat, 76 ≤ c → c ≤ 90 → t c = s c) (h75 : ∀ j : Int, j = 1 ∨ j = 4 ∨ j = 8 ∨ j = 9 ∨ j = 18 ∨ j = 21 ∨ j = 22 → t 75 j = s 75 j) (h30 : t 17 0 = t 75 30) (hN : NamingR (t 17 0) (t 17 1) (t 18) (t 19) (t 20) (t 93) (t 94) (t 95) (t 96) (t 97)) : LandR t 3 t := by
  obtain ⟨a1, a2, a3, a4, a5, a6, a7, a8, a9, a10, a11, a12, a13, a14, a15⟩ := h
  unfold LandR
  rw [hc 3 (by decide) (by decide), hc (3 + 1) (by decide) (by decide), hc (3 + 2) (by decide) (by decide), hc (3 + 3) (by decide) (by decide), hc (3 + 4) (by decide) (by decide), hc (3 + 5) (by decide) (by decide), hc (3 + 6) (by decide) (by decide), hc (3 + 7) (by decide) (by decide), hc (3 + 8) (by decide) (by decide), hc (3 + 9) (by decide) (by decide), hc (3 + 10) (by decide) (by decide), hc (3 + 11) (by decide) (by decide), hc (3 + 12) (by decide) (by decide), hc (3 + 13) (by decide) (by decide)]
  rw [hm 76 (by decide) (by decide), hm 77 (by decide) (by decide), hm 78 (by decide) (by decide), hm 79 (by decide) (by decide), hm 80 (by decide) (by decide), hm 81 (by decide) (by decide), hm 82 (by decide) (by decide), hm 83 (by decide) (by decide), hm 84 (by decide) (by decide), hm 85 (by decide) (by decide), hm 86 (by decide) (by decide), hm 87 (by decide) (by decide), hm 88 (by decide) (by decide), hm 89 (by decide) (by decide), hm 90 (by decide) (by decide)]
  rw [h75 1 (by omega), h75 4 (by omega), h75 8 (by omega), h75 9 (by omega), h75 18 (by omega), h75 21 (by omega), h75 22 (by omega)]
  exact ⟨a1, a2, a3, a4, a5, a6, a7, a8, a9, a10, a11, a12, a13, a14, h30, hN⟩
theorem Inv.text [Inhabited YT] {s t : Sto} (h : Inv s) (hL : LandR t 3 t) (e0 : ∀ c : Nat, c = 0 ∨ (21 ≤ c ∧ c ≤ 38) ∨ c = 92 ∨ c = 118 → t c = s c) (e75 : ∀ j : Int, j = 22 ∨ j = 59 ∨ j = 69 → t 75 j = s 75 j) (e1 : t 1 1 = 0 ∧ t 75 24 = 0) (e39 : t 39 4 = t 75 42 ∧ rg (t 39 4) ∧ t 39 5 = t 75 43 ∧ rg (t 39 5)) : Inv t := by
  obtain ⟨⟨h1, h2⟩, h3, h4, ⟨h5, h6, h7⟩, h8, h9, h10⟩ := h
  refine ⟨⟨by rw [e1.1, e1.2], ?_⟩, hL, e39, ⟨?_, ?_, ?_⟩, ?_, ?_, ?_⟩
  · rw [e1.1]; exact ⟨by decide, by decide, fun i i0 i1 => absurd i1 (by omega)⟩
  · rw [e0 0 (by omega), e75 69 (by omega)]; exact h5
  · rw [e0 0 (by omega)]; exact h6
  · intro q
    rw [e0 0 (by omega)] at q
    obtain ⟨m, k1, k2, k3⟩ := h7 q
    exact ⟨m, k1.congr (fun c i a b => by rw [e0 c (by omega)]) (fun _ _ _ => rfl), by rw [e0 118 (by omega)]; exact k2, k3⟩
  · rw [e75 22 (by omega)]; exact h8
  · rw [e75 59 (by omega)]; exact h9
  · rw [e0 92 (by omega)]; exact h10
/-- the LINES in force, on both sides -/
theorem naming_of {q : List (Int × Int)} {l : List Int} {vd le cd wd fr to op ar : Int → Int} (h : TL q l) (hq : q.length ≤ 16) (hl : l.length ≤ 400) (h1 : ∀ k : Nat, k < q.length → vd (k : Int) = (q.getD k (0, 0)).1 ∧ le (k : Int) = (q.getD k (0, 0)).2) (h2 : ∀ k : Nat, k < l.length → cd (k : Int) = l.getD k 0) (h3 : ∀ k : Nat, k < q.length → ((q.getD k (0, 0)).1 = 10000 ∧ wd (k : Int) = 0 ∨ (q.getD k (0, 0)).1 = 10001 ∧ wd (k : Int) = 1) ∧ to (k : Int) = (q.getD k (0, 0)).2 ∧ fr (k : Int) = if k = 0 then 0 else (q.getD (k - 1) (0, 0)).2) (h4 : ∀ k : Nat, k < l.length → TokR (l.getD k 0) (op (k : Int)) (ar (k : Int))) : NamingR (q.length : Int) (l.length : Int) vd le cd wd fr to op ar := by
  refine ⟨⟨by omega, by omega⟩, ⟨by omega, by omega⟩, fun i i0 i1 => ?_, fun z => ?_, fun i i0 i1 => ?_⟩
  · obtain ⟨k, rfl⟩ := Int.eq_ofNat_of_zero_le i0
    rw [h2 k (by omega)]
    exact h4 k (by omega)
  · rw [h.1]
    unfold lastE
    rw [if_pos (by omega)]
  · obtain ⟨k, rfl⟩ := Int.eq_ofNat_of_zero_le i0
    have kq : k < q.length := by omega
    obtain ⟨A, c, B, a1, a2, a3, a4, a5⟩ := h.2 k kq
    have v := h1 k kq
    have w := h3 k kq
    have ll : l.length = A.length + (c.length + B.length) := by rw [a1, List.length_append, List.length_append]
    have ft : fr (k : Int) = A.length := by rw [w.2.2, a2]
    have tt : to (k : Int) = ((A.length + c.length : Nat) : Int) := by rw [w.2.1, a3]
    refine ⟨by rw [v.1]; exact w.1, by rw [v.2, w.2.1], ?_, by omega, by omega, by omega, fun lt => ?_⟩
    · rw [w.2.2]
      by_cases z : k = 0
      · rw [if_pos z, if_pos (by omega)]
      · rw [if_neg z, if_neg (by omega), show (k : Int) - 1 = ((k - 1 : Nat) : Int) by omega, (h3 (k - 1) (by omega)).2.1]
    · rcases a5 with a5 | ⟨a5, a6⟩
      · rw [a5] at tt
        simp at tt
        omega
      · refine line_ok a5 a6 (by omega) (fun j hj => ?_)
        rw [ft]
        have e : l.getD (A.length + j) 0 = c.getD j 0 := by
          rw [a1, getD_r (by omega), show A.length + j - A.length = j by omega, getD_l hj]
        have g := h4 (A.length + j) (by omega)
        rw [e, show ((A.length + j : Nat) : Int) = (A.length : Int) + j by omega] at g
        exact g
set_option maxHeartbeats 8000000 in
theorem op_text [Inhabited YT] {s : Sto} (h : Inv s) : OpI MX11_text MX12_text [] s := by
  obtain ⟨⟨i1, i2, i3, i4⟩, i5, i6, _, i8, i9, i10⟩ := id h
  have tb : ∀ x : Int, 0 ≤ x → x < s 1 1 → 0 ≤ s 2 x ∧ s 2 x < 256 := fun x x0 x1 => by have := i4 x x0 x1; omega
  refine ⟨31, 9, (fun r1 s1 => ∃ (T pl en : Nat → Int) (N : Nat), TKS (s 2) (s 1 1) T pl en N ∧ N ≤ 400 ∧ s1 1 1 = 0 ∧ ((∃ e : Int × Nat, txtG T 401 0 [] [] = .inl e ∧ r1 = -1 ∧ (∀ c : Nat, c ≠ 1 → ¬ (39 ≤ c ∧ c ≤ 45) → s1 c = s c) ∧ s1 39 4 = e.1 ∧ s1 39 5 = pl e.2) ∨ ∃ (q : List (Int × Int)) (l : List Int), txtG T 401 0 [] [] = .inr (q, l) ∧ r1 = q.length ∧ (∀ c : Nat, c ≠ 1 → ¬ (17 ≤ c ∧ c ≤ 20) → ¬ (39 ≤ c ∧ c ≤ 45) → s1 c = s c) ∧ s1 39 4 = 0 ∧ s1 39 5 = -1 ∧ s1 17 0 = q.length ∧ s1 17 1 = l.length ∧ (∀ k : Nat, k < l.length → s1 20 (k : Int) = l.getD k 0) ∧ ∀ k : Nat, k < q.length → s1 18 (k : Int) = (q.getD k (0, 0)).1 ∧ s1 19 (k : Int) = (q.getD k (0, 0)).2)), by decide, by decide, ?_, ?_⟩
  · refine ClI.intro (by decide) rfl (Nat.le_of_ble_eq_true rfl) (fun X C r => ?_)
    refine kb_X11_text_0 C r ⟨30, _, by decide, t_X8_read rfl ⟨i2, i3⟩ tb, ?_⟩
    rintro a S ⟨f1, T, pl, en, N, hT, hN, hh⟩ s2 hs2
    rcases hh with ⟨e, p1, p2, p3, p4⟩ | ⟨q, l, p1, p2, p3, p4, p5, p6, p7, p8⟩
    · rw [p2]
      refine ⟨by decide, fun z => absurd rfl z, fun _ => ⟨T, pl, en, N, hT, hN, by rw [hs2, up_at], Or.inl ⟨e, p1, rfl, fun c c1 c2 => by rw [hs2, up_row c1, f1 c c2], by rw [hs2, up_row (by decide), p3], by rw [hs2, up_row (by decide), p4]⟩⟩⟩
    · have tl := txtG_TL hT.1 401 0 [] q [] l (by omega) ⟨rfl, fun k hk => absurd hk (Nat.not_lt_zero _)⟩ (by decide) (by decide) p1
      rw [p2]
      refine ⟨by decide, fun _ => ?_, fun z => absurd z (by decide)⟩
      refine ⟨1, (fun s3 => (∀ c : Nat, c ≠ 1 → ¬ (17 ≤ c ∧ c ≤ 20) → ¬ (39 ≤ c ∧ c ≤ 45) → s3 c = s c) ∧ s3 1 1 = 0 ∧ s3 39 4 = 0 ∧ s3 39 5 = -1 ∧ s3 17 0 = q.length ∧ s3 17 1 = l.length ∧ (∀ k : Nat, k < l.length → s3 20 (k : Int) = l.getD k 0) ∧ ∀ k : Nat, k < q.length → s3 18 (k : Int) = (q.getD k (0, 0)).1 ∧ s3 19 (k : Int) = (q.getD k (0, 0)).2), by decide, ?_, ?_⟩
      · refine ClV.intro (by decide) rfl (Nat.le_of_ble_eq_true rfl) (fun X C r => ?_)
        refine kb_X4_copyFrom_0 C r (by decide) ?_
        rintro t1 ht1 t2 ht2 t3 ht3 t4 ht4
        have e42 : ∀ c : Nat, c ≠ 17 → t2 c = s2 c := fun c hc => by rw [ht2, up_row hc, ht1, up_row hc]
        have v0 : t2 17 0 = q.length := by rw [ht2, up_idx (by decide), ht1, up_at, hs2, up_row (by decide), p5]
        have v1 : t2 17 1 = l.length := by rw [ht2, up_at, ht1, up_row (by decide), hs2, up_row (by decide), p6]
        have w1 : t4 17 1 = l.length := by rw [ht4, cpy_row (by decide), ht3, cpy_row (by decide), v1]
        rw [w1]
        refine ⟨⟨⟨by decide, by decide, by omega⟩, by omega, by omega⟩, ?_⟩
        rintro t5 ht5
        have rc : ∀ c : Nat, ¬ (17 ≤ c ∧ c ≤ 20) → t5 c = s2 c := fun c hc => by rw [ht5, cpy_row (by omega), ht4, cpy_row (by omega), ht3, cpy_row (by omega), e42 c (by omega)]
        refine ⟨fun c c1 c2 c3 => by rw [rc c c2, hs2, up_row c1, f1 c c3], by rw [rc 1 (by decide), hs2, up_at], by rw [rc 39 (by decide), hs2, up_row (by decide), p3], by rw [rc 39 (by decide), hs2, up_row (by decide), p4], by rw [ht5, cpy_row (by decide), ht4, cpy_row (by decide), ht3, cpy_row (by decide), v0], by rw [ht5, cpy_row (by decide), w1], fun k hk => ?_, fun k hk => ?_⟩
        · rw [ht5, cpy_in (by omega), show 0 + ((k : Int) - 0) = (k : Int) by omega, ht4, cpy_row (by decide), ht3, cpy_row (by decide), e42 45 (by decide), hs2, up_row (by decide)]
          exact p7 k hk
        · have k16 : (k : Int) < 16 := by have := tl.2.1; omega
          have g18 : t5 18 (k : Int) = S 43 (k : Int) := by rw [ht5, cpy_row (by decide), ht4, cpy_row (by decide), ht3, cpy_in (by omega), show 0 + ((k : Int) - 0) = (k : Int) by omega, e42 43 (by decide), hs2, up_row (by decide)]
          have g19 : t5 19 (k : Int) = S 44 (k : Int) := by rw [ht5, cpy_row (by decide), ht4, cpy_in (by omega), show 0 + ((k : Int) - 0) = (k : Int) by omega, ht3, cpy_row (by decide), e42 44 (by decide), hs2, up_row (by decide)]
          rw [g18, g19]
          exact p8 k hk
      · rintro s3 ⟨g1, g2, g3, g4, g5, g6, g7, g8⟩
        exact ⟨T, pl, en, N, hT, hN, g2, Or.inr ⟨q, l, p1, g5, g1, g3, g4, g5, g6, g7, g8⟩⟩
  · rintro r1 s1 ⟨T, pl, en, N, hT, hN, l0, hh⟩
    -- what both cases have
    have com : (∀ c : Nat, c ≠ 1 → ¬ (17 ≤ c ∧ c ≤ 20) → ¬ (39 ≤ c ∧ c ≤ 45) → s1 c = s c) ∧ rg r1 := by
      rcases hh with ⟨e, p1, p2, p3, _⟩ | ⟨q, l, p1, p2, p3, _⟩
      · exact ⟨fun c c1 _ c3 => p3 c c1 c3, by rw [p2]; decide⟩
      · have tl := txtG_TL hT.1 401 0 [] q [] l (by omega) ⟨rfl, fun k hk => absurd hk (Nat.not_lt_zero _)⟩ (by decide) (by decide) p1
        exact ⟨p3, by rw [p2]; exact ⟨by omega, by have := tl.2.1; omega⟩⟩
    obtain ⟨f1, hr1⟩ := com
    refine ⟨hr1, ?_⟩
    refine ClI.intro (by decide) rfl (Nat.le_of_ble_eq_true rfl) (fun X C r => ?_)
    refine kb_X12_text_0 C r ?_
    rintro z1 hz1 z2 hz2 z3 hz3 z4 hz4 z5 hz5 u hu
    have uc : ∀ c : Nat, c ≠ 75 → u c = s1 c := fun c hc => by rw [hu, up_row hc, hz5, up_row hc, hz4, up_row hc, hz3, up_row hc, hz2, up_row hc, hz1, up_row hc]
    have u75 : ∀ j : Int, ¬ (j = 0 ∨ j = 42 ∨ j = 43 ∨ j = 25 ∨ j = 36 ∨ j = 37) → u 75 j = s 75 j := fun j hj => by rw [hu, up_idx (by omega), hz5, up_idx (by omega), hz4, up_idx (by omega), hz3, up_idx (by omega), hz2, up_idx (by omega), hz1, up_idx (by omega), f1 75 (by decide) (by decide) (by decide)]
    have u25 : u 75 25 = 0 := by rw [hu, up_idx (by decide), hz5, up_idx (by decide), hz4, up_at]
    have u36 : u 75 36 = 0 := by rw [hu, up_idx (by decide), hz5, up_at]
    have u37 : u 75 37 = 0 := by rw [hu, up_at]
    have u42 : u 75 42 = 0 := by rw [hu, up_idx (by decide), hz5, up_idx (by decide), hz4, up_idx (by decide), hz3, up_idx (by decide), hz2, up_at]
    have u43 : u 75 43 = -1 := by rw [hu, up_idx (by decide), hz5, up_idx (by decide), hz4, up_idx (by decide), hz3, up_at]
    have u24 : u 75 24 = s 1 1 := by rw [u75 24 (by decide), i1]
    have u91 : u 91 = s 91 := by rw [uc 91 (by decide), f1 91 (by decide) (by decide) (by decide)]
    have u92 : u 92 = s 92 := by rw [uc 92 (by decide), f1 92 (by decide) (by decide) (by decide)]
    have ub : ∀ x : Int, 0 ≤ x → x < s 1 1 → u 91 x = s 2 x ∧ 0 ≤ s 2 x ∧ s 2 x < 256 := fun x x0 x1 => by
      rw [u91]
      have := i4 x x0 x1
      exact ⟨this.1.symm, by omega, by omega⟩
    have hz : ∀ v : Sto, v 91 = u 91 → v 92 = u 92 → v 75 24 = u 75 24 → HZ T pl en N v := fun v e1 e2 e3 => hz_of hT hN (by rw [e3, u24]) ⟨i2, i3⟩ (by rw [e1]; exact ub) (by rw [e2, u92]; exact i10)
    refine ⟨2, _, by decide, t_X12_reads (k := 0) hT (by omega) u24 ⟨i2, i3⟩ ub (by rw [u92]; exact i10) (by rw [u25]; exact hT.2.2.2.1) (by rw [u25]; decide), ?_⟩
    rintro s7 ⟨⟨r1', r2'⟩, a1, a2, a3⟩
    have k7 : KT T pl en u s7 0 [] [] := ⟨fun c c1 _ => r1' c c1, fun j hj => r2' j (by omega), ⟨fun j _ => by rw [r1' 96 (by decide), r1' 97 (by decide)]; exact ⟨rfl, rfl⟩, fun j _ => by rw [r1' 93 (by decide), r1' 94 (by decide), r1' 95 (by decide)]; exact ⟨rfl, rfl, rfl⟩⟩, ⟨a1, a2, a3⟩, ⟨by rw [r2' 36 (by decide), u36]; rfl, fun k hk => absurd hk (Nat.not_lt_zero _)⟩, by rw [r2' 37 (by decide), u37], fun k hk => absurd hk (Nat.not_lt_zero _)⟩
    refine ⟨8, _, by decide, tr_readText hz k7, ?_⟩
    rintro r8 s8 q8 s9 hs9
    rcases q8 with ⟨e, p1, p2, b1, b2, ⟨b3, b4⟩, b5, b6⟩ | ⟨i, q, l, p1, p2, kt⟩
    · -- a fault
      rcases hh with ⟨e', p1', p2', p3', p4', p5'⟩ | ⟨q, l, p1', _⟩
      · have ee : e' = e := by rw [p1] at p1'; injection p1' with x; exact x.symm
        subst ee
        rw [p2]
        refine ⟨by decide, fun z => absurd rfl z, fun _ => ?_⟩
        rintro s10 hs10 s11 hs11
        have c9 : s9 75 40 = e'.1 := by rw [hs9, up_idx (by decide), b5]
        have c10 : s10 75 41 = pl e'.2 := by rw [hs10, up_idx (by decide), hs9, up_idx (by decide), b6]
        rw [c9] at hs10
        rw [c10] at hs11
        have rc : ∀ c : Nat, c ≠ 75 → s11 c = s8 c := fun c hc => by rw [hs11, up_row hc, hs10, up_row hc, hs9, up_row hc]
        have r75 : ∀ j : Int, j ≠ 24 → j ≠ 42 → j ≠ 43 → s11 75 j = s8 75 j := fun j j1 j2 j3 => by rw [hs11, up_idx j3, hs10, up_idx j2, hs9, up_idx j1]
        have rs : ∀ c : Nat, c ≠ 75 → c ≠ 1 → ¬ (93 ≤ c ∧ c ≤ 98) → ¬ (39 ≤ c ∧ c ≤ 45) → s11 c = s c := fun c c1 c2 c3 c4 => by rw [rc c c1, b1 c c1 c3, uc c c1, p3' c c2 c4]
        have rm : ∀ j : Int, ¬ (j = 0 ∨ j = 24 ∨ j = 42 ∨ j = 43) → ¬ (j = 25 ∨ j = 26 ∨ j = 27 ∨ j = 28 ∨ j = 36 ∨ j = 37 ∨ j = 39 ∨ j = 40 ∨ j = 41) → s11 75 j = s 75 j := fun j j1 j2 => by rw [r75 j (by omega) (by omega) (by omega), b2 j j2, u75 j (by omega)]
        refine ⟨p2'.symm, h.text (i5.congr (fun c j c1 c2 => by rw [rs c (by omega) (by omega) (by omega) (by omega)]) (fun c j hp => ?_)) (fun c hc => rs c (by omega) (by omega) (by omega) (by omega)) (fun j hj => rm j (by omega) (by omega)) ⟨by rw [rc 1 (by decide), b1 1 (by decide) (by decide), uc 1 (by decide), l0], by rw [hs11, up_idx (by decide), hs10, up_idx (by decide), hs9, up_at]⟩ ?_⟩
        · unfold perM at hp
          by_cases q75 : c = 75
          · subst q75
            exact rm j (by omega) (by omega)
          · by_cases q93 : 93 ≤ c ∧ c ≤ 98
            · have hp' : ((c = 93 ∨ c = 94 ∨ c = 95) ∧ 0 ≤ j ∧ j < 16) ∨ ((c = 96 ∨ c = 97) ∧ 0 ≤ j ∧ j < 400) := by omega
              rw [rc c q75]
              rcases hp' with ⟨x | x | x, _, y⟩ | ⟨x | x, _, y⟩
              · rw [x, (b4 j y).1, uc 93 (by decide), p3' 93 (by decide) (by decide)]
              · rw [x, (b4 j y).2.1, uc 94 (by decide), p3' 94 (by decide) (by decide)]
              · rw [x, (b4 j y).2.2, uc 95 (by decide), p3' 95 (by decide) (by decide)]
              · rw [x, (b3 j y).1, uc 96 (by decide), p3' 96 (by decide) (by decide)]
              · rw [x, (b3 j y).2, uc 97 (by decide), p3' 97 (by decide) (by decide)]
            · rw [rs c q75 (by omega) q93 (by omega)]
        · have x4 : s11 39 4 = e'.1 := by rw [rc 39 (by decide), b1 39 (by decide) (by decide), uc 39 (by decide), p4']
          have x5 : s11 39 5 = pl e'.2 := by rw [rc 39 (by decide), b1 39 (by decide) (by decide), uc 39 (by decide), p5']
          have y42 : s11 75 42 = e'.1 := by rw [hs11, up_idx (by decide), hs10, up_at]
          have y43 : s11 75 43 = pl e'.2 := by rw [hs11, up_at]
          have er := txtG_er hT.1 401 0 [] [] e' (by omega) p1
          have pb := hT.pl (k := e'.2) i2 er.2
          refine ⟨by rw [x4, y42], ?_, by rw [x5, y43], ?_⟩
          · rw [x4]; exact ⟨by omega, by omega⟩
          · rw [x5]; exact ⟨by omega, by omega⟩
      · rw [p1] at p1'; cases p1'
    · -- LINES
      rcases hh with ⟨e', p1', _⟩ | ⟨q', l', p1', p2', _, p4', p5', p6', p7', p8', p9'⟩
      · rw [p1] at p1'; cases p1'
      have eq : q' = q ∧ l' = l := by
        rw [p1] at p1'
        injection p1' with x
        injection x with x1 x2
        exact ⟨x1.symm, x2.symm⟩
      obtain ⟨rfl, rfl⟩ := eq
      have tl := txtG_TL hT.1 401 0 [] q' [] l' (by omega) ⟨rfl, fun k hk => absurd hk (Nat.not_lt_zero _)⟩ (by decide) (by decide) p1
      obtain ⟨b1, b2, ⟨b3, b4⟩, _, ⟨b5, b6⟩, _, b7⟩ := kt
      have q16 := tl.2.1
      have l400 : l'.length ≤ 400 := by have := tl.2.2; omega
      rw [p2]
      refine ⟨⟨by omega, by omega⟩, fun _ => ?_, fun z => absurd z (by omega)⟩
      have c36 : s9 75 36 = l'.length := by rw [hs9, up_idx (by decide), b5]
      have rc9 : ∀ c : Nat, c ≠ 75 → s9 c = s8 c := fun c hc => by rw [hs9, up_row hc]
      -- codes
      have codes : ∀ V : Sto, (∀ c : Nat, ¬ (93 ≤ c ∧ c ≤ 95) → V c = s9 c) → (∀ k : Nat, k < q'.length → V 93 (k : Int) = s8 93 (16 + (k : Int)) ∧ V 94 (k : Int) = s8 94 (16 + (k : Int)) ∧ V 95 (k : Int) = s8 95 (16 + (k : Int))) → G LY X 127 [rv 75, iv (q'.length : Int), iv 0] [] V := fun V v1 v2 => by
        have loop : ∀ U : Sto, ((∀ c : Nat, c ≠ 96 → c ≠ 97 → U c = V c) ∧ (∀ j : Int, 0 ≤ j → j < 0 → U 96 j = s8 96 (400 + j) ∧ U 97 j = s8 97 (400 + j)) ∧ ∀ j : Int, 400 ≤ j → U 96 j = s8 96 j ∧ U 97 j = s8 97 j) → G LY X 127 [rv 75, iv (q'.length : Int), iv 0] [] U := by
          refine downI (P := fun k => ∀ U : Sto, ((∀ c : Nat, c ≠ 96 → c ≠ 97 → U c = V c) ∧ (∀ j : Int, 0 ≤ j → j < k → U 96 j = s8 96 (400 + j) ∧ U 97 j = s8 97 (400 + j)) ∧ ∀ j : Int, 400 ≤ j → U 96 j = s8 96 j ∧ U 97 j = s8 97 j) → G LY X 127 [rv 75, iv (q'.length : Int), iv k] [] U) (a := 0) (b := (l'.length : Int)) (by omega) ?_ ?_
          · rintro U ⟨g1, g2, g3⟩
            have e36 : U 75 36 = l'.length := by rw [g1 75 (by decide) (by decide), v1 75 (by decide), c36]
            refine kb_X12_text_127 C r ?_
            rw [e36]
            refine ⟨⟨⟨by omega, by omega⟩, ⟨by omega, by omega⟩⟩, fun _ => ?_, fun z => absurd z (by omega)⟩
            rintro w hw
            have rc : ∀ c : Nat, c ≠ 75 → c ≠ 96 → c ≠ 97 → w c = V c := fun c c1 c2 c3 => by rw [hw, up_row c1, g1 c c2 c3]
            have rs : ∀ c : Nat, c ≠ 75 → c ≠ 1 → ¬ (93 ≤ c ∧ c ≤ 98) → ¬ (17 ≤ c ∧ c ≤ 20) → ¬ (39 ≤ c ∧ c ≤ 45) → w c = s c := fun c c1 c2 c3 c4 c5 => by rw [rc c c1 (by omega) (by omega), v1 c (by omega), rc9 c c1, b1 c c1 c3, uc c c1, f1 c c2 c4 c5]
            have ru : ∀ c : Nat, c ≠ 75 → ¬ (93 ≤ c ∧ c ≤ 98) → w c = s1 c := fun c c1 c3 => by rw [rc c c1 (by omega) (by omega), v1 c (by omega), rc9 c c1, b1 c c1 c3, uc c c1]
            have r75 : ∀ j : Int, j ≠ 30 → j ≠ 24 → w 75 j = s8 75 j := fun j j1 j2 => by rw [hw, up_idx j1, g1 75 (by decide) (by decide), v1 75 (by decide), hs9, up_idx j2]
            have rm : ∀ j : Int, ¬ (j = 0 ∨ j = 24 ∨ j = 30 ∨ j = 42 ∨ j = 43) → ¬ (j = 25 ∨ j = 26 ∨ j = 27 ∨ j = 28 ∨ j = 36 ∨ j = 37 ∨ j = 39 ∨ j = 40 ∨ j = 41) → w 75 j = s 75 j := fun j j1 j2 => by rw [r75 j (by omega) (by omega), b2 j j2, u75 j (by omega)]
            have w30 : w 75 30 = q'.length := by rw [hw, up_at]
            have w17 : w 17 = s1 17 := ru 17 (by decide) (by decide)
            refine ⟨p2'.symm, h.text (i5.nam (fun c c1 c2 => rs c (by omega) (by omega) (by omega) (by omega) (by omega)) (fun c c1 c2 => rs c (by omega) (by omega) (by omega) (by omega) (by omega)) (fun j hj => rm j (by omega) (by omega)) (by rw [w17, p6', w30]) ?_) (fun c hc => rs c (by omega) (by omega) (by omega) (by omega) (by omega)) (fun j hj => rm j (by omega) (by omega)) ⟨by rw [ru 1 (by decide) (by decide), l0], ?_⟩ ?_⟩
            · rw [w17, p6', p7']
              refine naming_of tl.1 q16 l400 (fun k hk => ?_) (fun k hk => ?_) (fun k hk => ?_) (fun k hk => ?_)
              · rw [ru 18 (by decide) (by decide), ru 19 (by decide) (by decide)]
                exact p9' k hk
              · rw [ru 20 (by decide) (by decide)]
                exact p8' k hk
              · rw [rc 93 (by decide) (by decide) (by decide), rc 94 (by decide) (by decide) (by decide), rc 95 (by decide) (by decide) (by decide), (v2 k hk).1, (v2 k hk).2.1, (v2 k hk).2.2]
                exact b7 k hk
              · have e96 : w 96 (k : Int) = s8 96 (400 + (k : Int)) := by rw [hw, up_row (by decide)]; exact (g2 k (by omega) (by omega)).1
                have e97 : w 97 (k : Int) = s8 97 (400 + (k : Int)) := by rw [hw, up_row (by decide)]; exact (g2 k (by omega) (by omega)).2
                rw [e96, e97]
                exact b6 k hk
            · rw [hw, up_idx (by decide), g1 75 (by decide) (by decide), v1 75 (by decide), hs9, up_at]
            · have x4 : w 39 4 = 0 := by rw [ru 39 (by decide) (by decide), p4']
              have x5 : w 39 5 = -1 := by rw [ru 39 (by decide) (by decide), p5']
              have y42 : w 75 42 = 0 := by rw [r75 42 (by decide) (by decide), b2 42 (by decide), u42]
              have y43 : w 75 43 = -1 := by rw [r75 43 (by decide) (by decide), b2 43 (by decide), u43]
              rw [x4, x5, y42, y43]
              exact ⟨rfl, by decide, rfl, by decide⟩
          · rintro k k0 k1 ih U ⟨g1, g2, g3⟩
            have e36 : U 75 36 = l'.length := by rw [g1 75 (by decide) (by decide), v1 75 (by decide), c36]
            refine kb_X12_text_127 C r ?_
            rw [e36]
            refine ⟨⟨⟨by omega, by omega⟩, ⟨by omega, by omega⟩⟩, fun z => absurd z (by omega), fun _ => ⟨⟨by omega, by omega⟩, ⟨by omega, by omega⟩, ?_⟩⟩
            rintro y2 hy2
            refine ⟨⟨by omega, by omega⟩, ⟨by omega, by omega⟩, ?_⟩
            rintro y3 hy3
            have a97 : y2 97 (400 + k) = s8 97 (400 + k) := by rw [hy2, up_row (by decide)]; exact (g3 (400 + k) (by omega)).2
            have a96 : U 96 (400 + k) = s8 96 (400 + k) := (g3 (400 + k) (by omega)).1
            rw [a97] at hy3
            rw [a96] at hy2
            refine ih y3 ⟨fun c c1 c2 => by rw [hy3, up_row c2, hy2, up_row c1, g1 c c1 c2], fun j j0 j1 => ?_, fun j j0 => ?_⟩
            · have e96 : y3 96 j = if j = k then s8 96 (400 + k) else U 96 j := by rw [hy3, up_row (by decide), hy2, up_if]
              have e97 : y3 97 j = if j = k then s8 97 (400 + k) else U 97 j := by rw [hy3, up_if, hy2, up_row (by decide)]
              rw [e96, e97]
              by_cases e : j = k
              · rw [if_pos e, if_pos e, e]; exact ⟨rfl, rfl⟩
              · rw [if_neg e, if_neg e]; exact g2 j j0 (by omega)
            · rw [hy3, up_row (by decide), up_idx (by omega), hy2, up_idx (by omega), up_row (by decide)]
              exact g3 j j0
        exact loop V ⟨fun _ _ _ => rfl, fun j j0 j1 => absurd j1 (by omega), fun j j0 => by rw [v1 96 (by decide), v1 97 (by decide), rc9 96 (by decide), rc9 97 (by decide)]; exact ⟨rfl, rfl⟩⟩
      -- LINES
      have loop : ∀ U : Sto, ((∀ c : Nat, ¬ (93 ≤ c ∧ c ≤ 95) → U c = s9 c) ∧ (∀ j : Int, 0 ≤ j → j < 0 → U 93 j = s8 93 (16 + j) ∧ U 94 j = s8 94 (16 + j) ∧ U 95 j = s8 95 (16 + j)) ∧ ∀ j : Int, 16 ≤ j → U 93 j = s8 93 j ∧ U 94 j = s8 94 j ∧ U 95 j = s8 95 j) → G LY X 69 [rv 75, iv (q'.length : Int), iv 0] [] U := by
        refine downI (P := fun k => ∀ U : Sto, ((∀ c : Nat, ¬ (93 ≤ c ∧ c ≤ 95) → U c = s9 c) ∧ (∀ j : Int, 0 ≤ j → j < k → U 93 j = s8 93 (16 + j) ∧ U 94 j = s8 94 (16 + j) ∧ U 95 j = s8 95 (16 + j)) ∧ ∀ j : Int, 16 ≤ j → U 93 j = s8 93 j ∧ U 94 j = s8 94 j ∧ U 95 j = s8 95 j) → G LY X 69 [rv 75, iv (q'.length : Int), iv k] [] U) (a := 0) (b := (q'.length : Int)) (by omega) ?_ ?_
        · rintro U ⟨g1, g2, g3⟩
          exact kb_X12_text_69 C r ⟨⟨⟨by omega, by omega⟩, ⟨by omega, by omega⟩⟩, fun _ => codes U g1 (fun k hk => g2 k (by omega) (by omega)), fun z => absurd z (by omega)⟩
        · rintro k k0 k1 ih U ⟨g1, g2, g3⟩
          have gk := g3 (16 + k) (by omega)
          refine kb_X12_text_69 C r ⟨⟨⟨by omega, by omega⟩, ⟨by omega, by omega⟩⟩, fun z => absurd z (by omega), fun _ => ⟨⟨by omega, by omega⟩, ⟨by omega, by omega⟩, ?_⟩⟩
          rintro y1 hy1
          refine ⟨⟨by omega, by omega⟩, ⟨by omega, by omega⟩, ?_⟩
          rintro y2 hy2
          refine ⟨⟨by omega, by omega⟩, ⟨by omega, by omega⟩, ?_⟩
          rintro y3 hy3
          have a94 : y1 94 (16 + k) = s8 94 (16 + k) := by rw [hy1, up_row (by decide)]; exact gk.2.1
          have a95 : y2 95 (16 + k) = s8 95 (16 + k) := by rw [hy2, up_row (by decide), hy1, up_row (by decide)]; exact gk.2.2
          rw [gk.1] at hy1
          rw [a94] at hy2
          rw [a95] at hy3
          have e93 : ∀ j : Int, y3 93 j = if j = k then s8 93 (16 + k) else U 93 j := fun j => by rw [hy3, up_row (by decide), hy2, up_row (by decide), hy1, up_if]
          have e94 : ∀ j : Int, y3 94 j = if j = k then s8 94 (16 + k) else U 94 j := fun j => by rw [hy3, up_row (by decide), hy2, up_if, hy1, up_row (by decide)]
          have e95 : ∀ j : Int, y3 95 j = if j = k then s8 95 (16 + k) else U 95 j := fun j => by rw [hy3, up_if, hy2, up_row (by decide), hy1, up_row (by decide)]
          refine ih y3 ⟨fun c hc => by rw [hy3, up_row (by omega), hy2, up_row (by omega), hy1, up_row (by omega), g1 c hc], fun j j0 j1 => ?_, fun j j0 => ?_⟩
          · rw [e93, e94, e95]
            by_cases e : j = k
            · rw [if_pos e, if_pos e, if_pos e, e]; exact ⟨rfl, rfl, rfl⟩
            · rw [if_neg e, if_neg e, if_neg e]; exact g2 j j0 (by omega)
          · rw [e93, e94, e95, if_neg (by omega), if_neg (by omega), if_neg (by omega)]
            exact g3 j j0
      exact loop s9 ⟨fun _ _ => rfl, fun j j0 j1 => absurd j1 (by omega), fun j j0 => by rw [rc9 93 (by decide), rc9 94 (by decide), rc9 95 (by decide)]; exact ⟨rfl, rfl, rfl⟩⟩
