/-! TEXT: both readers together -/
/-- LINES with their code -/
def TL (q : List (Int × Int)) (l : List Int) : Prop := (l.length : Int) = lastE q ∧ ∀ k : Nat, k < q.length → ∃ A c B : List Int, l = A ++ (c ++ B) ∧ (A.length : Int) = (if k = 0 then 0 else (q.getD (k - 1) (0, 0)).2) ∧ ((A.length + c.length : Nat) : Int) = (q.getD k (0, 0)).2 ∧ ((q.getD k (0, 0)).1 = 10000 ∨ (q.getD k (0, 0)).1 = 10001) ∧ (c = [] ∨ (krun c [] = some [true] ∧ pk c))
theorem TL.add {q : List (Int × Int)} {l c : List Int} {x : Int} (h : TL q l) (hx : x = 10000 ∨ x = 10001) (hc : c = [] ∨ (krun c [] = some [true] ∧ pk c)) : TL (q ++ [(x, ((l ++ c).length : Int))]) (l ++ c) := by
  have ll : (q ++ [(x, ((l ++ c).length : Int))]).length = q.length + 1 := by rw [List.length_append, List.length_singleton]
  have gl : ∀ n : Nat, n < q.length → (q ++ [(x, ((l ++ c).length : Int))]).getD n (0, 0) = q.getD n (0, 0) := fun n hn => by
    rw [List.getD_eq_getElem?_getD, List.getElem?_append_left hn, ← List.getD_eq_getElem?_getD]
  have gr : (q ++ [(x, ((l ++ c).length : Int))]).getD q.length (0, 0) = (x, ((l ++ c).length : Int)) := by simp
  refine ⟨?_, fun k hk => ?_⟩
  · unfold lastE
    rw [if_neg (by omega), ll, show q.length + 1 - 1 = q.length by omega, gr]
  · rw [ll] at hk
    by_cases e : k = q.length
    · subst e
      refine ⟨l, c, [], by simp, ?_, ?_, ?_, hc⟩
      · rw [h.1]
        unfold lastE
        by_cases z : q.length = 0
        · rw [if_pos z, if_pos z]
        · rw [if_neg z, if_neg z, gl _ (by omega)]
      · rw [gr, List.length_append]
      · rw [gr]; exact hx
    · obtain ⟨A, d, B, a1, a2, a3, a4, a5⟩ := h.2 k (by omega)
      refine ⟨A, d, B ++ c, by rw [a1]; simp, ?_, by rw [gl k (by omega)]; exact a3, by rw [gl k (by omega)]; exact a4, a5⟩
      rw [a2]
      by_cases z : k = 0
      · rw [if_pos z, if_pos z]
      · rw [if_neg z, if_neg z, gl _ (by omega)]
theorem txtG_TL {T : Nat → Int} {N : Nat} (hN : T N = 10200) : ∀ (f i : Nat) (q q' : List (Int × Int)) (l l' : List Int), i ≤ N → TL q l → q.length ≤ 16 → l.length ≤ i → txtG T f i q l = .inr (q', l') → TL q' l' ∧ q'.length ≤ 16 ∧ l'.length ≤ N
  | 0, _, _, _, _, _, _, _, _, _, h => by cases h
  | f + 1, i, q, q', l, l', hi, ht, hq, hl, h => by
    unfold txtG at h
    by_cases c : T i = 10200
    · rw [if_pos c] at h
      have h' : (q, l) = (q', l') := by injection h
      have h1 : q = q' := by injection h'
      have h2 : l = l' := by injection h'
      rw [← h1, ← h2]
      exact ⟨ht, hq, by omega⟩
    · rw [if_neg c] at h
      have iN : i < N := by
        by_cases e : i = N
        · rw [e] at c; exact absurd hN c
        · omega
      rcases (lineG T q.length i l).ex with ⟨e, he⟩ | ⟨j, m, he⟩
      · rw [Rs.to_l he] at h; cases h
      · rw [Rs.to_r he] at h
        have ok := lineG_ok hN iN he
        have seg : ∃ d : List Int, m = l ++ d ∧ (d = [] ∨ (krun d [] = some [true] ∧ pk d)) := by
          unfold lineG at he
          rw [if_neg (by omega), if_neg (by omega)] at he
          by_cases c3 : T (i + 1) = 10002
          · rw [if_pos c3] at he
            have e1 : i + 1 ≠ N := fun z => by rw [z, hN] at c3; omega
            obtain ⟨j', m', u1, u2⟩ := Rs.go_inv he
            obtain ⟨d, d1, d2, d3, d4⟩ := condG_k hN (by omega) u1
            by_cases c4 : T j' = 10100
            · rw [if_pos c4] at u2
              have h' : (j' + 1, m') = (j, m) := by injection u2
              have h2 : m' = m := by injection h'
              rw [← h2]
              exact ⟨d, d1, Or.inr ⟨d4, d2⟩⟩
            · rw [if_neg c4] at u2; cases u2
          · rw [if_neg c3] at he
            by_cases c4 : T (i + 1) = 10100
            · rw [if_pos c4] at he
              have h' : (i + 2, l) = (j, m) := by injection he
              have h2 : l = m := by injection h'
              exact ⟨[], by rw [← h2]; simp, Or.inl rfl⟩
            · rw [if_neg c4] at he; cases he
        obtain ⟨d, d1, d2⟩ := seg
        have t2 := ht.add (x := T i) ok.2.2.2.2 d2
        rw [← d1] at t2
        exact txtG_TL hN f j _ q' m l' ok.2.1 t2 (by rw [List.length_append, List.length_singleton]; omega) (by omega) h
/-- the reference can read on -/
theorem hz_of {b : Int → Int} {n : Int} {T pl en : Nat → Int} {N : Nat} {u : Sto} (hT : TKS b n T pl en N) (hN : N ≤ 400) (hn : u 75 24 = n) (h : 0 ≤ n ∧ n ≤ 400) (hb : ∀ x : Int, 0 ≤ x → x < n → u 91 x = b x ∧ 0 ≤ b x ∧ b x < 256) (h92 : ∀ i : Int, 0 ≤ i → i < 81 → u 92 i = wordsT i) : HZ T pl en N u := by
  have step : ∀ (S : Sto) (i : Nat), S 91 = u 91 → S 92 = u 92 → S 75 24 = u 75 24 → S 75 25 = en i → i < N → ClV LY 2 MX12_reads [.inr 75] S (fun S' => FrR S S' ∧ S' 75 26 = pl (i + 1) ∧ S' 75 25 = en (i + 1) ∧ TVR (S' 75 27) (S' 75 28) (T (i + 1))) := fun S i e1 e2 e3 e4 iN => by
    obtain ⟨k1, k2, k3, k4⟩ := hT.2.2.2.2 i iN
    exact t_X12_reads hT (by omega) (by rw [e3, hn]) h (by rw [e1]; exact hb) (by rw [e2]; exact h92) (by rw [e4]; exact k4) (by rw [e4]; have := k2.1; omega)
  refine ⟨fun S i l q iN => ?_, fun S i l o st q iN => ?_, hT.1, hN⟩
  · obtain ⟨q1, q2, q3, ⟨q4, q5, q6⟩, q7, q8⟩ := q
    refine (step S i (q1 91 (by decide) (by decide) (by decide) (by decide)) (q1 92 (by decide) (by decide) (by decide) (by decide)) (q2 24 (by decide)) q5 iN).mono ?_
    rintro S' ⟨⟨f1, f2⟩, g1, g2, g3⟩
    exact ⟨fun c c1 c2 c3 c4 => by rw [f1 c c1, q1 c c1 c2 c3 c4], fun j hj => by rw [f2 j (by omega), q2 j hj], fun j hj => by rw [f1 96 (by decide), f1 97 (by decide)]; exact q3 j hj, ⟨g1, g2, g3⟩, ⟨by rw [f2 36 (by decide)]; exact q7.1, fun k hk => by rw [f1 96 (by decide), f1 97 (by decide)]; exact q7.2 k hk⟩, by rw [f2 37 (by decide)]; exact q8⟩
  · obtain ⟨q1, q2, q3, ⟨q4, q5, q6⟩, q7, q8, q9, q10⟩ := q
    refine (step S i (q1 91 (by decide) (by decide) (by decide) (by decide)) (q1 92 (by decide) (by decide) (by decide) (by decide)) (q2 24 (by decide)) q5 iN).mono ?_
    rintro S' ⟨⟨f1, f2⟩, g1, g2, g3⟩
    exact ⟨fun c c1 c2 c3 c4 => by rw [f1 c c1, q1 c c1 c2 c3 c4], fun j hj => by rw [f2 j (by omega), q2 j hj], fun j hj => by rw [f1 96 (by decide), f1 97 (by decide)]; exact q3 j hj, ⟨g1, g2, g3⟩, ⟨by rw [f2 36 (by decide)]; exact q7.1, fun k hk => by rw [f1 96 (by decide), f1 97 (by decide)]; exact q7.2 k hk⟩, by rw [f2 37 (by decide)]; exact q8, by rw [f2 39 (by decide)]; exact q9, fun k hk => by rw [f1 98 (by decide)]; exact q10 k hk⟩
/-- the class's reader -/
theorem t_X8_read {s : Sto} {n : Int} (hn : s 1 1 = n) (h : 0 ≤ n ∧ n ≤ 400) (hb : ∀ x : Int, 0 ≤ x → x < n → 0 ≤ s 2 x ∧ s 2 x < 256) : ClI LY 30 MX8_read [.inr 39, .inr 1] s (fun r S => (∀ c : Nat, ¬ (39 ≤ c ∧ c ≤ 45) → S c = s c) ∧ ∃ (T pl en : Nat → Int) (N : Nat), TKS (s 2) n T pl en N ∧ N ≤ 400 ∧ ((∃ e : Int × Nat, txtG T 401 0 [] [] = .inl e ∧ r = 0 ∧ S 39 4 = e.1 ∧ S 39 5 = pl e.2) ∨ ∃ (q : List (Int × Int)) (l : List Int), txtG T 401 0 [] [] = .inr (q, l) ∧ r = 1 ∧ S 39 4 = 0 ∧ S 39 5 = -1 ∧ S 42 0 = q.length ∧ S 42 1 = l.length ∧ (∀ k : Nat, k < l.length → S 45 (k : Int) = l.getD k 0) ∧ ∀ k : Nat, k < q.length → S 43 (k : Int) = (q.getD k (0, 0)).1 ∧ S 44 (k : Int) = (q.getD k (0, 0)).2)) := by
  refine ClI.introZ (by decide) rfl (Nat.le_of_ble_eq_true rfl) (fun X C r => ?_)
  refine kb_X8_read_0 C r ⟨7, _, by decide, t_X8_split hn h hb, ?_⟩
  rintro s1 ⟨g1, T, pl, en, N, hT, hQ⟩
  refine ⟨0, _, by decide, t_X4_clearv1, ?_⟩
  rintro s2 hs2 s3 hs3 s4 hs4 s5 hs5
  have f5 : ∀ c : Nat, ¬ (39 ≤ c ∧ c ≤ 42) → s5 c = s c := fun c hc => by
    rw [hs5, up_row (by omega), hs4, up_row (by omega), hs3, up_row (by omega), hs2, up_row (by omega), up_row (by omega), g1 c (by omega) (by omega)]
  have q5 : TQ T pl N s5 := by
    refine ⟨fun k hk => ?_, hQ.2⟩
    rw [hs5, up_row (by decide), up_row (by decide), hs4, up_row (by decide), up_row (by decide), hs3, up_row (by decide), up_row (by decide), hs2, up_row (by decide), up_row (by decide), up_row (by decide), up_row (by decide)]
    exact hQ.1 k hk
  have l5 : LQ s5 s5 0 [] [] := ⟨fun _ _ _ _ _ _ => rfl, by rw [hs5, up_idx (by decide), hs4, up_idx (by decide), hs3, up_at]; rfl, by rw [hs5, up_row (by decide), hs4, up_row (by decide), hs3, up_row (by decide), hs2, up_idx (by decide), up_at]; rfl, by rw [hs5, up_row (by decide), hs4, up_row (by decide), hs3, up_row (by decide), hs2, up_at]; rfl, fun k hk => absurd hk (Nat.not_lt_zero _), fun k hk => absurd hk (Nat.not_lt_zero _), by rw [hs5, up_idx (by decide), hs4, up_at], by rw [hs5, up_at]⟩
  refine t_readAll (R := txtG T 401 0 [] []) q5 C (fun pc L a S hd ha hq => r pc L a S hd ha ?_) 401 0 [] [] 0 s5 rfl l5 (by omega) (by have := hQ.2.2; omega) (by decide) (by decide) (by decide)
  rcases hq with ⟨e, p1, p2, p3⟩ | ⟨i, q, l, p1, p2, p3, p4, p5⟩
  · exact ⟨fun c hc => by rw [p3.1 c (by omega) (by omega) (by omega) (by omega) (by omega), f5 c (by omega)], T, pl, en, N, hT, hQ.2.2, Or.inl ⟨e, p1, p2, p3.2.1, p3.2.2⟩⟩
  · obtain ⟨c1, c2, c3, c4, c5, c6, c7, c8⟩ := p3
    exact ⟨fun c hc => by rw [c1 c (by omega) (by omega) (by omega) (by omega) (by omega), f5 c (by omega)], T, pl, en, N, hT, hQ.2.2, Or.inr ⟨q, l, p1, p2, c7, c8, c3, c4, c5, c6⟩⟩
/-! faults: their kinds and places -/
def Er (N : Nat) (r : Rs) : Prop := ∀ e : Int × Nat, r = .inl e → (0 ≤ e.1 ∧ e.1 ≤ 3) ∧ e.2 ≤ N
theorem Er.go {N : Nat} {r : Rs} {k : Nat → List Int → Rs} (h : Er N r) (hk : ∀ (i : Nat) (l : List Int), r = .inr (i, l) → Er N (k i l)) : Er N (r.go k) := by
  rcases r.ex with ⟨e, he⟩ | ⟨i, l, he⟩
  · rw [Rs.go_l he]
    intro e' h'
    have : e = e' := by injection h'
    rw [← this]
    exact h e he
  · rw [Rs.go_r he]
    exact hk i l he
theorem Er.l {N i : Nat} {k : Int} (hk : 0 ≤ k ∧ k ≤ 3) (hi : i ≤ N) : Er N (.inl (k, i)) := fun e he => by
  have : (k, i) = e := by injection he
  rw [← this]
  exact ⟨hk, hi⟩
theorem Er.r {N : Nat} {x : Nat × List Int} : Er N (.inr x) := fun e he => by cases he
theorem unitG_er {T : Nat → Int} {b : Int} {i N : Nat} {l : List Int} (hi : i ≤ N) : Er N (unitG T b i l) := by
  unfold unitG
  split
  · exact Er.l (by decide) hi
  · split
    · exact Er.l (by decide) hi
    · exact Er.r
theorem sumL_er {T : Nat → Int} {N : Nat} (hN : T N = 10200) : ∀ (f : Nat) (w : Int) (i : Nat) (l : List Int), i ≤ N → Er N (sumL T f w i l)
  | 0, _, _, _, _ => Er.l (by decide) (Nat.zero_le _)
  | f + 1, w, i, l, hi => by
    unfold sumL
    by_cases c : 10101 ≤ T i ∧ T i ≤ 10104
    · rw [if_pos c]
      have iN : i ≠ N := fun e => by rw [e, hN] at c; omega
      by_cases c2 : T i ≤ 10102
      · rw [if_pos c2]
        exact (unitG_er (by omega)).go (fun j m hj => sumL_er hN f (T i) j m (by have := unitG_ok hN (by omega) hj; omega))
      · rw [if_neg c2]
        exact (unitG_er (by omega)).go (fun j m hj => sumL_er hN f w j _ (by have := unitG_ok hN (by omega) hj; omega))
    · rw [if_neg c]; exact Er.r
theorem sumG_er {T : Nat → Int} {N f i : Nat} {l : List Int} (hN : T N = 10200) (hi : i ≤ N) : Er N (sumG T f i l) := by
  unfold sumG
  exact (unitG_er hi).go (fun j m hj => sumL_er hN f (-1) j m (by have := unitG_ok hN hi hj; omega))
theorem cmpG_er {T : Nat → Int} {N f i : Nat} {l : List Int} (hN : T N = 10200) (hi : i ≤ N) : Er N (cmpG T f i l) := by
  unfold cmpG
  refine (sumG_er hN hi).go (fun j m hj => ?_)
  have ok := sumG_ok hN hi hj
  by_cases c : 10107 ≤ T j ∧ T j ≤ 10109
  · rw [if_pos c]
    have jN : j ≠ N := fun e => by rw [e, hN] at c; omega
    exact (sumG_er hN (by omega)).go (fun _ _ _ => Er.r)
  · rw [if_neg c]; exact Er.l (by decide) ok.2.1
theorem cndG_er {T : Nat → Int} {N : Nat} (hN : T N = 10200) : ∀ (f : Nat) (q : Bool) (w : Int) (o i : Nat) (l : List Int), i ≤ N → Er N (cndG T f q w o i l)
  | 0, q, _, _, _, _, _ => by cases q <;> exact Er.l (by decide) (Nat.zero_le _)
  | f + 1, true, w, o, i, l, hi => by
    unfold cndG
    by_cases c : T i = 10005
    · rw [if_pos c]
      have iN : i ≠ N := fun e => by rw [e, hN] at c; omega
      by_cases c2 : 8 ≤ o
      · rw [if_pos c2]; exact Er.l (by decide) hi
      · rw [if_neg c2]
        exact (cndG_er hN f true (-1) (o + 1) (i + 1) l (by omega)).go (fun _ _ _ => Er.r)
    · rw [if_neg c]
      by_cases c3 : T i = 10105
      · rw [if_pos c3]
        have iN : i ≠ N := fun e => by rw [e, hN] at c3; omega
        by_cases c2 : 8 ≤ o
        · rw [if_pos c2]; exact Er.l (by decide) hi
        · rw [if_neg c2]
          refine (cndG_er hN f true (-1) (o + 1) (i + 1) l (by omega)).go (fun j m hj => ?_)
          have ok := cndG_ok hN f true (-1) (o + 1) (i + 1) j l m (by omega) hj
          refine (cndG_er hN f false (-1) (o + 1) j m ok.2.2.1).go (fun j' m' hj' => ?_)
          have ok' := cndG_ok hN f false (-1) (o + 1) j j' m m' ok.2.2.1 hj'
          split
          · exact Er.r
          · exact Er.l (by decide) ok'.2.2.1
      · rw [if_neg c3]; exact cmpG_er hN hi
  | f + 1, false, w, o, i, l, hi => by
    unfold cndG
    by_cases c : T i = 10003
    · rw [if_pos c]
      have iN : i ≠ N := fun e => by rw [e, hN] at c; omega
      refine (cndG_er hN f true (-1) o (i + 1) _ (by omega)).go (fun j m hj => ?_)
      have ok := cndG_ok hN f true (-1) o (i + 1) j _ m (by omega) hj
      exact cndG_er hN f false 10003 o j m ok.2.2.1
    · rw [if_neg c]
      by_cases c2 : T i = 10004
      · rw [if_pos c2]
        have iN : i ≠ N := fun e => by rw [e, hN] at c2; omega
        refine (cndG_er hN f true (-1) o (i + 1) _ (by omega)).go (fun j m hj => ?_)
        have ok := cndG_ok hN f true (-1) o (i + 1) j _ m (by omega) hj
        exact cndG_er hN f false w o j _ ok.2.2.1
      · rw [if_neg c2]; exact Er.r
theorem lineG_er {T : Nat → Int} {N n i : Nat} {l : List Int} (hN : T N = 10200) (hi : i < N) : Er N (lineG T n i l) := by
  unfold lineG
  by_cases c1 : T i ≠ 10000 ∧ T i ≠ 10001
  · rw [if_pos c1]; exact Er.l (by decide) (by omega)
  · rw [if_neg c1]
    by_cases c2 : 16 ≤ n
    · rw [if_pos c2]; exact Er.l (by decide) (by omega)
    · rw [if_neg c2]
      by_cases c3 : T (i + 1) = 10002
      · rw [if_pos c3]
        have e1 : i + 1 ≠ N := fun z => by rw [z, hN] at c3; omega
        have ce : Er N (condG T 401 0 (i + 2) l) := by
          unfold condG
          refine (cndG_er hN 401 true (-1) 0 (i + 2) l (by omega)).go (fun j m hj => ?_)
          have ok := cndG_ok hN 401 true (-1) 0 (i + 2) j l m (by omega) hj
          exact cndG_er hN 401 false (-1) 0 j m ok.2.2.1
        refine ce.go (fun j m hj => ?_)
        have ok := condG_ok hN (by omega) hj
        split
        · exact Er.r
        · exact Er.l (by decide) ok.2.1
      · rw [if_neg c3]
        split
        · exact Er.r
        · exact Er.l (by decide) (by omega)
theorem txtG_er {T : Nat → Int} {N : Nat} (hN : T N = 10200) : ∀ (f i : Nat) (q : List (Int × Int)) (l : List Int) (e : Int × Nat), i ≤ N → txtG T f i q l = .inl e → (0 ≤ e.1 ∧ e.1 ≤ 3) ∧ e.2 ≤ N
  | 0, _, _, _, e, _, h => by
    have : ((0 : Int), 0) = e := by injection h
    rw [← this]
    exact ⟨by decide, Nat.zero_le _⟩
  | f + 1, i, q, l, e, hi, h => by
    unfold txtG at h
    by_cases c : T i = 10200
    · rw [if_pos c] at h; cases h
    · rw [if_neg c] at h
      have iN : i < N := by
        by_cases e : i = N
        · rw [e] at c; exact absurd hN c
        · omega
      rcases (lineG T q.length i l).ex with ⟨e', he⟩ | ⟨j, m, he⟩
      · rw [Rs.to_l he] at h
        have : e' = e := by injection h
        rw [← this]
        exact lineG_er hN iN e' he
      · rw [Rs.to_r he] at h
        exact txtG_er hN f j _ m e (lineG_ok hN iN he).2.1 h
theorem TKS.pl {b : Int → Int} {n : Int} {T pl en : Nat → Int} {N k : Nat} (h : TKS b n T pl en N) (hn : 0 ≤ n) (hk : k ≤ N) : 0 ≤ pl k ∧ pl k ≤ n := by
  by_cases e : k = N
  · rw [e, h.2.1]; omega
  · have := (h.2.2.2.2 k (by omega)).1
    omega
