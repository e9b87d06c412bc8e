/-! TEXT: the TAPE split into TOKENS -/
set_option maxHeartbeats 4000000 in
theorem t_X8_split {s : Sto} {n : Int} (hn : s 1 1 = n) (h : 0 ≤ n ∧ n ≤ 400) (hb : ∀ x : Int, 0 ≤ x → x < n → 0 ≤ s 2 x ∧ s 2 x < 256) : ClV LY 7 MX8_split [.inr 39, .inr 1] s (fun s' => (∀ c : Nat, c ≠ 40 → c ≠ 41 → s' c = s c) ∧ ∃ (T pl en : Nat → Int) (N : Nat), TKS (s 2) n T pl en N ∧ TQ T pl N s') := by
  refine ClV.intro (by decide) rfl (Nat.le_of_ble_eq_true rfl) (fun X C r => ?_)
  refine kb_X8_split_0 C r ?_
  have main : ∀ (m : Nat) (S : Sto) (k : Nat) (i v3 : Int), n - i ≤ m → (0 ≤ i ∧ i ≤ n ∧ (k : Int) ≤ i) → (∀ c : Nat, c ≠ 40 → c ≠ 41 → S c = s c) → (k = 0 → ∀ x : Int, 0 ≤ x → x < i → isBk (s 2 x)) → (0 < k → SKp (s 2) n 0 (S 41 (0 : Nat))) → (∀ j : Nat, j < k → (0 ≤ S 41 (j : Int) ∧ S 41 (j : Int) < n) ∧ ∃ e : Int, RNp (s 2) n (S 41 (j : Int)) e ∧ tokR (s 2) (S 41 (j : Int)) e (S 40 (j : Int)) ∧ (j + 1 < k → SKp (s 2) n e (S 41 ((j + 1 : Nat) : Int))) ∧ (j + 1 = k → e ≤ i ∧ ∀ x : Int, e ≤ x → x < i → isBk (s 2 x))) → G LY X 7 [rv 39, rv 1, iv (k : Int), iv v3, iv i] [] S := by
    intro m
    induction m with
    | zero =>
      intro S k i v3 hm hi hc h0 h1 hj
      have ei : i = n := by omega
      subst ei
      refine kb_X8_split_7 C r (by decide) ?_
      rw [hc 1 (by decide) (by decide), hn]
      refine ⟨⟨⟨by omega, by omega⟩, ⟨by omega, by omega⟩⟩, fun _ => ⟨⟨by omega, by omega⟩, ?_⟩, fun z => absurd z (by omega)⟩
      rintro s1 hs1
      have e11 : s1 1 1 = i := by rw [hs1, up_row (by decide), hc 1 (by decide) (by decide), hn]
      rw [e11]
      refine ⟨⟨by omega, by omega⟩, ?_⟩
      rintro s2 hs2
      have e40 : ∀ j : Nat, s2 40 (j : Int) = if j = k then 10200 else S 40 (j : Int) := fun j => by
        rw [hs2, up_row (by decide), hs1, up_if]
        by_cases q : j = k
        · rw [if_pos (by omega), if_pos q]
        · rw [if_neg (by omega), if_neg q]
      have e41 : ∀ j : Nat, s2 41 (j : Int) = if j = k then i else S 41 (j : Int) := fun j => by
        rw [hs2, up_if, hs1, up_row (by decide)]
        by_cases q : j = k
        · rw [if_pos (by omega), if_pos q]
        · rw [if_neg (by omega), if_neg q]
      have ex : ∀ j : Nat, ∃ e : Int, j < k → RNp (s 2) i (S 41 (j : Int)) e ∧ tokR (s 2) (S 41 (j : Int)) e (S 40 (j : Int)) ∧ (j + 1 < k → SKp (s 2) i e (S 41 ((j + 1 : Nat) : Int))) ∧ (j + 1 = k → e ≤ i ∧ ∀ x : Int, e ≤ x → x < i → isBk (s 2 x)) := fun j => by
        by_cases q : j < k
        · obtain ⟨_, e, he⟩ := hj j q
          exact ⟨e, fun _ => he⟩
        · exact ⟨0, fun z => absurd z q⟩
      obtain ⟨E, hE⟩ := Classical.axiomOfChoice ex
      refine ⟨fun c c1 c2 => by rw [hs2, up_row c2, hs1, up_row c1, hc c c1 c2], fun j => s2 40 (j : Int), fun j => s2 41 (j : Int), fun j => if j = k then i else E j, k, ⟨?_, ?_, ?_, ?_, fun j jk => ?_⟩, fun j jk => ?_, ?_, by omega⟩
      · show s2 40 (k : Int) = 10200
        rw [e40, if_pos rfl]
      · show s2 41 (k : Int) = i
        rw [e41, if_pos rfl]
      · show (if k = k then i else E k) = i
        rw [if_pos rfl]
      · show SKp (s 2) i 0 (s2 41 ((0 : Nat) : Int))
        rw [e41]
        by_cases q : 0 = k
        · rw [if_pos q]
          exact ⟨by omega, by omega, h0 q.symm, fun z => absurd z (by omega)⟩
        · rw [if_neg q]
          exact h1 (by omega)
      · obtain ⟨b1, _⟩ := hj j jk
        obtain ⟨g1, g2, g3, g4⟩ := hE j jk
        show (0 ≤ s2 41 (j : Int) ∧ s2 41 (j : Int) < i) ∧ RNp (s 2) i (s2 41 (j : Int)) (if j = k then i else E j) ∧ tokR (s 2) (s2 41 (j : Int)) (if j = k then i else E j) (s2 40 (j : Int)) ∧ SKp (s 2) i (if j = k then i else E j) (s2 41 ((j + 1 : Nat) : Int))
        rw [e40, e41, e41, if_neg (by omega), if_neg (by omega), if_neg (by omega)]
        refine ⟨b1, g1, g2, ?_⟩
        by_cases q : j + 1 = k
        · rw [if_pos q]
          have g5 := g4 q
          exact ⟨g5.1, by omega, g5.2, fun z => absurd z (by omega)⟩
        · rw [if_neg q]
          exact g3 (by omega)
      · refine ⟨rfl, rfl, ?_⟩
        show 0 ≤ s2 40 (j : Int) ∧ s2 40 (j : Int) ≤ 10201
        rw [e40]
        by_cases q : j = k
        · rw [if_pos q]; decide
        · rw [if_neg q]
          obtain ⟨b1, e, g1, g2, _⟩ := hj j (by omega)
          have := g2.bd g1 (hb _ b1.1 b1.2)
          omega
      · show s2 40 (k : Int) = 10200
        rw [e40, if_pos rfl]
    | succ m ih =>
      intro S k i v3 hm hi hc h0 h1 hj
      by_cases q : n - i ≤ m
      · exact ih S k i v3 q hi hc h0 h1 hj
      have iN : i < n := by omega
      have e1 : S 1 1 = n := by rw [hc 1 (by decide) (by decide), hn]
      have e2 : S 2 = s 2 := hc 2 (by decide) (by decide)
      refine kb_X8_split_7 C r (by decide) ?_
      rw [e1]
      refine ⟨⟨⟨by omega, by omega⟩, ⟨by omega, by omega⟩⟩, fun z => absurd z (by omega), fun _ => ⟨⟨by omega, by omega⟩, fun z => absurd z (by omega), fun _ => ⟨2, _, by decide, t_X8_runEnd (s := S) (n := n) e1 ⟨hi.1, iN, h.2⟩ (by rw [e2]; exact hb), ?_⟩⟩⟩
      rintro e y ⟨hy, hr⟩
      rw [hy]
      rw [e2] at hr ⊢
      have ie := hr.1
      have bi := hb i hi.1 iN
      refine ⟨⟨by omega, by omega⟩, 0, _, by decide, t_X9_isBlank ⟨by omega, by omega⟩, ?_⟩
      rintro w y2 ⟨hy2, w1, w2⟩
      rw [hy2]
      have me : max (i + 1) e = e := by omega
      have nb : isBk (s 2 i) → e = i + 1 := fun hbk => by
        rcases hr.2 with ⟨p1, _⟩ | ⟨p1, _⟩ | ⟨_, _, p1⟩
        · unfold isLt at p1; unfold isBk at hbk; omega
        · unfold isDg at p1; unfold isBk at hbk; omega
        · exact p1
      refine ⟨⟨by omega, by omega⟩, fun z => ⟨⟨⟨by omega, by omega⟩, ⟨by omega, by omega⟩⟩, ?_⟩, fun z => ⟨6, _, by decide, t_X8_tokenOf (s := S) (n := n) ⟨hi.1, h.2⟩ (by rw [e2]; exact hb) (by rw [e2]; exact hr), ?_⟩⟩
      · have hbk : isBk (s 2 i) := w2.mp (by omega)
        have ee := nb hbk
        rw [me]
        refine ih S k e e (by omega) ⟨by omega, by omega, by omega⟩ hc (fun k0 x x0 x1 => ?_) h1 (fun j jk => ?_)
        · by_cases qx : x = i
          · rw [qx]; exact hbk
          · exact h0 k0 x x0 (by omega)
        · obtain ⟨b1, E, g1, g2, g3, g4⟩ := hj j jk
          refine ⟨b1, E, g1, g2, g3, fun jk1 => ?_⟩
          have g5 := g4 jk1
          refine ⟨by omega, fun x x0 x1 => ?_⟩
          by_cases qx : x = i
          · rw [qx]; exact hbk
          · exact g5.2 x x0 (by omega)
      · have hnb : ¬ isBk (s 2 i) := fun hbk => by have := w2.mpr hbk; omega
        rintro t y3 ⟨hy3, ht⟩
        rw [hy3]
        rw [e2] at ht
        refine ⟨⟨by omega, by omega⟩, ?_⟩
        rintro s8 hs8
        refine ⟨⟨by omega, by omega⟩, ?_⟩
        rintro s9 hs9
        refine ⟨⟨⟨by omega, by omega⟩, ⟨by omega, by omega⟩⟩, ?_⟩
        rw [me]
        have f40 : ∀ j : Nat, s9 40 (j : Int) = if j = k then t else S 40 (j : Int) := fun j => by
          rw [hs9, up_row (by decide), hs8, up_if]
          by_cases qq : j = k
          · rw [if_pos (by omega), if_pos qq]
          · rw [if_neg (by omega), if_neg qq]
        have f41 : ∀ j : Nat, s9 41 (j : Int) = if j = k then i else S 41 (j : Int) := fun j => by
          rw [hs9, up_if, hs8, up_row (by decide)]
          by_cases qq : j = k
          · rw [if_pos (by omega), if_pos qq]
          · rw [if_neg (by omega), if_neg qq]
        have g := ih s9 (k + 1) e e (by omega) ⟨by omega, by omega, by omega⟩ (fun c c1 c2 => by rw [hs9, up_row c2, hs8, up_row c1, hc c c1 c2]) (fun z => absurd z (by omega)) (fun _ => ?_) (fun j jk => ?_)
        · rw [show ((k + 1 : Nat) : Int) = (k : Int) + 1 by omega] at g
          exact g
        · rw [f41]
          by_cases qq : 0 = k
          · rw [if_pos qq]
            exact ⟨hi.1, by omega, h0 qq.symm, fun _ => hnb⟩
          · rw [if_neg qq]
            exact h1 (by omega)
        · rw [f40, f41]
          by_cases qq : j = k
          · rw [if_pos qq, if_pos qq]
            exact ⟨⟨hi.1, iN⟩, e, hr, ht, fun z => absurd z (by omega), fun _ => ⟨Int.le_refl _, fun x x0 x1 => absurd x1 (by omega)⟩⟩
          · rw [if_neg qq, if_neg qq]
            obtain ⟨b1, E, g1, g2, g3, g4⟩ := hj j (by omega)
            refine ⟨b1, E, g1, g2, fun jk1 => ?_, fun z => absurd z (by omega)⟩
            rw [f41]
            by_cases q2 : j + 1 = k
            · rw [if_pos q2]
              have g5 := g4 q2
              exact ⟨g5.1, by omega, g5.2, fun _ => hnb⟩
            · rw [if_neg q2]
              exact g3 (by omega)
  exact main n.toNat s 0 0 0 (by omega) ⟨by omega, by omega, by decide⟩ (fun _ _ _ => rfl) (fun _ x x0 x1 => absurd x1 (by omega)) (fun z => absurd z (by omega)) (fun j jk => absurd jk (Nat.not_lt_zero _))
/-! in the reference -/
theorem sg_tv : ∀ c : Fin 256, (sgF (c.val : Int) 10 < 0 ∧ ¬ ((c.val : Int) = 59 ∨ (c.val : Int) = 43 ∨ (c.val : Int) = 45 ∨ (c.val : Int) = 42 ∨ (c.val : Int) = 47 ∨ (c.val : Int) = 40 ∨ (c.val : Int) = 41 ∨ (c.val : Int) = 60 ∨ (c.val : Int) = 61 ∨ (c.val : Int) = 62)) ∨ (0 ≤ sgF (c.val : Int) 10 ∧ ((10100 + sgF (c.val : Int) 10 = 10100 ∧ (c.val : Int) = 59) ∨ (10100 + sgF (c.val : Int) 10 = 10101 ∧ (c.val : Int) = 43) ∨ (10100 + sgF (c.val : Int) 10 = 10102 ∧ (c.val : Int) = 45) ∨ (10100 + sgF (c.val : Int) 10 = 10103 ∧ (c.val : Int) = 42) ∨ (10100 + sgF (c.val : Int) 10 = 10104 ∧ (c.val : Int) = 47) ∨ (10100 + sgF (c.val : Int) 10 = 10105 ∧ (c.val : Int) = 40) ∨ (10100 + sgF (c.val : Int) 10 = 10106 ∧ (c.val : Int) = 41) ∨ (10100 + sgF (c.val : Int) 10 = 10107 ∧ (c.val : Int) = 60) ∨ (10100 + sgF (c.val : Int) 10 = 10108 ∧ (c.val : Int) = 61) ∨ (10100 + sgF (c.val : Int) 10 = 10109 ∧ (c.val : Int) = 62))) := by decide +kernel
/-- only the reader's own places change -/
def FrR (S S' : Sto) : Prop := (∀ c : Nat, c ≠ 75 → S' c = S c) ∧ ∀ j : Int, ¬ (25 ≤ j ∧ j ≤ 28) → S' 75 j = S 75 j
set_option maxHeartbeats 8000000 in
theorem t_X12_reads {b : Int → Int} {n : Int} {T pl en : Nat → Int} {N k : Nat} {S : Sto} (hT : TKS b n T pl en N) (hk : k ≤ N) (hn : S 75 24 = n) (h : 0 ≤ n ∧ n ≤ 400) (hb : ∀ x : Int, 0 ≤ x → x < n → S 91 x = b x ∧ 0 ≤ b x ∧ b x < 256) (h92 : ∀ i : Int, 0 ≤ i → i < 81 → S 92 i = wordsT i) (hs : SKp b n (S 75 25) (pl k)) (h25 : 0 ≤ S 75 25) : ClV LY 2 MX12_reads [.inr 75] S (fun S' => FrR S S' ∧ S' 75 26 = pl k ∧ S' 75 25 = en k ∧ TVR (S' 75 27) (S' 75 28) (T k)) := by
  obtain ⟨tE, tP, tN, tS, tK⟩ := hT
  refine ClV.intro (by decide) rfl (Nat.le_of_ble_eq_true rfl) (fun X C r => ?_)
  have rn : rg n := ⟨by omega, by omega⟩
  have rwx : ∀ (U : Sto) (x : Int), FrR S U → 0 ≤ x → x ≤ n → ClI LY 0 MX12_raw [.inr 75, .inl x] U (fun r s' => s' = U ∧ r = if x < n then b x else -1) := fun U x fr x0 x1 => by
    have e24 : U 75 24 = n := by rw [fr.2 24 (by decide), hn]
    have := t_X12_raw (v := x) (s := U) ⟨by omega, by omega⟩ x0 (by rw [e24]; exact rn) (by rw [e24]; omega)
    refine this.mono ?_
    rintro r s' ⟨a1, a2⟩
    refine ⟨a1, ?_⟩
    rw [a2, e24]
    by_cases q : x < n
    · rw [if_pos q, if_pos q, fr.1 91 (by decide)]; exact (hb x x0 q).1
    · rw [if_neg q, if_neg q]
  have fr1 : ∀ (U V : Sto) (j v : Int), FrR S U → (25 ≤ j ∧ j ≤ 28) → V = up U 75 j v → FrR S V := fun U V j v fr hj e => ⟨fun c hc => by rw [e, up_row hc, fr.1 c hc], fun i hi => by rw [e, up_idx (by omega), fr.2 i hi]⟩
  have pk : 0 ≤ pl k ∧ pl k ≤ n := ⟨by have := hs.1; omega, hs.2.1⟩
  -- a WORD goes on
  have word : k < N → isLt (b (pl k)) → ∀ (m : Nat) (U : Sto) (x v : Int), FrR S U → x + m = en k → pl k < x → U 75 25 = x → U 75 26 = pl k → U 75 27 = 1 → G LY X 95 [rv 75, iv v] [] U := fun kN lt m => by
    obtain ⟨⟨k1, k2⟩, k3, k4, k5⟩ := tK k kN
    have ke := k3.1
    have lts : (∀ y : Int, pl k ≤ y → y < en k → isLt (b y)) ∧ (en k < n → ¬ isLt (b (en k))) := by
      rcases k3.2 with ⟨_, q⟩ | ⟨q, _⟩ | ⟨q, _⟩
      · exact q
      · unfold isLt at lt; unfold isDg at q; omega
      · exact absurd lt q
    have tT : T k = if wdF b (pl k) (en k) 16 = -1 then 10201 else 10000 + wdF b (pl k) (en k) 16 := by
      rcases k4 with ⟨_, q⟩ | ⟨q, _⟩ | ⟨q, _⟩
      · exact q
      · unfold isLt at lt; unfold isDg at q; omega
      · exact absurd lt q
    induction m with
    | zero =>
      intro U x v fr hx px u25 u26 u27
      refine kb_X12_reads_95 C r ?_
      rw [u25]
      refine ⟨0, _, by decide, rwx U x fr (by omega) (by omega), ?_⟩
      rintro a y ⟨hy, ha⟩
      rw [hy]
      have ra : rg a := by
        rw [ha]
        split
        · have := hb x (by omega) (by omega); exact ⟨by omega, by omega⟩
        · decide
      refine ⟨1, _, by decide, t_X12_isLetter ra, ?_⟩
      rintro f y2 ⟨hy2, f1, f2⟩
      rw [hy2]
      have nl : f = 0 := by
        rcases f1 with q | q
        · exact q
        · have g := f2.mp q
          rw [ha] at g
          by_cases xn : x < n
          · rw [if_pos xn] at g
            have xe : x = en k := by omega
            rw [xe] at g
            exact absurd g (lts.2 (by omega))
          · rw [if_neg xn] at g; omega
      refine ⟨⟨by omega, by omega⟩, fun _ => ?_, fun z => absurd nl z⟩
      rw [u26, u25]
      have bw : ∀ i : Int, pl k ≤ i → i < x → rg (U 91 i) ∧ U 91 i ≠ 32 := fun i i0 i1 => by
        rw [fr.1 91 (by decide), (hb i (by omega) (by omega)).1]
        have g := lts.1 i i0 (by omega)
        unfold isLt at g
        exact ⟨⟨by omega, by omega⟩, by omega⟩
      refine ⟨0, _, by decide, t_X12_wordAt ⟨pk.1, px, by omega⟩ bw (by rw [fr.1 92 (by decide)]; exact h92), ?_⟩
      rintro w y3 ⟨hy3, hw⟩
      rw [hy3]
      have ew : w = wdF b (pl k) (en k) 16 := by
        rw [hw, show x = en k by omega]
        exact wdF_congr (fun i i0 i1 => by rw [fr.1 91 (by decide)]; exact (hb i (by omega) (by omega)).1) 16
      have wb := wdF_bd b (pl k) (en k) 16 (by decide)
      rintro s4 hs4
      have fr4 := fr1 U s4 28 w fr (by decide) hs4
      have v28 : s4 75 28 = w := by rw [hs4, up_at]
      have v25 : s4 75 25 = en k := by rw [hs4, up_idx (by decide), u25]; omega
      have v26 : s4 75 26 = pl k := by rw [hs4, up_idx (by decide), u26]
      have v27 : s4 75 27 = 1 := by rw [hs4, up_idx (by decide), u27]
      rw [v28]
      refine ⟨⟨by omega, by omega⟩, fun z => ⟨fr4, v26, v25, ?_⟩, fun z => ?_⟩
      · rw [v27, tT, if_pos (by omega)]
        exact Or.inr (Or.inr (Or.inr (Or.inl ⟨rfl, rfl⟩)))
      · rintro s5 hs5
        refine ⟨fr1 s4 s5 27 2 fr4 (by decide) hs5, by rw [hs5, up_idx (by decide), v26], by rw [hs5, up_idx (by decide), v25], ?_⟩
        rw [show s5 75 27 = 2 by rw [hs5, up_at], show s5 75 28 = w by rw [hs5, up_idx (by decide), v28], tT, if_neg (by omega)]
        exact Or.inr (Or.inl ⟨by omega, by omega, rfl, by omega⟩)
    | succ m ih =>
      intro U x v fr hx px u25 u26 u27
      refine kb_X12_reads_95 C r ?_
      rw [u25]
      refine ⟨0, _, by decide, rwx U x fr (by omega) (by omega), ?_⟩
      rintro a y ⟨hy, ha⟩
      rw [if_pos (by omega)] at ha
      rw [hy, ha]
      have bx := hb x (by omega) (by omega)
      refine ⟨1, _, by decide, t_X12_isLetter ⟨by omega, by omega⟩, ?_⟩
      rintro f y2 ⟨hy2, f1, f2⟩
      rw [hy2]
      have yl := f2.mpr (lts.1 x (by omega) (by omega))
      refine ⟨⟨by omega, by omega⟩, fun z => absurd z (by omega), fun _ => ?_⟩
      rintro s6 hs6
      rw [u25] at hs6
      exact ih s6 (x + 1) v (fr1 U s6 25 (x + 1) fr (by decide) hs6) (by omega) (by omega) (by rw [hs6, up_at]) (by rw [hs6, up_idx (by decide), u26]) (by rw [hs6, up_idx (by decide), u27])
  -- a NUMBER goes on
  have numb : k < N → isDg (b (pl k)) → ∀ (m : Nat) (U : Sto) (x v : Int), FrR S U → x + m = en k → pl k < x → U 75 25 = x → U 75 26 = pl k → U 75 27 = 1 → (x - pl k ≤ 4 → U 75 28 = numF b (pl k) (x - pl k).toNat) → (0 ≤ U 75 28 ∧ U 75 28 < 200000) → G LY X 171 [rv 75, iv v] [] U := fun kN dg m => by
    obtain ⟨⟨k1, k2⟩, k3, k4, k5⟩ := tK k kN
    have ke := k3.1
    have dgs : (∀ y : Int, pl k ≤ y → y < en k → isDg (b y)) ∧ (en k < n → ¬ isDg (b (en k))) := by
      rcases k3.2 with ⟨q, _⟩ | ⟨_, q⟩ | ⟨_, q, _⟩
      · unfold isLt at q; unfold isDg at dg; omega
      · exact q
      · exact absurd dg q
    have tT : (4 < en k - pl k ∧ T k = 10201) ∨ (en k - pl k ≤ 4 ∧ T k = numF b (pl k) (en k - pl k).toNat) := by
      rcases k4 with ⟨q, _⟩ | ⟨_, q⟩ | ⟨_, q, _⟩
      · unfold isLt at q; unfold isDg at dg; omega
      · exact q
      · exact absurd dg q
    have nbd : ∀ j : Nat, pl k + (j : Int) ≤ en k → j ≤ 4 → 0 ≤ numF b (pl k) j ∧ numF b (pl k) j < 10 ^ j := numF_bd dgs.1
    induction m with
    | zero =>
      intro U x v fr hx px u25 u26 u27 u28 ub
      have xe : x = en k := by omega
      refine kb_X12_reads_171 C r ?_
      rw [u25]
      refine ⟨0, _, by decide, rwx U x fr (by omega) (by omega), ?_⟩
      rintro a y ⟨hy, ha⟩
      rw [hy]
      have ra : rg a := by
        rw [ha]
        split
        · have := hb x (by omega) (by omega); exact ⟨by omega, by omega⟩
        · decide
      refine ⟨1, _, by decide, t_X12_isDigit ra, ?_⟩
      rintro f y2 ⟨hy2, f1, f2⟩
      rw [hy2]
      have nd : f = 0 := by
        rcases f1 with q | q
        · exact q
        · have g := f2.mp q
          rw [ha] at g
          by_cases xn : x < n
          · rw [if_pos xn, xe] at g
            exact absurd g (dgs.2 (by omega))
          · rw [if_neg xn] at g; omega
      refine ⟨⟨by omega, by omega⟩, fun _ => ?_, fun z => absurd nd z⟩
      rw [u25, u26]
      refine ⟨⟨by omega, by omega⟩, fun z => ⟨fr, rfl, xe, ?_⟩, fun z => ?_⟩
      · rw [u27]
        exact Or.inr (Or.inr (Or.inr (Or.inl ⟨by omega, rfl⟩)))
      · rintro s3 hs3
        refine ⟨fr1 U s3 27 3 fr (by decide) hs3, by rw [hs3, up_idx (by decide), u26], by rw [hs3, up_idx (by decide), u25, xe], ?_⟩
        have e28 := u28 (by omega)
        rw [xe] at e28
        have nb4 := nbd (en k - pl k).toNat (by omega) (by omega)
        have p4 : (10 : Int) ^ (en k - pl k).toNat ≤ 10 ^ 4 := by
          have q : (10 : Nat) ^ (en k - pl k).toNat ≤ 10 ^ 4 := Nat.pow_le_pow_right (by decide) (by omega)
          have e1 : ((10 ^ (en k - pl k).toNat : Nat) : Int) = 10 ^ (en k - pl k).toNat := by rw [Int.natCast_pow]; rfl
          omega
        rw [show s3 75 27 = 3 by rw [hs3, up_at], show s3 75 28 = U 75 28 by rw [hs3, up_idx (by decide)]]
        exact Or.inr (Or.inr (Or.inl ⟨by omega, by omega, rfl, by omega⟩))
    | succ m ih =>
      intro U x v fr hx px u25 u26 u27 u28 ub
      refine kb_X12_reads_171 C r ?_
      rw [u25]
      refine ⟨0, _, by decide, rwx U x fr (by omega) (by omega), ?_⟩
      rintro a y ⟨hy, ha⟩
      rw [if_pos (by omega)] at ha
      rw [hy, ha]
      have bx := hb x (by omega) (by omega)
      have dx := dgs.1 x (by omega) (by omega)
      refine ⟨1, _, by decide, t_X12_isDigit ⟨by omega, by omega⟩, ?_⟩
      rintro f y2 ⟨hy2, f1, f2⟩
      rw [hy2]
      have yl := f2.mpr dx
      unfold isDg at dx
      refine ⟨⟨by omega, by omega⟩, fun z => absurd z (by omega), fun _ => ⟨⟨by omega, by omega⟩, fun z => ?_, fun z => ?_⟩⟩
      · rintro s4 hs4 s5 hs5
        have w25 : s4 75 25 = x := by rw [hs4, up_idx (by decide), u25]
        rw [w25] at hs5
        have fr4 := fr1 U s4 28 _ fr (by decide) hs4
        have w28 : s5 75 28 = U 75 28 := by rw [hs5, up_idx (by decide), hs4, up_at]
        refine ih s5 (x + 1) v (fr1 s4 s5 25 _ fr4 (by decide) hs5) (by omega) (by omega) (by rw [hs5, up_at]) (by rw [hs5, up_idx (by decide), hs4, up_idx (by decide), u26]) (by rw [hs5, up_idx (by decide), hs4, up_idx (by decide), u27]) (fun q => ?_) (by rw [w28]; exact ub)
        have e28 := u28 (by omega)
        have nb3 := nbd (x - pl k).toNat (by omega) (by omega)
        have p3 : (10 : Int) ^ (x - pl k).toNat ≤ 10 ^ 3 := by
          have q : (10 : Nat) ^ (x - pl k).toNat ≤ 10 ^ 3 := Nat.pow_le_pow_right (by decide) (by omega)
          have e1 : ((10 ^ (x - pl k).toNat : Nat) : Int) = 10 ^ (x - pl k).toNat := by rw [Int.natCast_pow]; rfl
          omega
        omega
      · rw [u25]
        refine ⟨0, _, by decide, rwx U x fr (by omega) (by omega), ?_⟩
        rintro a2 y3 ⟨hy3, ha2⟩
        rw [if_pos (by omega)] at ha2
        rw [hy3, ha2]
        rintro s7 hs7 s8 hs8
        have w25 : s7 75 25 = x := by rw [hs7, up_idx (by decide), u25]
        rw [w25] at hs8
        have fr7 := fr1 U s7 28 _ fr (by decide) hs7
        have w28 : s8 75 28 = 10 * U 75 28 + b x - 48 := by rw [hs8, up_idx (by decide), hs7, up_at]
        refine ih s8 (x + 1) v (fr1 s7 s8 25 _ fr7 (by decide) hs8) (by omega) (by omega) (by rw [hs8, up_at]) (by rw [hs8, up_idx (by decide), hs7, up_idx (by decide), u26]) (by rw [hs8, up_idx (by decide), hs7, up_idx (by decide), u27]) (fun q => ?_) (by rw [w28]; omega)
        rw [w28, u28 (by omega), show x + 1 - pl k = (x - pl k) + 1 by omega, numF_s _ _ (by omega), show pl k + (x - pl k) = x by omega]
  -- blanks
  have main : ∀ (m : Nat) (U : Sto) (x : Int), FrR S U → x + m = pl k → S 75 25 ≤ x → U 75 25 = x → G LY X 0 [rv 75, none] [] U := by
    intro m
    induction m with
    | zero =>
      intro U x fr hx sx u25
      have xp : x = pl k := by omega
      refine kb_X12_reads_0 C r ?_
      rw [u25]
      refine ⟨0, _, by decide, rwx U x fr (by omega) (by omega), ?_⟩
      rintro a y ⟨hy, ha⟩
      rw [hy]
      rw [xp] at ha
      have ra : rg a := by
        rw [ha]
        split
        · have := hb (pl k) (by omega) (by omega); exact ⟨by omega, by omega⟩
        · decide
      have nb : ¬ isBk a := by
        rw [ha]
        by_cases q : pl k < n
        · rw [if_pos q]; exact hs.2.2.2 q
        · rw [if_neg q]; unfold isBk; omega
      unfold isBk at nb
      refine ⟨ra, fun z => absurd z (by omega), fun _ => ?_⟩
      rw [u25]
      refine ⟨0, _, by decide, rwx U x fr (by omega) (by omega), ?_⟩
      rintro a2 y2 ⟨hy2, ha2⟩
      rw [xp, ← ha] at ha2
      rw [hy2, ha2]
      refine ⟨ra, fun _ => ?_, fun z => absurd z (by omega)⟩
      rw [u25]
      rintro s4 hs4 s5 hs5
      have fr5 : FrR S s5 := fr1 s4 s5 27 1 (fr1 U s4 26 x fr (by decide) hs4) (by decide) hs5
      have v25 : s5 75 25 = x := by rw [hs5, up_idx (by decide), hs4, up_idx (by decide), u25]
      have v26 : s5 75 26 = pl k := by rw [hs5, up_idx (by decide), hs4, up_at, xp]
      have v27 : s5 75 27 = 1 := by rw [hs5, up_at]
      rw [v25]
      refine ⟨0, _, by decide, rwx s5 x fr5 (by omega) (by omega), ?_⟩
      rintro a3 y3 ⟨hy3, ha3⟩
      rw [xp, ← ha] at ha3
      rw [hy3, ha3]
      refine ⟨ra, fun z => ?_, fun z => ?_⟩
      · have pn : pl k < n := by
          by_cases q : pl k < n
          · exact q
          · rw [if_neg q] at ha; exact absurd ha z
        have kN : k < N := by
          by_cases q : k = N
          · rw [q, tP] at pn; omega
          · omega
        rw [if_pos pn] at ha
        obtain ⟨⟨k1, k2⟩, k3, k4, k5⟩ := tK k kN
        have bp := hb (pl k) k1 k2
        rw [v25]
        rintro s7 hs7 s8 hs8
        have fr8 : FrR S s8 := fr1 s7 s8 28 a (fr1 s5 s7 25 (x + 1) fr5 (by decide) hs7) (by decide) hs8
        have w25 : s8 75 25 = pl k + 1 := by rw [hs8, up_idx (by decide), hs7, up_at, xp]
        have w26 : s8 75 26 = pl k := by rw [hs8, up_idx (by decide), hs7, up_idx (by decide), v26]
        have w27 : s8 75 27 = 1 := by rw [hs8, up_idx (by decide), hs7, up_idx (by decide), v27]
        have w28 : s8 75 28 = a := by rw [hs8, up_at]
        refine ⟨1, _, by decide, t_X12_isLetter ra, ?_⟩
        rintro f y4 ⟨hy4, f1, f2⟩
        rw [hy4]
        rw [ha] at f2
        refine ⟨⟨by omega, by omega⟩, fun z2 => ?_, fun z2 => word kN (f2.mp (by omega)) (en k - (pl k + 1)).toNat s8 (pl k + 1) a fr8 (by have := k3.1; omega) (by omega) w25 w26 w27⟩
        have nl : ¬ isLt (b (pl k)) := fun q => by have := f2.mpr q; omega
        refine ⟨1, _, by decide, t_X12_isDigit ra, ?_⟩
        rintro g y5 ⟨hy5, g1, g2⟩
        rw [hy5]
        rw [ha] at g2
        refine ⟨⟨by omega, by omega⟩, fun z3 => ?_, fun z3 => ?_⟩
        · have nd : ¬ isDg (b (pl k)) := fun q => by have := g2.mpr q; omega
          have e1 : en k = pl k + 1 := by
            rcases k3.2 with ⟨q, _⟩ | ⟨q, _⟩ | ⟨_, _, q⟩
            · exact absurd q nl
            · exact absurd q nd
            · exact q
          have tT : T k = if sgF (b (pl k)) 10 < 0 then 10201 else 10100 + sgF (b (pl k)) 10 := by
            rcases k4 with ⟨q, _⟩ | ⟨q, _⟩ | ⟨_, _, q⟩
            · exact absurd q nl
            · exact absurd q nd
            · exact q
          have sg := sg_tv ⟨(b (pl k)).toNat, by omega⟩
          simp only [Int.toNat_of_nonneg bp.2.1] at sg
          refine ⟨0, _, by decide, t_X12_isMarkSign ra, ?_⟩
          rintro q y6 ⟨hy6, q1, q2⟩
          rw [hy6]
          rw [ha] at q2
          refine ⟨⟨by omega, by omega⟩, fun z4 => ⟨fr8, w26, by rw [w25, e1], ?_⟩, fun z4 => ?_⟩
          · rw [w27]
            have nq : sgF (b (pl k)) 10 < 0 := by
              rcases sg with s1 | s1
              · exact s1.1
              · have := q2.mpr (by omega); omega
            rw [tT, if_pos nq]
            exact Or.inr (Or.inr (Or.inr (Or.inl ⟨rfl, rfl⟩)))
          · rintro s12 hs12
            refine ⟨fr1 s8 s12 27 4 fr8 (by decide) hs12, by rw [hs12, up_idx (by decide), w26], by rw [hs12, up_idx (by decide), w25, e1], ?_⟩
            have yq : 0 ≤ sgF (b (pl k)) 10 := by
              rcases sg with s1 | s1
              · exact absurd (q2.mp (by omega)) s1.2
              · exact s1.1
            rw [show s12 75 27 = 4 by rw [hs12, up_at], show s12 75 28 = b (pl k) by rw [hs12, up_idx (by decide), w28, ha], tT, if_neg (by omega)]
            rcases sg with s1 | s1
            · omega
            · exact Or.inr (Or.inr (Or.inr (Or.inr ⟨rfl, s1.2⟩)))
        · have dg : isDg (b (pl k)) := g2.mp (by omega)
          rintro s13 hs13
          refine numb kN dg (en k - (pl k + 1)).toNat s13 (pl k + 1) a (fr1 s8 s13 28 _ fr8 (by decide) hs13) (by have := k3.1; omega) (by omega) (by rw [hs13, up_idx (by decide), w25]) (by rw [hs13, up_idx (by decide), w26]) (by rw [hs13, up_idx (by decide), w27]) (fun _ => ?_) ?_
          · rw [hs13, up_at, show (pl k + 1 - pl k).toNat = 0 + 1 by omega]
            show a - 48 = 10 * 0 + b (pl k + ((0 : Nat) : Int)) - 48
            rw [show pl k + ((0 : Nat) : Int) = pl k by omega, ha]
            omega
          · rw [hs13, up_at]
            unfold isDg at dg
            omega
      · have pn : ¬ pl k < n := fun q => by
          rw [if_pos q] at ha
          have := hb (pl k) pk.1 q
          omega
        have kN : k = N := by
          by_cases q : k < N
          · have := (tK k q).1; omega
          · omega
        rintro s14 hs14
        refine ⟨fr1 s5 s14 27 0 fr5 (by decide) hs14, by rw [hs14, up_idx (by decide), v26], by rw [hs14, up_idx (by decide), v25, kN, tN]; omega, ?_⟩
        rw [show s14 75 27 = 0 by rw [hs14, up_at], kN, tE]
        exact Or.inl ⟨rfl, rfl⟩
    | succ m ih =>
      intro U x fr hx sx u25
      have bk : isBk (b x) := hs.2.2.1 x sx (by omega)
      unfold isBk at bk
      refine kb_X12_reads_0 C r ?_
      rw [u25]
      refine ⟨0, _, by decide, rwx U x fr (by omega) (by omega), ?_⟩
      rintro a y ⟨hy, ha⟩
      rw [if_pos (by omega)] at ha
      rw [hy, ha, u25]
      have next : ∀ s2 : Sto, s2 = up U 75 25 (x + 1) → G LY X 0 [rv 75, none] [] s2 := fun s2 hs2 => ih s2 (x + 1) (fr1 U s2 25 _ fr (by decide) hs2) (by omega) (by omega) (by rw [hs2, up_at])
      refine ⟨⟨by omega, by omega⟩, fun _ => next, fun z => ⟨0, _, by decide, rwx U x fr (by omega) (by omega), ?_⟩⟩
      rintro a2 y2 ⟨hy2, ha2⟩
      rw [if_pos (by omega)] at ha2
      rw [hy2, ha2, u25]
      exact ⟨⟨by omega, by omega⟩, fun z2 => absurd z2 (by omega), fun _ => next⟩
  have m0 := main (pl k - S 75 25).toNat S (S 75 25) ⟨fun _ _ => rfl, fun _ _ => rfl⟩ (by have := hs.1; omega) (Int.le_refl _) rfl
  exact m0
