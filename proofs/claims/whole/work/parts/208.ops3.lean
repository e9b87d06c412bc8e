/-! OPERATIONS: feed, person, named, sell -/
def apB (n v : Int) (b : Int → Int) : Int → Int := fun i => if n ≤ i ∧ i < n + 4 then byt v (24 - 8 * (i - n)) else b i
theorem fed_1 (s : Sto) (c0 : Nat) (i0 : Int) (c1 : Nat) (v : Int) : fed s c0 i0 c1 v c0 i0 = s c0 i0 + 4 := up_at _ _ _ _
theorem fed_row {s : Sto} {c0 c1 c : Nat} {i0 v : Int} (h : c ≠ c0) (h2 : c ≠ c1) : fed s c0 i0 c1 v c = s c := by unfold fed; rw [up_row h, fillR_row h2]
theorem fed_idx {s : Sto} {c0 c1 : Nat} {i0 v i : Int} (h : i ≠ i0) (h2 : c0 ≠ c1) : fed s c0 i0 c1 v c0 i = s c0 i := by unfold fed; rw [up_idx h, fillR_row h2]
theorem fed_ap {s : Sto} {c0 c1 : Nat} {i0 v : Int} (h : c1 ≠ c0) : fed s c0 i0 c1 v c1 = apB (s c0 i0) v (s c1) := by
  unfold fed
  rw [up_row h]
  funext i
  unfold apB
  by_cases q : s c0 i0 ≤ i ∧ i < s c0 i0 + 4
  · rw [if_pos q, fillR_in q]
  · rw [if_neg q, fillR_out q]
theorem TapeR.app {n v : Int} {b t : Int → Int} (h : TapeR n b t) (hn : n ≤ 396) : TapeR (n + 4) (apB n v b) (apB n v t) := by
  refine ⟨by have := h.1; omega, by omega, fun i h1 h2 => ?_⟩
  unfold apB
  by_cases q : n ≤ i ∧ i < n + 4
  · rw [if_pos q, if_pos q]; exact ⟨rfl, byt_bd _ _⟩
  · rw [if_neg q, if_neg q]; exact h.2.2 i h1 (by omega)
def fed5 (s : Sto) (c0 : Nat) (i0 : Int) (c1 : Nat) (a b c d e : Int) : Sto := fed (fed (fed (fed (fed s c0 i0 c1 a) c0 i0 c1 b) c0 i0 c1 c) c0 i0 c1 d) c0 i0 c1 e
set_option maxHeartbeats 2000000 in
theorem t_X11_feed {a b c d e : Int} {s : Sto} (h : 0 ≤ s 1 1 ∧ s 1 1 ≤ 400) : ClI LY 1 MX11_feed [.inr 0, .inl a, .inl b, .inl c, .inl d, .inl e] s (fun r s' => (s 1 1 ≤ 380 ∧ r = s 1 1 + 20 ∧ s' = fed5 s 1 1 2 a b c d e) ∨ (¬ s 1 1 ≤ 380 ∧ r = -1 ∧ s' = s)) := by
  refine ClI.intro (by decide) rfl (Nat.le_of_ble_eq_true rfl) (fun X C r => ?_)
  refine kb_X11_feed_0 C r ?_
  refine ⟨⟨by omega, by omega⟩, fun q => ?_, fun q => Or.inr ⟨by omega, rfl, rfl⟩⟩
  refine ⟨0, _, by decide, t_X9_add (by omega), ?_⟩
  rintro s1 rfl
  have e1 := fed_1 s 1 1 2 a
  refine ⟨0, _, by decide, t_X9_add (by omega), ?_⟩
  rintro s2 rfl
  have e2 := fed_1 (fed s 1 1 2 a) 1 1 2 b
  refine ⟨0, _, by decide, t_X9_add (by omega), ?_⟩
  rintro s3 rfl
  have e3 := fed_1 (fed (fed s 1 1 2 a) 1 1 2 b) 1 1 2 c
  refine ⟨0, _, by decide, t_X9_add (by omega), ?_⟩
  rintro s4 rfl
  have e4 := fed_1 (fed (fed (fed s 1 1 2 a) 1 1 2 b) 1 1 2 c) 1 1 2 d
  refine ⟨0, _, by decide, t_X9_add (by omega), ?_⟩
  rintro s5 rfl
  have e5 := fed_1 (fed (fed (fed (fed s 1 1 2 a) 1 1 2 b) 1 1 2 c) 1 1 2 d) 1 1 2 e
  exact Or.inl ⟨by omega, by omega, rfl⟩
set_option maxHeartbeats 2000000 in
theorem t_X12_feed {a b c d e : Int} {s : Sto} (ha : rg a) (hb : rg b) (hc : rg c) (hd : rg d) (he : rg e) (h : 0 ≤ s 75 24 ∧ s 75 24 ≤ 400) : ClI LY 1 MX12_feed [.inr 75, .inl a, .inl b, .inl c, .inl d, .inl e] s (fun r s' => (s 75 24 ≤ 380 ∧ r = s 75 24 + 20 ∧ s' = fed5 (up s 75 0 0) 75 24 91 a b c d e) ∨ (¬ s 75 24 ≤ 380 ∧ r = -1 ∧ s' = up s 75 0 0)) := by
  refine ClI.intro (by decide) rfl (Nat.le_of_ble_eq_true rfl) (fun X C r => ?_)
  refine kb_X12_feed_0 C r ?_
  rintro s0 rfl
  have e0 : up s 75 0 0 75 24 = s 75 24 := up_idx (by decide)
  generalize up s 75 0 0 = u at e0 ⊢
  refine ⟨⟨by omega, by omega⟩, fun q => ?_, fun q => Or.inr ⟨by omega, rfl, rfl⟩⟩
  refine ⟨0, _, by decide, t_X12_types ha (by omega), ?_⟩
  rintro s1 rfl
  have e1 := fed_1 u 75 24 91 a
  refine ⟨0, _, by decide, t_X12_types hb (by omega), ?_⟩
  rintro s2 rfl
  have e2 := fed_1 (fed u 75 24 91 a) 75 24 91 b
  refine ⟨0, _, by decide, t_X12_types hc (by omega), ?_⟩
  rintro s3 rfl
  have e3 := fed_1 (fed (fed u 75 24 91 a) 75 24 91 b) 75 24 91 c
  refine ⟨0, _, by decide, t_X12_types hd (by omega), ?_⟩
  rintro s4 rfl
  have e4 := fed_1 (fed (fed (fed u 75 24 91 a) 75 24 91 b) 75 24 91 c) 75 24 91 d
  refine ⟨0, _, by decide, t_X12_types he (by omega), ?_⟩
  rintro s5 rfl
  have e5 := fed_1 (fed (fed (fed (fed u 75 24 91 a) 75 24 91 b) 75 24 91 c) 75 24 91 d) 75 24 91 e
  exact Or.inl ⟨by omega, by omega, rfl⟩
theorem fed5_row {s : Sto} {c0 c1 x : Nat} {i0 a b c d e : Int} (h : x ≠ c0) (h2 : x ≠ c1) : fed5 s c0 i0 c1 a b c d e x = s x := by
  unfold fed5; rw [fed_row h h2, fed_row h h2, fed_row h h2, fed_row h h2, fed_row h h2]
theorem fed5_idx {s : Sto} {c0 c1 : Nat} {i0 a b c d e i : Int} (h : i ≠ i0) (h2 : c0 ≠ c1) : fed5 s c0 i0 c1 a b c d e c0 i = s c0 i := by
  unfold fed5; rw [fed_idx h h2, fed_idx h h2, fed_idx h h2, fed_idx h h2, fed_idx h h2]
theorem fed5_1 {s : Sto} {c0 c1 : Nat} {i0 a b c d e : Int} : fed5 s c0 i0 c1 a b c d e c0 i0 = s c0 i0 + 20 := by
  unfold fed5; rw [fed_1, fed_1, fed_1, fed_1, fed_1]; omega
theorem fed5_ap {s : Sto} {c0 c1 : Nat} {i0 a b c d e : Int} (h : c1 ≠ c0) : fed5 s c0 i0 c1 a b c d e c1 = apB (s c0 i0 + 4 + 4 + 4 + 4) e (apB (s c0 i0 + 4 + 4 + 4) d (apB (s c0 i0 + 4 + 4) c (apB (s c0 i0 + 4) b (apB (s c0 i0) a (s c1))))) := by
  unfold fed5
  rw [fed_ap h, fed_ap h, fed_ap h, fed_ap h, fed_ap h, fed_1, fed_1, fed_1, fed_1]
theorem op_feed [Inhabited YT] {s : Sto} (h : Inv s) {a b c d e : Int} (ha : rg a) (hb : rg b) (hc : rg c) (hd : rg d) (he : rg e) : OpI MX11_feed MX12_feed [.inl a, .inl b, .inl c, .inl d, .inl e] s := by
  have hT := h.1
  have hT0 := hT.2.1
  have hT1 := hT.2.2.1
  refine ⟨1, 1, _, by decide, by decide, t_X11_feed ⟨hT0, hT1⟩, ?_⟩
  rintro r1 s1 (⟨q, rfl, rfl⟩ | ⟨q, rfl, rfl⟩)
  · have e24 : fed5 s 1 1 2 a b c d e 75 24 = s 75 24 := by rw [fed5_row (by decide) (by decide)]
    refine ⟨⟨by omega, by omega⟩, (t_X12_feed ha hb hc hd he (by rw [e24, ← hT.1]; exact ⟨hT0, hT1⟩)).mono ?_⟩
    rw [e24]
    rintro r2 s2 (⟨q2, rfl, rfl⟩ | ⟨q2, rfl, rfl⟩)
    · refine ⟨by rw [hT.1], h.tape ?_ ?_ (fun c i h1 h2 h3 h4 h5 => ?_)⟩
      · rw [fed5_row (by decide) (by decide), up_row (by decide), fed5_1, fed5_1, up_idx (by decide), e24, hT.1]
      · rw [fed5_row (c0 := 75) (x := 1) (by decide) (by decide), up_row (by decide), fed5_1, fed5_row (c0 := 75) (x := 2) (by decide) (by decide), up_row (by decide), fed5_ap (c0 := 1) (by decide), fed5_ap (c0 := 75) (by decide), up_idx (by decide), e24, up_row (by decide), fed5_row (c0 := 1) (x := 91) (by decide) (by decide), ← hT.1]
        have := ((((hT.2.app (v := a) (by omega)).app (v := b) (by omega)).app (v := c) (by omega)).app (v := d) (by omega)).app (v := e) (by omega)
        rw [show s 1 1 + 20 = s 1 1 + 4 + 4 + 4 + 4 + 4 by omega]
        exact this
      · by_cases q75 : c = 75
        · subst q75
          rw [fed5_idx (by omega) (by decide), up_idx (by unfold pers perM at *; omega), fed5_row (by decide) (by decide)]
        · rw [fed5_row q75 h4, up_row q75, fed5_row h2 h3]
    · exact absurd q (by omega)
  · refine ⟨by decide, (t_X12_feed ha hb hc hd he (by rw [← hT.1]; exact ⟨hT0, hT1⟩)).mono ?_⟩
    rintro r2 s2 (⟨q2, rfl, rfl⟩ | ⟨q2, rfl, rfl⟩)
    · exact absurd q2 (by omega)
    · exact ⟨rfl, h.told 0⟩
/-- the TAPE emptied on both sides -/
def emptd (s : Sto) : Sto := up (up s 1 1 0) 75 24 0
theorem Inv.emp [Inhabited YT] {s : Sto} (h : Inv s) : Inv (emptd s) := by
  refine h.tape ?_ ?_ (fun c i h1 h2 h3 h4 h5 => ?_)
  · unfold emptd; rw [up_row (by decide), up_at, up_at]
  · unfold emptd; rw [up_row (c' := 1) (by decide), up_at]
    exact ⟨Int.le_refl 0, by decide, fun i g1 g2 => absurd g2 (by omega)⟩
  · unfold emptd; rw [up_ne (by omega), up_ne (by omega)]
/-- the reference's NAME of the TAPE, put into row q -/
def nmTo (s : Sto) (q : Int) : Sto := fillR (up (fillR (up (up s 75 24 0) 76 30 (s 75 24)) 77 180 (s 75 24) (fun k => s 91 k - 97)) 76 q (fillR (up (up s 75 24 0) 76 30 (s 75 24)) 77 180 (s 75 24) (fun k => s 91 k - 97) 76 30)) 77 (6 * q) 6 (fun i => fillR (up (up s 75 24 0) 76 30 (s 75 24)) 77 180 (s 75 24) (fun k => s 91 k - 97) 77 (6 * 30 + i))
theorem nmTo_row {s : Sto} {q : Int} {c : Nat} (h1 : c ≠ 75) (h2 : c ≠ 76) (h3 : c ≠ 77) : nmTo s q c = s c := by
  unfold nmTo
  rw [fillR_row h3, up_row h2, fillR_row h3, up_row h2, up_row h1]
theorem nmTo_75 {s : Sto} {q i : Int} (h : i ≠ 24) : nmTo s q 75 i = s 75 i := by
  unfold nmTo
  rw [fillR_row (by decide), up_row (by decide), fillR_row (by decide), up_row (by decide), up_idx h]
theorem nmTo_24 {s : Sto} {q : Int} : nmTo s q 75 24 = 0 := by
  unfold nmTo
  rw [fillR_row (by decide), up_row (by decide), fillR_row (by decide), up_row (by decide), up_at]
theorem nmTo_76 {s : Sto} {q : Int} : nmTo s q 76 q = s 75 24 := by
  unfold nmTo
  rw [fillR_row (by decide), up_at, fillR_row (by decide), up_at]
theorem nmTo_76o {s : Sto} {q i : Int} (h : i ≠ q) (h2 : i ≠ 30) : nmTo s q 76 i = s 76 i := by
  unfold nmTo
  rw [fillR_row (by decide), up_idx h, fillR_row (by decide), up_idx h2, up_row (by decide)]
theorem nmTo_77 {s : Sto} {q i : Int} (hi : 0 ≤ i ∧ i < 6) (hn : i < s 75 24) : nmTo s q 77 (6 * q + i) = s 91 i - 97 := by
  unfold nmTo
  rw [fillR_in (by omega), fillR_in (by omega)]
  rw [show 6 * 30 + (6 * q + i - 6 * q) - 180 = i by omega]
theorem nmTo_77o {s : Sto} {q i : Int} (hn : 0 ≤ s 75 24 ∧ s 75 24 ≤ 6) (h : i < 180) (h2 : ¬ (6 * q ≤ i ∧ i < 6 * q + 6)) : nmTo s q 77 i = s 77 i := by
  unfold nmTo
  rw [fillR_out h2, up_row (by decide), fillR_out (by omega), up_row (by decide), up_row (by decide)]
set_option maxHeartbeats 2000000 in
theorem t_X6_add {n a b c : Int} {s : Sto} (h : 0 ≤ s 5 0 ∧ s 5 0 ≤ 20) : ClI LY 0 MX6_add [.inr 5, .inl n, .inl a, .inl b, .inl c] s (fun r s' => (s 5 0 < 20 ∧ r = s 5 0 ∧ s' = up (up (up (up (up s 6 (s 5 0) n) 7 (s 5 0) a) 8 (s 5 0) b) 9 (s 5 0) c) 5 0 (s 5 0 + 1)) ∨ (¬ s 5 0 < 20 ∧ r = -1 ∧ s' = s)) := by
  refine ClI.intro (by decide) rfl (Nat.le_of_ble_eq_true rfl) (fun X C r => ?_)
  refine kb_X6_add_0 C r ?_
  refine ⟨⟨by omega, by omega⟩, fun q => ⟨by omega, ?_⟩, fun q => Or.inr ⟨by omega, rfl, rfl⟩⟩
  rintro s1 rfl
  rw [up_row (c' := 5) (by decide)]
  refine ⟨by omega, ?_⟩
  rintro s2 rfl
  rw [up_row (c' := 5) (by decide), up_row (c' := 5) (by decide)]
  refine ⟨by omega, ?_⟩
  rintro s3 rfl
  rw [up_row (c' := 5) (by decide), up_row (c' := 5) (by decide), up_row (c' := 5) (by decide)]
  refine ⟨by omega, ?_⟩
  rintro s4 rfl
  rw [up_row (c' := 5) (by decide), up_row (c' := 5) (by decide), up_row (c' := 5) (by decide), up_row (c' := 5) (by decide)]
  rintro s5 rfl
  rw [up_at]
  exact Or.inl ⟨q, by omega, rfl⟩
set_option maxHeartbeats 2000000 in
theorem t_X11_person {a b c : Int} {s : Sto} {t : Int → Int} (hT : TapeR (s 1 1) (s 2) t) (ha : rg a) (hb : rg b) (hc : rg c) (h : 0 ≤ s 5 0 ∧ s 5 0 ≤ 20) : ClI LY 2 MX11_person [.inr 0, .inl a, .inl b, .inl c] s (fun r s' => (((isNm (s 1 1) (s 2) ∧ (0 ≤ a ∧ a ≤ 1) ∧ (0 ≤ b ∧ b ≤ 99) ∧ 0 ≤ c ∧ c ≤ 9999) ∧ s 5 0 < 20) ∧ r = s 5 0 ∧ ∃ p, NmR p (s 1 1) (fun i => s 2 i - 97) ∧ s' = up (up (up (up (up (up s 1 1 0) 6 (s 5 0) p) 7 (s 5 0) a) 8 (s 5 0) b) 9 (s 5 0) c) 5 0 (s 5 0 + 1)) ∨ (¬ ((isNm (s 1 1) (s 2) ∧ (0 ≤ a ∧ a ≤ 1) ∧ (0 ≤ b ∧ b ≤ 99) ∧ 0 ≤ c ∧ c ≤ 9999) ∧ s 5 0 < 20) ∧ r = -1 ∧ s' = up s 1 1 0)) := by
  refine ClI.intro (by decide) rfl (Nat.le_of_ble_eq_true rfl) (fun X C r => ?_)
  refine kb_X11_person_0 C r ?_
  refine ⟨1, _, by decide, t_X9_nameOnce hT, ?_⟩
  rintro r1 s1 ⟨rfl, hr, hn⟩
  refine ⟨hr, fun q => ?_, fun q => ?_⟩
  · rcases hn with ⟨h1, h2⟩ | ⟨h1, h2⟩
    · exact absurd h2.bd.1 (by omega)
    · exact Or.inr ⟨fun z => h1 z.1.1, rfl, rfl⟩
  · rcases hn with ⟨h1, h2⟩ | ⟨h1, h2⟩
    · have e5 : up s 1 1 0 5 = s 5 := up_row (by decide)
      refine ⟨ha, fun z => Or.inr ⟨by omega, rfl, rfl⟩, fun q1 => ⟨ha, fun z => Or.inr ⟨by omega, rfl, rfl⟩, fun q2 => ⟨hb, fun z => Or.inr ⟨by omega, rfl, rfl⟩, fun q3 => ⟨hb, fun z => Or.inr ⟨by omega, rfl, rfl⟩, fun q4 => ⟨hc, fun z => Or.inr ⟨by omega, rfl, rfl⟩, fun q5 => ⟨hc, fun q6 => ?_, fun z => Or.inr ⟨by omega, rfl, rfl⟩⟩⟩⟩⟩⟩⟩
      refine ⟨0, _, by decide, t_X6_add (by rw [e5]; exact h), ?_⟩
      rw [e5]
      rintro r2 s2 (⟨g1, rfl, rfl⟩ | ⟨g1, rfl, rfl⟩)
      · exact Or.inl ⟨⟨⟨h1, ⟨q1, q2⟩, ⟨q3, q4⟩, q5, q6⟩, g1⟩, rfl, r1, h2, rfl⟩
      · exact Or.inr ⟨fun z => g1 z.2, rfl, rfl⟩
    · exact absurd h2 q
/-- alike in all that outlasts a call -/
def agr (s' s : Sto) : Prop := ∀ (c : Nat) (i : Int), pers c i → s' c i = s c i
theorem nmTo_of {s : Sto} {q : Int} : fillR (up (fillR (up (up s 75 24 0) 76 30 (s 75 24)) 77 180 (s 75 24) (fun k => s 91 k - 97)) 76 q (fillR (up (up s 75 24 0) 76 30 (s 75 24)) 77 180 (s 75 24) (fun k => s 91 k - 97) 76 30)) 77 (6 * q) 6 (fun i => fillR (up (up s 75 24 0) 76 30 (s 75 24)) 77 180 (s 75 24) (fun k => s 91 k - 97) 77 (6 * 30 + i)) = nmTo s q := rfl
theorem agr_tn {s : Sto} : agr (fillR (up (up s 75 24 0) 76 30 (s 75 24)) 77 180 (s 75 24) (fun k => s 91 k - 97)) (up s 75 24 0) := by
  intro c i hp
  by_cases q : c = 77
  · subst q
    rw [fillR_out (by unfold pers perM at hp; omega), up_row (by decide)]
  · rw [fillR_row q, up_ne (by unfold pers perM at hp; omega)]
theorem tn_row {s : Sto} {c : Nat} (h1 : c ≠ 75) (h2 : c ≠ 76) (h3 : c ≠ 77) : fillR (up (up s 75 24 0) 76 30 (s 75 24)) 77 180 (s 75 24) (fun k => s 91 k - 97) c = s c := by rw [fillR_row h3, up_row h2, up_row h1]
theorem tn_75 {s : Sto} {i : Int} (h : i ≠ 24) : fillR (up (up s 75 24 0) 76 30 (s 75 24)) 77 180 (s 75 24) (fun k => s 91 k - 97) 75 i = s 75 i := by rw [fillR_row (by decide), up_row (by decide), up_idx h]
set_option maxHeartbeats 2000000 in
theorem t_X12_person {a b c : Int} {s : Sto} {t : Int → Int} (hT : TapeR (s 75 24) t (s 91)) (ha : rg a) (hb : rg b) (hc : rg c) (h : 0 ≤ s 75 4 ∧ s 75 4 ≤ 20) : ClI LY 2 MX12_person [.inr 75, .inl a, .inl b, .inl c] s (fun r s' => (((isNm (s 75 24) (s 91) ∧ (0 ≤ a ∧ a ≤ 1) ∧ (0 ≤ b ∧ b ≤ 99) ∧ 0 ≤ c ∧ c ≤ 9999) ∧ s 75 4 < 20) ∧ r = s 75 4 ∧ s' = up (up (up (up (nmTo (up s 75 0 0) (s 75 4)) 78 (s 75 4) a) 79 (s 75 4) b) 80 (s 75 4) c) 75 4 (s 75 4 + 1)) ∨ (¬ ((isNm (s 75 24) (s 91) ∧ (0 ≤ a ∧ a ≤ 1) ∧ (0 ≤ b ∧ b ≤ 99) ∧ 0 ≤ c ∧ c ≤ 9999) ∧ s 75 4 < 20) ∧ r = -1 ∧ agr s' (up (up s 75 0 0) 75 24 0))) := by
  refine ClI.intro (by decide) rfl (Nat.le_of_ble_eq_true rfl) (fun X C r => ?_)
  refine kb_X12_person_0 C r ?_
  rintro s0 rfl
  have e24 : up s 75 0 0 75 24 = s 75 24 := up_idx (by decide)
  have e4 : up s 75 0 0 75 4 = s 75 4 := up_idx (by decide)
  have e91 : up s 75 0 0 91 = s 91 := up_row (by decide)
  generalize up s 75 0 0 = u at e24 e4 e91 ⊢
  rw [← e24, ← e91] at hT
  rw [← e4] at h
  rw [← e24, ← e4, ← e91]
  refine ⟨1, _, by decide, t_X12_takesName hT, ?_⟩
  rintro r1 s1 (⟨rfl, hn, rfl⟩ | ⟨rfl, hn, rfl⟩)
  · refine ⟨by decide, fun z => absurd z (by decide), fun _ => ?_⟩
    have f4 := tn_75 (s := u) (i := 4) (by decide)
    have hag := agr_tn (s := u)
    refine ⟨0, _, by decide, t_X12_isIn ha (by decide) (by decide), ?_⟩
    rintro r2 s2 ⟨rfl, h1, h2⟩
    refine ⟨by omega, fun z => Or.inr ⟨by omega, rfl, hag⟩, fun q1 => ?_⟩
    refine ⟨0, _, by decide, t_X12_isIn hb (by decide) (by decide), ?_⟩
    rintro r3 s3 ⟨rfl, h3, h4⟩
    refine ⟨by omega, fun z => Or.inr ⟨by omega, rfl, hag⟩, fun q2 => ?_⟩
    refine ⟨0, _, by decide, t_X12_isIn hc (by decide) (by decide), ?_⟩
    rintro r4 s4 ⟨rfl, h5, h6⟩
    refine ⟨by omega, fun z => Or.inr ⟨by omega, rfl, hag⟩, fun q3 => ?_⟩
    rw [f4]
    refine ⟨⟨by omega, by omega⟩, fun q4 => ?_, fun z => Or.inr ⟨by omega, rfl, hag⟩⟩
    refine ⟨0, _, by decide, t_X12_movesName (by decide) (by omega) (by omega), ?_⟩
    rintro s5 rfl
    rw [nmTo_of]
    have g4 : nmTo u (u 75 4) 75 4 = u 75 4 := nmTo_75 (by decide)
    generalize nmTo u (u 75 4) = w at g4 ⊢
    rw [g4]
    refine ⟨by omega, ?_⟩
    rintro s6 rfl
    rw [up_row (c' := 75) (by decide), g4]
    refine ⟨by omega, ?_⟩
    rintro s7 rfl
    rw [up_row (c' := 75) (by decide), up_row (c' := 75) (by decide), g4]
    refine ⟨by omega, ?_⟩
    rintro s8 rfl
    rw [up_row (c' := 75) (by decide), up_row (c' := 75) (by decide), up_row (c' := 75) (by decide), g4]
    rintro s9 rfl
    rw [up_at]
    exact Or.inl ⟨⟨⟨hn, by omega, by omega, by omega⟩, by omega⟩, by omega, rfl⟩
  · exact ⟨by decide, fun _ => Or.inr ⟨fun z => hn z.1.1, rfl, fun _ _ _ => rfl⟩, fun z => absurd rfl z⟩
theorem isNm_eq {n : Int} {b t : Int → Int} (h : TapeR n b t) : isNm n b ↔ isNm n t := by
  unfold isNm
  refine ⟨fun q => ⟨q.1, fun i h1 h2 => ?_⟩, fun q => ⟨q.1, fun i h1 h2 => ?_⟩⟩
  · rw [← (h.2.2 i h1 h2).1]; exact q.2 i h1 h2
  · rw [(h.2.2 i h1 h2).1]; exact q.2 i h1 h2
theorem TapeR.self {n : Int} {b t : Int → Int} (h : TapeR n b t) : TapeR n t t := ⟨h.1, h.2.1, fun i h1 h2 => ⟨rfl, by have := h.2.2 i h1 h2; omega⟩⟩
theorem Inv.agr [Inhabited YT] {s s' : Sto} (h : Inv s) (e : agr s' s) : Inv s' := h.scr e
theorem op_person [Inhabited YT] {s : Sto} (h : Inv s) {a b c : Int} (ha : rg a) (hb : rg b) (hc : rg c) : OpI MX11_person MX12_person [.inl a, .inl b, .inl c] s := by
  obtain ⟨a1, a2, a3, a4, a5, a6, a7, a8, a9, a10, a11, a12, a13, a14, a15⟩ := h.2.1
  have hT := h.1
  have hC : 0 ≤ s 5 0 ∧ s 5 0 ≤ 20 := a6.2
  have h4 : s 5 0 = s 75 4 := a6.1
  refine ⟨2, 2, _, by decide, by decide, t_X11_person hT.2 ha hb hc hC, ?_⟩
  rintro r1 s1 (⟨q, rfl, p, hp, rfl⟩ | ⟨q, rfl, rfl⟩)
  · generalize hu : up (up (up (up (up (up s 1 1 0) 6 (s 5 0) p) 7 (s 5 0) a) 8 (s 5 0) b) 9 (s 5 0) c) 5 0 (s 5 0 + 1) = u
    have er : ∀ x : Nat, x ≠ 1 → x ≠ 5 → x ≠ 6 → x ≠ 7 → x ≠ 8 → x ≠ 9 → u x = s x := fun x g1 g2 g3 g4 g5 g6 => by
      rw [← hu, up_row g2, up_row g6, up_row g5, up_row g4, up_row g3, up_row g1]
    have e75 := er 75 (by decide) (by decide) (by decide) (by decide) (by decide) (by decide)
    have e91 := er 91 (by decide) (by decide) (by decide) (by decide) (by decide) (by decide)
    refine ⟨⟨by omega, by omega⟩, (t_X12_person (by rw [e75, e91, ← hT.1]; exact hT.2) ha hb hc (by rw [e75]; omega)).mono ?_⟩
    rw [e75, e91]
    rintro r2 s2 (⟨q2, rfl, rfl⟩ | ⟨q2, rfl, hag⟩)
    · refine ⟨h4.symm, ?_⟩
      have hi : Inv (emptd s) := h.emp
      refine hi.land ?_ ?_ (fun x i g1 g2 g3 => ?_)
      · have hnm := q.1.1
        have hb' : (0 ≤ s 75 24 ∧ s 75 24 ≤ 6) := by have := hT.2.1; have := hnm.1; omega
        have v24 : up u 75 0 0 75 24 = s 75 24 := by rw [up_idx (by decide), e75]
        have v91 : up u 75 0 0 91 = s 91 := by rw [up_row (by decide), e91]
        have w : ∀ x : Nat, x ≠ 75 → x ≠ 76 → x ≠ 77 → x ≠ 78 → x ≠ 79 → x ≠ 80 → up (up (up (up (nmTo (up u 75 0 0) (s 75 4)) 78 (s 75 4) a) 79 (s 75 4) b) 80 (s 75 4) c) 75 4 (s 75 4 + 1) x = u x := fun x g1 g2 g3 g4 g5 g6 => by
          rw [up_row g1, up_row g6, up_row g5, up_row g4, nmTo_row g1 g2 g3, up_row g1]
        have w75 : ∀ i : Int, i ≠ 4 → i ≠ 24 → i ≠ 0 → up (up (up (up (nmTo (up u 75 0 0) (s 75 4)) 78 (s 75 4) a) 79 (s 75 4) b) 80 (s 75 4) c) 75 4 (s 75 4 + 1) 75 i = s 75 i := fun i g1 g2 g3 => by
          rw [up_idx g1, up_row (by decide), up_row (by decide), up_row (by decide), nmTo_75 g2, up_idx g3, e75]
        have w4 : up (up (up (up (nmTo (up u 75 0 0) (s 75 4)) 78 (s 75 4) a) 79 (s 75 4) b) 80 (s 75 4) c) 75 4 (s 75 4 + 1) 75 4 = s 75 4 + 1 := up_at _ _ _ _
        have w76 : ∀ i : Int, i ≠ s 75 4 → i ≠ 30 → up (up (up (up (nmTo (up u 75 0 0) (s 75 4)) 78 (s 75 4) a) 79 (s 75 4) b) 80 (s 75 4) c) 75 4 (s 75 4 + 1) 76 i = s 76 i := fun i g1 g2 => by
          rw [up_row (by decide), up_row (by decide), up_row (by decide), up_row (by decide), nmTo_76o g1 g2, up_row (by decide), er 76 (by decide) (by decide) (by decide) (by decide) (by decide) (by decide)]
        have w76q : up (up (up (up (nmTo (up u 75 0 0) (s 75 4)) 78 (s 75 4) a) 79 (s 75 4) b) 80 (s 75 4) c) 75 4 (s 75 4 + 1) 76 (s 75 4) = s 75 24 := by
          rw [up_row (by decide), up_row (by decide), up_row (by decide), up_row (by decide), nmTo_76, v24]
        have w77 : ∀ i : Int, i < 180 → ¬ (6 * s 75 4 ≤ i ∧ i < 6 * s 75 4 + 6) → up (up (up (up (nmTo (up u 75 0 0) (s 75 4)) 78 (s 75 4) a) 79 (s 75 4) b) 80 (s 75 4) c) 75 4 (s 75 4 + 1) 77 i = s 77 i := fun i g1 g2 => by
          rw [up_row (by decide), up_row (by decide), up_row (by decide), up_row (by decide), nmTo_77o (by rw [v24]; exact hb') g1 g2, up_row (by decide), er 77 (by decide) (by decide) (by decide) (by decide) (by decide) (by decide)]
        have w77q : ∀ i : Int, 0 ≤ i → i < s 75 24 → up (up (up (up (nmTo (up u 75 0 0) (s 75 4)) 78 (s 75 4) a) 79 (s 75 4) b) 80 (s 75 4) c) 75 4 (s 75 4 + 1) 77 (6 * s 75 4 + i) = s 91 i - 97 := fun i g1 g2 => by
          rw [up_row (by decide), up_row (by decide), up_row (by decide), up_row (by decide), nmTo_77 (by omega) (by rw [v24]; exact g2), v91]
        have w78 : ∀ i : Int, up (up (up (up (nmTo (up u 75 0 0) (s 75 4)) 78 (s 75 4) a) 79 (s 75 4) b) 80 (s 75 4) c) 75 4 (s 75 4 + 1) 78 i = if i = s 75 4 then a else s 78 i := fun i => by
          rw [up_row (by decide), up_row (by decide), up_row (by decide), up_if, nmTo_row (by decide) (by decide) (by decide), up_row (by decide), er 78 (by decide) (by decide) (by decide) (by decide) (by decide) (by decide)]
        have w79 : ∀ i : Int, up (up (up (up (nmTo (up u 75 0 0) (s 75 4)) 78 (s 75 4) a) 79 (s 75 4) b) 80 (s 75 4) c) 75 4 (s 75 4 + 1) 79 i = if i = s 75 4 then b else s 79 i := fun i => by
          rw [up_row (by decide), up_row (by decide), up_if, up_row (by decide), nmTo_row (by decide) (by decide) (by decide), up_row (by decide), er 79 (by decide) (by decide) (by decide) (by decide) (by decide) (by decide)]
        have w80 : ∀ i : Int, up (up (up (up (nmTo (up u 75 0 0) (s 75 4)) 78 (s 75 4) a) 79 (s 75 4) b) 80 (s 75 4) c) 75 4 (s 75 4 + 1) 80 i = if i = s 75 4 then c else s 80 i := fun i => by
          rw [up_row (by decide), up_if, up_row (by decide), up_row (by decide), nmTo_row (by decide) (by decide) (by decide), up_row (by decide), er 80 (by decide) (by decide) (by decide) (by decide) (by decide) (by decide)]
        generalize up (up (up (up (nmTo (up u 75 0 0) (s 75 4)) 78 (s 75 4) a) 79 (s 75 4) b) 80 (s 75 4) c) 75 4 (s 75 4 + 1) = z at w w75 w4 w76 w76q w77 w77q w78 w79 w80 ⊢
        have k : ∀ x : Nat, (3 ≤ x ∧ x ≤ 20) → z x = u x := fun x g => w x (by omega) (by omega) (by omega) (by omega) (by omega) (by omega)
        have u5 : u 5 0 = s 5 0 + 1 := by rw [← hu, up_at]
        have u6 : ∀ i : Int, u 6 i = if i = s 5 0 then p else s 6 i := fun i => by rw [← hu, up_row (by decide), up_row (by decide), up_row (by decide), up_row (by decide), up_if, up_row (by decide)]
        have u7 : ∀ i : Int, u 7 i = if i = s 5 0 then a else s 7 i := fun i => by rw [← hu, up_row (by decide), up_row (by decide), up_row (by decide), up_if, up_row (by decide), up_row (by decide)]
        have u8 : ∀ i : Int, u 8 i = if i = s 5 0 then b else s 8 i := fun i => by rw [← hu, up_row (by decide), up_row (by decide), up_if, up_row (by decide), up_row (by decide), up_row (by decide)]
        have u9 : ∀ i : Int, u 9 i = if i = s 5 0 then c else s 9 i := fun i => by rw [← hu, up_row (by decide), up_if, up_row (by decide), up_row (by decide), up_row (by decide), up_row (by decide)]
        have ks : ∀ x : Nat, (3 ≤ x ∧ x ≤ 20) → ¬ (5 ≤ x ∧ x ≤ 9) → z x = s x := fun x g g2 => by rw [k x g, er x (by omega) (by omega) (by omega) (by omega) (by omega) (by omega)]
        have km : ∀ x : Nat, (81 ≤ x ∧ x ≤ 97) → z x = s x := fun x g => by rw [w x (by omega) (by omega) (by omega) (by omega) (by omega) (by omega), er x (by omega) (by omega) (by omega) (by omega) (by omega) (by omega)]
        unfold LandR
        rw [ks 3 (by omega) (by omega), ks (3 + 1) (by omega) (by omega), ks (3 + 7) (by omega) (by omega), ks (3 + 8) (by omega) (by omega), ks (3 + 9) (by omega) (by omega), ks (3 + 10) (by omega) (by omega), ks (3 + 11) (by omega) (by omega), ks (3 + 12) (by omega) (by omega), ks (3 + 13) (by omega) (by omega), ks (3 + 14) (by omega) (by omega), ks (3 + 15) (by omega) (by omega), ks (3 + 16) (by omega) (by omega), ks (3 + 17) (by omega) (by omega)]
        rw [km 81 (by omega), km 82 (by omega), km 83 (by omega), km 84 (by omega), km 85 (by omega), km 86 (by omega), km 87 (by omega), km 88 (by omega), km 89 (by omega), km 90 (by omega), km 93 (by omega), km 94 (by omega), km 95 (by omega), km 96 (by omega), km 97 (by omega)]
        rw [w75 1 (by decide) (by decide) (by decide), w75 8 (by decide) (by decide) (by decide), w75 9 (by decide) (by decide) (by decide), w75 18 (by decide) (by decide) (by decide), w75 21 (by decide) (by decide) (by decide), w75 22 (by decide) (by decide) (by decide), w75 30 (by decide) (by decide) (by decide), w4]
        have z5 : z (3 + 2) 0 = s 5 0 + 1 := by rw [k (3 + 2) (by omega)]; exact u5
        rw [z5]
        refine ⟨a1, a2, a3, a4, a5, ⟨by omega, by omega, by omega⟩, ?_, ?_, a9, a10, a11, ?_, a13, a14, a15⟩
        · intro x g1 g2
          by_cases g : x = s 5 0
          · subst g
            rw [k (3 + 3) (by omega), u6, if_pos rfl, Int.zero_add, h4, w76q, ← hT.1]
            refine hp.congr rfl (fun i i1 i2 => ?_)
            rw [w77q i i1 (by rw [← hT.1]; exact i2), ← (hT.2.2.2 i i1 i2).1]
          · rw [k (3 + 3) (by omega), u6, if_neg g]
            have g3 := a7 x g1 (by show x < s (3 + 2) 0; have : s (3 + 2) 0 = s 5 0 := rfl; omega)
            refine g3.congr (w76 _ (by omega) (by omega)) (fun i i1 i2 => w77 _ ?_ ?_)
            · have := g3.1; omega
            · have := g3.1; omega
        · intro x g1 g2
          rw [k (3 + 4) (by omega), k (3 + 5) (by omega), k (3 + 6) (by omega)]
          rw [u7, u8, u9, w78, w79, w80, ← h4]
          by_cases g : x = s 5 0
          · rw [if_pos g, if_pos g, if_pos g, if_pos g, if_pos g, if_pos g]
            exact ⟨⟨rfl, by omega⟩, ⟨rfl, by omega, by omega⟩, rfl, hc⟩
          · rw [if_neg g, if_neg g, if_neg g, if_neg g, if_neg g, if_neg g]
            exact a8 x g1 (by show x < s (3 + 2) 0; have : s (3 + 2) 0 = s 5 0 := rfl; omega)
        · intro x g1 g2
          have g3 := a12 x g1 g2
          have hg : s 3 9 ≤ 10 := a11.2.2
          refine g3.congr (w76 _ (by omega) (by omega)) (fun i i1 i2 => w77 _ ?_ ?_)
          · have := g3.1; omega
          · have := g3.1; omega
      · rw [up_idx (by decide), up_row (by decide), up_row (by decide), up_row (by decide), nmTo_75 (by decide), up_idx (by decide), e75]
        exact h.2.2.2.2.1
      · by_cases g75 : x = 75
        · subst g75
          by_cases g24 : i = 24
          · subst g24
            rw [up_idx (by decide), up_row (by decide), up_row (by decide), up_row (by decide), nmTo_24]
            unfold emptd
            rw [up_at]
          · unfold pers perM at *
            rw [up_idx (by omega), up_row (by decide), up_row (by decide), up_row (by decide), nmTo_75 g24, up_idx (by omega), e75]
            unfold emptd
            rw [up_idx g24, up_row (by decide)]
        · unfold pers perM at *
          rw [up_row g75, up_row (by omega), up_row (by omega), up_row (by omega), nmTo_row g75 (by omega) (by omega), up_row g75, ← hu, up_row (by omega), up_row (by omega), up_row (by omega), up_row (by omega), up_row (by omega)]
          unfold emptd
          rw [up_row g75]
    · exact absurd ⟨⟨hT.1 ▸ (isNm_eq hT.2).mp q.1.1, q.1.2⟩, by omega⟩ q2
  · have e75 : up s 1 1 0 75 = s 75 := up_row (by decide)
    have e91 : up s 1 1 0 91 = s 91 := up_row (by decide)
    refine ⟨by decide, (t_X12_person (by rw [e75, e91, ← hT.1]; exact hT.2) ha hb hc (by rw [e75]; omega)).mono ?_⟩
    rw [e75, e91]
    rintro r2 s2 (⟨q2, rfl, rfl⟩ | ⟨q2, rfl, hag⟩)
    · exact absurd ⟨⟨(isNm_eq hT.2).mpr (hT.1 ▸ q2.1.1), q2.1.2⟩, by omega⟩ q
    · refine ⟨rfl, (h.emp).agr (fun x i hp => ?_)⟩
      rw [hag x i hp]
      unfold emptd
      by_cases g24 : x = 75 ∧ i = 24
      · rw [g24.1, g24.2, up_at, up_at]
      · rw [up_ne g24, up_ne g24, up_ne (by unfold pers perM at hp; omega)]
