/-! A YEAR, in the class -/
theorem bnS_o {T : Sto} {p : Int} {c : Nat} (h1 : c ≠ 75) (h2 : c ≠ 76) (h3 : c ≠ 77) (h4 : c ≠ 79) : bnS T p c = T c := by
  unfold bnS
  split
  · split
    · rw [mvN_o h2 h3, up_row h1, up_row h4]
    · rw [up_row h4]
  · rfl
theorem bnS_75 {T : Sto} {p i : Int} (h : i ≠ 1) : bnS T p 75 i = T 75 i := by
  unfold bnS
  split
  · split
    · rw [mvN_o (by decide) (by decide), up_idx h, up_row (by decide)]
    · rw [up_row (by decide)]
  · rfl
theorem bnA_o {T : Sto} {c : Nat} (h1 : c ≠ 75) (h2 : c ≠ 76) (h3 : c ≠ 77) (h4 : c ≠ 79) : ∀ k : Nat, bnA T k c = T c
  | 0 => rfl
  | k + 1 => by
    show bnS (bnA T k) k c = T c
    rw [bnS_o h1 h2 h3 h4, bnA_o h1 h2 h3 h4 k]
theorem bnA_75 {T : Sto} {i : Int} (h : i ≠ 1) : ∀ k : Nat, bnA T k 75 i = T 75 i
  | 0 => rfl
  | k + 1 => by
    show bnS (bnA T k) k 75 i = T 75 i
    rw [bnS_75 h, bnA_75 h k]
theorem t_cnt2 [Inhabited YT] {s t : Sto} (h : Inv s) (e0 : t 3 0 = s 3 0) (e11 : t 3 11 = s 3 11) (e14 : t 14 = s 14) (e15 : t 15 = s 15) : ClV LY 1 MX0_count [.inr 59, .inr 3] t (fun s' => (∀ c : Nat, c ≠ 60 → s' c = t c) ∧ ∀ a b : Int, 0 ≤ a → a < 8 → 0 ≤ b → b < 8 → s' 60 (a * 8 + b) = if a < s 75 9 ∧ b < s 75 9 then ovS s a b else 0) := by
  obtain ⟨v1, v2, v3, v4⟩ := h.vts
  refine (t_X0_count (s := t) (K := s 75 9) (n := s 75 18) (f := fun v i => s 81 (8 * (7 + v) + i)) (by rw [e0]; exact v1.1) (by rw [e11]; exact v1.2) v2 v3 (fun v v0 v1' => by rw [e14]; exact (v4 v v0 v1').1)).mono ?_
  rintro s' ⟨g1, g2⟩
  refine ⟨g1, fun a b a0 a1 b0 b1 => ?_⟩
  rw [g2 a b a0 a1 b0 b1]
  by_cases q : a < s 75 9 ∧ b < s 75 9
  · rw [if_pos q, if_pos q]
    unfold ovS
    exact ovF_congr (n := s 75 18) (fun _ _ _ => ⟨rfl, rfl⟩) (fun v v0 v1' => by rw [e15]; exact (v4 v v0 v1').2.1.1) _ (by omega)
  · rw [if_neg q, if_neg q]
theorem t_ordBy2 [Inhabited YT] {s t : Sto} (h : Inv s) (e0 : t 3 0 = s 3 0) (e11 : t 3 11 = s 3 11) (e14 : t 14 = s 14) (e15 : t 15 = s 15) {rule : Int} (hr : rg rule) : ClI LY 5 MX0_orderBy [.inr 59, .inr 3, .inl rule] t (fun r s' => (∀ c : Nat, ¬ (60 ≤ c ∧ c ≤ 63) → s' c = t c) ∧ (s 75 18 = 0 → r = t 3 2) ∧ (s 75 18 ≠ 0 → OdR (s 75 9) r (voF (ovS s) (s 75 9) rule))) := by
  obtain ⟨v1, v2, v3, v4⟩ := h.vts
  have bd := ovS_bd h
  refine ClI.intro (by decide) rfl (Nat.le_of_ble_eq_true rfl) (fun X C r => ?_)
  refine kb_X0_orderBy_0 C r ?_
  rw [e11, v1.2]
  refine ⟨⟨by omega, by omega⟩, fun z => ⟨1, _, by decide, t_cnt2 h e0 e11 e14 e15, ?_⟩, fun z => ⟨fun _ _ => rfl, fun _ => rfl, fun q => absurd z q⟩⟩
  rintro u ⟨u1, u2⟩
  have hov : OVR u (s 75 9) (ovS s) := fun x y x0 x1 y0 y1 => ⟨by rw [u2 x y x0 (by omega) y0 (by omega), if_pos ⟨x1, y1⟩], bd x y⟩
  have u3 : u 3 0 = s 75 9 := by rw [u1 3 (by decide), e0, v1.1]
  rw [u3]
  refine ⟨hr, fun z2 => ⟨4, _, by decide, t_X0_orderByMerit v2 hr hov, ?_⟩, fun z2 => ⟨2, _, by decide, t_X0_findNearest v2 hov, ?_⟩⟩
  · rintro x y ⟨hy, hx⟩
    rw [hy]
    refine ⟨fun c hc => u1 c (by omega), fun q => absurd q z, fun _ => hx.congr (fun k _ _ => ?_)⟩
    show voF (ovS s) (s 75 9) rule k = _
    unfold voF
    rw [if_neg z2]
  · rintro x ⟨x1, x2⟩
    have p2 := pow_256 (K := s 75 9) v2.2
    have p0 : 0 < (2 : Nat) ^ (s 75 9).toNat := Nat.pow_pos (by decide)
    have sh1 : xshl 1 (s 75 9) = ((2 ^ (s 75 9).toNat : Nat) : Int) := by
      have := xshl_nat (n := 1) (b := (s 75 9).toNat) (by omega) (by omega)
      rw [show ((1 : Nat) : Int) = 1 from rfl, Int.toNat_of_nonneg (by omega), Nat.one_mul] at this
      exact this
    rw [x1 3 (by decide) (by decide), u3, sh1, show ((2 ^ (s 75 9).toNat : Nat) : Int) - 1 = ((2 ^ (s 75 9).toNat - 1 : Nat) : Int) by omega]
    refine ⟨⟨by omega, by omega⟩, fun c hc => by rw [x1 c (by omega) (by omega), u1 c (by omega)], fun q => absurd q z, fun _ => ?_⟩
    have pc : pcF (2 ^ (s 75 9).toNat - 1) 8 = (s 75 9).toNat := pc_full ⟨(s 75 9).toNat, by omega⟩
    rw [(x2 _ (by omega)).2, pc]
    refine (rwA_OdR (ov := ovS s) (fun a b _ _ _ _ => bd a b) v2).congr (fun k _ _ => ?_)
    show voF (ovS s) (s 75 9) rule k = _
    unfold voF
    rw [if_pos z2]
/-- the year, as the virtual store has it -/
noncomputable def yrT (vt : Int) (vo : Int → Int) (t : Sto) : Sto := if xrem (t 75 21 + 1) 10 = 0 then fillR (up (bnA (agS t (wvF t (t 81)) (t 75 4)) (t 75 4).toNat) 75 21 (t 75 21 + 1)) 81 0 8 (fun i => if vt = 0 then t 81 i else vo i) else up (bnA (agS t (wvF t (t 81)) (t 75 4)) (t 75 4).toNat) 75 21 (t 75 21 + 1)
theorem yrT_o {vt : Int} {vo : Int → Int} {t : Sto} {c : Nat} (h1 : c ≠ 75) (h2 : c ≠ 76) (h3 : c ≠ 77) (h4 : c ≠ 79) (h5 : c ≠ 80) (h6 : c ≠ 81) : yrT vt vo t c = t c := by
  have e : agS t (wvF t (t 81)) (t 75 4) c = t c := by
    funext i
    unfold agS
    rw [if_neg (fun q => h5 q.1), if_neg (fun q => h4 q.1)]
  unfold yrT
  split
  · rw [fillR_row h6, up_row h1, bnA_o h1 h2 h3 h4, e]
  · rw [up_row h1, bnA_o h1 h2 h3 h4, e]
theorem yrT_75 {vt : Int} {vo : Int → Int} {t : Sto} {i : Int} (h1 : i ≠ 1) : yrT vt vo t 75 i = if i = 21 then t 75 21 + 1 else t 75 i := by
  have e : agS t (wvF t (t 81)) (t 75 4) 75 i = t 75 i := by
    unfold agS
    rw [if_neg (fun q => absurd q.1 (by decide)), if_neg (fun q => absurd q.1 (by decide))]
  unfold yrT
  split
  · rw [fillR_row (by decide), up_if, bnA_75 h1, e]
  · rw [up_if, bnA_75 h1, e]
theorem yrT_m {vt : Int} {vo : Int → Int} {t : Sto} {c : Nat} (h : c = 76 ∨ c = 77 ∨ c = 79) : yrT vt vo t c = bnA (agS t (wvF t (t 81)) (t 75 4)) (t 75 4).toNat c := by
  unfold yrT
  split
  · rw [fillR_row (by omega), up_row (by omega)]
  · rw [up_row (by omega)]
theorem yrT_1 {vt : Int} {vo : Int → Int} {t : Sto} : yrT vt vo t 75 1 = bnA (agS t (wvF t (t 81)) (t 75 4)) (t 75 4).toNat 75 1 := by
  unfold yrT
  split
  · rw [fillR_row (by decide), up_idx (by decide)]
  · rw [up_idx (by decide)]
theorem yrT_80 {vt : Int} {vo : Int → Int} {t : Sto} {p : Int} (h : 0 ≤ p ∧ p < t 75 4) : yrT vt vo t 80 p = wr (t 80 p + wvF t (t 81) p) := by
  have e : agS t (wvF t (t 81)) (t 75 4) 80 p = wr (t 80 p + wvF t (t 81) p) := by
    unfold agS
    rw [if_pos ⟨rfl, h⟩]
  unfold yrT
  split
  · rw [fillR_row (by decide), up_row (by decide), bnA_o (by decide) (by decide) (by decide) (by decide), e]
  · rw [up_row (by decide), bnA_o (by decide) (by decide) (by decide) (by decide), e]
theorem yrT_81 {vt : Int} {vo : Int → Int} {t : Sto} {i : Int} : yrT vt vo t 81 i = if xrem (t 75 21 + 1) 10 = 0 ∧ 0 ≤ i ∧ i < 8 then (if vt = 0 then t 81 i else vo i) else t 81 i := by
  have e : agS t (wvF t (t 81)) (t 75 4) 81 = t 81 := by
    funext i
    unfold agS
    rw [if_neg (fun q => absurd q.1 (by decide)), if_neg (fun q => absurd q.1 (by decide))]
  unfold yrT
  by_cases q : xrem (t 75 21 + 1) 10 = 0
  · rw [if_pos q]
    by_cases q2 : 0 ≤ i ∧ i < 8
    · rw [fillR_in (by omega), show i - 0 = i by omega, if_pos (show xrem (t 75 21 + 1) 10 = 0 ∧ 0 ≤ i ∧ i < 8 from ⟨q, q2⟩)]
    · rw [fillR_out (by omega), if_neg (fun z => q2 z.2), up_row (by decide), bnA_o (by decide) (by decide) (by decide) (by decide), e]
  · rw [if_neg q, if_neg (fun z => q z.1), up_row (by decide), bnA_o (by decide) (by decide) (by decide) (by decide), e]
