/-! OPERATIONS: site, feed -/
set_option maxHeartbeats 2000000 in
theorem t_X11_site {k a b c e : Int} {s : Sto} (hk : rg k) (ha : rg a) (hb : rg b) (hc : rg c) (he : rg e) : ClI LY 0 MX11_site [.inr 0, .inl k, .inl a, .inl b, .inl c, .inl e] s (fun r s' => (r = 1 ∧ ((0 ≤ k ∧ k ≤ 5) ∧ (0 ≤ a ∧ a ≤ 1) ∧ (-99 ≤ b ∧ b ≤ 99) ∧ (0 ≤ c ∧ c ≤ 99) ∧ 0 ≤ e ∧ e ≤ 20) ∧ s' = up (up (up (up s 10 (k * 4) a) 10 (k * 4 + 1) b) 10 (k * 4 + 2) c) 10 (k * 4 + 3) e) ∨ (r = 0 ∧ ¬ ((0 ≤ k ∧ k ≤ 5) ∧ (0 ≤ a ∧ a ≤ 1) ∧ (-99 ≤ b ∧ b ≤ 99) ∧ (0 ≤ c ∧ c ≤ 99) ∧ 0 ≤ e ∧ e ≤ 20) ∧ s' = s)) := by
  refine ClI.introZ (by decide) rfl (Nat.le_of_ble_eq_true rfl) (fun X C r => ?_)
  refine kb_X11_site_0 C r ?_
  refine ⟨hk, fun q => Or.inr ⟨rfl, by omega, rfl⟩, fun q1 => ⟨hk, fun q => Or.inr ⟨rfl, by omega, rfl⟩, fun q2 => ⟨ha, fun q => Or.inr ⟨rfl, by omega, rfl⟩, fun q3 => ⟨ha, fun q => Or.inr ⟨rfl, by omega, rfl⟩, fun q4 => ⟨hb, fun q => Or.inr ⟨rfl, by omega, rfl⟩, fun q5 => ⟨hb, fun q6 => ⟨hc, fun q => Or.inr ⟨rfl, by omega, rfl⟩, fun q7 => ⟨hc, fun q => Or.inr ⟨rfl, by omega, rfl⟩, fun q8 => ⟨he, fun q => Or.inr ⟨rfl, by omega, rfl⟩, fun q9 => ⟨he, fun q10 => ⟨by omega, ?_⟩, fun q => Or.inr ⟨rfl, by omega, rfl⟩⟩⟩⟩⟩, fun q => Or.inr ⟨rfl, by omega, rfl⟩⟩⟩⟩⟩⟩⟩
  rintro s1 rfl
  refine ⟨by omega, ?_⟩
  rintro s2 rfl
  refine ⟨by omega, ?_⟩
  rintro s3 rfl
  refine ⟨by omega, ?_⟩
  rintro s4 rfl
  exact Or.inl ⟨rfl, by omega, rfl⟩
set_option maxHeartbeats 2000000 in
theorem t_X12_site {k a b c e : Int} {s : Sto} (hk : rg k) (ha : rg a) (hb : rg b) (hc : rg c) (he : rg e) : ClI LY 1 MX12_site [.inr 75, .inl k, .inl a, .inl b, .inl c, .inl e] s (fun r s' => (r = 1 ∧ ((0 ≤ k ∧ k ≤ 5) ∧ (0 ≤ a ∧ a ≤ 1) ∧ (-99 ≤ b ∧ b ≤ 99) ∧ (0 ≤ c ∧ c ≤ 99) ∧ 0 ≤ e ∧ e ≤ 20) ∧ s' = up (up (up (up (up s 75 0 0) 83 k a) 84 k b) 85 k c) 86 k e) ∨ (r = 0 ∧ ¬ ((0 ≤ k ∧ k ≤ 5) ∧ (0 ≤ a ∧ a ≤ 1) ∧ (-99 ≤ b ∧ b ≤ 99) ∧ (0 ≤ c ∧ c ≤ 99) ∧ 0 ≤ e ∧ e ≤ 20) ∧ s' = up s 75 0 0)) := by
  refine ClI.introZ (by decide) rfl (Nat.le_of_ble_eq_true rfl) (fun X C r => ?_)
  refine kb_X12_site_0 C r ?_
  rintro s1 rfl
  refine ⟨0, _, by decide, t_X12_isIn hk (by decide) (by decide), ?_⟩
  rintro r1 s1 ⟨rfl, h1, h2⟩
  refine ⟨by omega, fun q => Or.inr ⟨rfl, by omega, rfl⟩, fun q1 => ?_⟩
  refine ⟨0, _, by decide, t_X12_isIn ha (by decide) (by decide), ?_⟩
  rintro r2 s2 ⟨rfl, h3, h4⟩
  refine ⟨by omega, fun q => Or.inr ⟨rfl, by omega, rfl⟩, fun q2 => ?_⟩
  refine ⟨0, _, by decide, t_X12_isIn hb (by decide) (by decide), ?_⟩
  rintro r3 s3 ⟨rfl, h5, h6⟩
  refine ⟨by omega, fun q => Or.inr ⟨rfl, by omega, rfl⟩, fun q3 => ?_⟩
  refine ⟨0, _, by decide, t_X12_isIn hc (by decide) (by decide), ?_⟩
  rintro r4 s4 ⟨rfl, h7, h8⟩
  refine ⟨by omega, fun q => Or.inr ⟨rfl, by omega, rfl⟩, fun q4 => ?_⟩
  refine ⟨0, _, by decide, t_X12_isIn he (by decide) (by decide), ?_⟩
  rintro r5 s5 ⟨rfl, h9, h10⟩
  refine ⟨by omega, fun q5 => ⟨by omega, ?_⟩, fun q => Or.inr ⟨rfl, by omega, rfl⟩⟩
  rintro s6 rfl
  refine ⟨by omega, ?_⟩
  rintro s7 rfl
  refine ⟨by omega, ?_⟩
  rintro s8 rfl
  refine ⟨by omega, ?_⟩
  rintro s9 rfl
  exact Or.inl ⟨rfl, by omega, rfl⟩
theorem op_site [Inhabited YT] {s : Sto} (h : Inv s) {k a b c e : Int} (hk : rg k) (ha : rg a) (hb : rg b) (hc : rg c) (he : rg e) : OpI MX11_site MX12_site [.inl k, .inl a, .inl b, .inl c, .inl e] s := by
  refine ⟨0, 1, _, by decide, by decide, t_X11_site hk ha hb hc he, ?_⟩
  rintro r1 s1 (⟨rfl, q, rfl⟩ | ⟨rfl, q, rfl⟩)
  · refine ⟨by decide, (t_X12_site hk ha hb hc he).mono ?_⟩
    rintro r2 s2 (⟨rfl, q2, rfl⟩ | ⟨rfl, q2, rfl⟩)
    · obtain ⟨a1, a2, a3, a4, a5, a6, a7, a8, a9, a10, a11, a12, a13, a14, a15⟩ := h.2.1
      refine ⟨rfl, h.land ?_ ?_ (fun c i h1 h2 h3 => ?_)⟩
      · unfold LandR
        simp (disch := decide) only [up_row, up_idx, up_at]
        refine ⟨a1, a2, a3, a4, a5, a6, a7, a8, ?_, a10, a11, a12, a13, a14, a15⟩
        intro j g1 g2
        have g := a9 j g1 g2
        simp (disch := decide) only [up_if, up_row]
        by_cases gk : j = k
        · subst gk
          rw [if_pos rfl, if_pos rfl, if_pos rfl, if_pos rfl]
          refine ⟨⟨?_, by omega⟩, ⟨?_, by omega⟩, ⟨?_, by omega⟩, ⟨?_, by omega⟩⟩
          · rw [if_neg (by omega), if_neg (by omega), if_neg (by omega), if_pos (by omega)]
          · rw [if_neg (by omega), if_neg (by omega), if_pos (by omega)]
          · rw [if_neg (by omega), if_pos (by omega)]
          · rw [if_pos (by omega)]
        · rw [if_neg gk, if_neg gk, if_neg gk, if_neg gk]
          rw [if_neg (by omega), if_neg (by omega), if_neg (by omega), if_neg (by omega), if_neg (by omega), if_neg (by omega), if_neg (by omega), if_neg (by omega), if_neg (by omega), if_neg (by omega), if_neg (by omega), if_neg (by omega), if_neg (by omega), if_neg (by omega), if_neg (by omega), if_neg (by omega)]
          exact g
      · simp (disch := decide) only [up_row, up_idx, up_at]
        exact h.2.2.2.2.1
      · unfold pers perM at *
        rw [up_ne (by omega), up_ne (by omega), up_ne (by omega), up_ne (by omega), up_ne (by omega), up_ne (by omega), up_ne (by omega), up_ne (by omega), up_ne (by omega)]
    · exact absurd q q2
  · refine ⟨by decide, (t_X12_site hk ha hb hc he).mono ?_⟩
    rintro r2 s2 (⟨rfl, q2, rfl⟩ | ⟨rfl, q2, rfl⟩)
    · exact absurd q2 q
    · exact ⟨rfl, h.told 0⟩
/-- a byte of a number -/
def byt (v z : Int) : Int := v / 2 ^ z.toNat % 256
theorem bits_of (v : Int) : (Int32.ofInt v).toBitVec.toNat = (v % 4294967296).toNat := by
  have e : Int32.ofInt v = nI (v % 4294967296).toNat := by
    rw [← oI_nat, ← Int32.toInt_inj, Int32.toInt_ofInt, Int32.toInt_ofInt]
    have : (((v % 4294967296).toNat : Nat) : Int) = v % 4294967296 := Int.toNat_of_nonneg (by omega)
    rw [this]
    exact (Int.emod_bmod v 4294967296).symm
  rw [e, pk_tn (by omega)]
theorem and255 (a : Int) : xand a 255 = a % 256 := by
  unfold xand
  rw [show Int32.ofInt 255 = (255 : Int32) from rfl, pk_and (Int32.ofInt a) (m := 255) 8 (by decide), nI_back (by omega), bits_of]
  omega
theorem byt_u {v z : Int} (hz : z = 24 ∨ z = 16 ∨ z = 8 ∨ z = 0) : xand (xushr v z) 255 = byt v z := by
  rw [and255]
  have hu : xushr v z = wr (((v % 4294967296).toNat / 2 ^ z.toNat : Nat) : Int) := by
    unfold xushr wr
    congr 1
    rw [oI_nat]
    refine nI_ofBits ?_
    have hb : z.toNat < 32 := by omega
    have hs := (sh31 hb).2.2
    rw [← oI_nat, Int.toNat_of_nonneg (by omega)] at hs
    rw [pk_ushr (Int32.ofInt v) (Int32.ofInt z) z.toNat hs, bits_of]
  have hw : wr (((v % 4294967296).toNat / 2 ^ z.toNat : Nat) : Int) % 256 = ((((v % 4294967296).toNat / 2 ^ z.toNat : Nat) : Int)) % 256 := by
    unfold wr
    rw [Int32.toInt_ofInt]
    show Int.bmod _ 4294967296 % 256 = _
    rw [Int.bmod_def]
    split <;> omega
  rw [hu, hw]
  unfold byt
  rcases hz with rfl | rfl | rfl | rfl
  · show (((v % 4294967296).toNat / 16777216 : Nat) : Int) % 256 = v / 16777216 % 256
    omega
  · show (((v % 4294967296).toNat / 65536 : Nat) : Int) % 256 = v / 65536 % 256
    omega
  · show (((v % 4294967296).toNat / 256 : Nat) : Int) % 256 = v / 256 % 256
    omega
  · show (((v % 4294967296).toNat / 1 : Nat) : Int) % 256 = v / 1 % 256
    omega
theorem byt_s {v z : Int} (hv : rg v) (hz : z = 24 ∨ z = 16 ∨ z = 8 ∨ z = 0) : xand (xshr v z) 255 = byt v z := by
  rw [and255]
  have hb : z.toNat < 32 := by omega
  have e : Int32.ofInt z &&& 31 = Int32.ofInt z := by
    have := (sh31 hb).1
    rw [← oI_nat, Int.toNat_of_nonneg (by omega)] at this
    exact this
  have hs := (sh31 hb).2.1
  rw [← oI_nat, Int.toNat_of_nonneg (by omega)] at hs
  unfold xshr byt
  rw [e, pk_shr (Int32.ofInt v) (Int32.ofInt z) z.toNat hs, oI_toInt hv, Int.shiftRight_eq_div_pow]
  first | rfl | (rw [Int.natCast_pow]; rfl)
theorem byt_bd (v z : Int) : 0 ≤ byt v z ∧ byt v z ≤ 255 := by unfold byt; omega
theorem up_up (s : Sto) (c : Nat) (i v w : Int) : up (up s c i v) c i w = up s c i w := by
  funext c' j
  by_cases h : c' = c ∧ j = i
  · simp only [up, if_pos h]
  · simp only [up, if_neg h]
theorem up_comm {s : Sto} {c c' : Nat} {i j v w : Int} (h : c ≠ c') : up (up s c i v) c' j w = up (up s c' j w) c i v := by
  funext x y
  by_cases h1 : x = c ∧ y = i
  · have h2 : ¬ (x = c' ∧ y = j) := fun q => h (h1.1.symm.trans q.1)
    simp only [up, if_pos h1, if_neg h2]
  · by_cases h2 : x = c' ∧ y = j
    · simp only [up, if_neg h1, if_pos h2]
    · simp only [up, if_neg h1, if_neg h2]
def fed (s : Sto) (c0 : Nat) (i0 : Int) (c1 : Nat) (v : Int) : Sto := up (fillR s c1 (s c0 i0) 4 (fun j => byt v (24 - 8 * j))) c0 i0 (s c0 i0 + 4)
theorem fed_step {s : Sto} {c0 c1 : Nat} {i0 n k b : Int} {g : Int → Int} (hc : c0 ≠ c1) (hk : 0 ≤ k) (hb : b = g k) : up (up (up (fillR s c1 n k g) c0 i0 (n + k)) c1 (up (fillR s c1 n k g) c0 i0 (n + k) c0 i0) b) c0 i0 (up (up (fillR s c1 n k g) c0 i0 (n + k)) c1 (up (fillR s c1 n k g) c0 i0 (n + k) c0 i0) b c0 i0 + 1) = up (fillR s c1 n (k + 1) g) c0 i0 (n + (k + 1)) := by
  rw [up_at, up_row hc, up_at, up_comm hc, up_up, fillR_s hk rfl hb, Int.add_assoc]
set_option maxHeartbeats 2000000 in
theorem t_X9_add {v : Int} {s : Sto} (h : 0 ≤ s 1 1 ∧ s 1 1 ≤ 396) : ClV LY 0 MX9_add [.inr 1, .inl v] s (fun s' => s' = fed s 1 1 2 v) := by
  refine ClV.intro (by decide) rfl (Nat.le_of_ble_eq_true rfl) (fun X C r => ?_)
  refine kb_X9_add_0 C r ?_
  have e0 : s = up (fillR s 2 (s 1 1) 0 (fun j => byt v (24 - 8 * j))) 1 1 (s 1 1 + 0) := by
    rw [fillR_0]
    funext c i
    by_cases q : c = 1 ∧ i = 1
    · rw [q.1, q.2, up_at]; omega
    · rw [up_ne q]
  suffices H : G LY X 3 [rv 1, iv v, iv (24 - 8 * 0)] [] (up (fillR s 2 (s 1 1) 0 (fun j => byt v (24 - 8 * j))) 1 1 (s 1 1 + 0)) by
    rw [← e0] at H; exact H
  refine downI (P := fun k => G LY X 3 [rv 1, iv v, iv (24 - 8 * k)] [] (up (fillR s 2 (s 1 1) k (fun j => byt v (24 - 8 * j))) 1 1 (s 1 1 + k))) (b := 4) (by decide) ?_ ?_
  · exact kb_X9_add_3 C r ⟨by decide, fun _ => rfl, fun q => absurd q (by decide)⟩
  · intro k h1 h2 ih
    refine kb_X9_add_3 C r ⟨⟨by omega, by omega⟩, fun q => absurd q (by omega), fun _ => ?_⟩
    rw [up_at]
    refine ⟨⟨by omega, by omega⟩, fun q => absurd q (by omega), fun _ => ⟨⟨by omega, by omega⟩, ?_⟩⟩
    rintro s1 rfl
    rintro s2 rfl
    have hb := byt_u (v := v) (z := 24 - 8 * k) (by omega)
    have e := fed_step (s := s) (c0 := 1) (c1 := 2) (i0 := 1) (n := s 1 1) (k := k) (b := xand (xushr v (24 - 8 * k)) 255) (g := fun j => byt v (24 - 8 * j)) (by decide) h1 hb
    rw [up_at] at e
    rw [e, show 24 - 8 * k + -8 = 24 - 8 * (k + 1) by omega]
    exact ih
set_option maxHeartbeats 2000000 in
theorem t_X12_types {v : Int} {s : Sto} (hv : rg v) (h : 0 ≤ s 75 24 ∧ s 75 24 ≤ 396) : ClV LY 0 MX12_types [.inr 75, .inl v] s (fun s' => s' = fed s 75 24 91 v) := by
  refine ClV.intro (by decide) rfl (Nat.le_of_ble_eq_true rfl) (fun X C r => ?_)
  refine kb_X12_types_0 C r ?_
  have e0 : s = up (fillR s 91 (s 75 24) 0 (fun j => byt v (24 - 8 * j))) 75 24 (s 75 24 + 0) := by
    rw [fillR_0]
    funext c i
    by_cases q : c = 75 ∧ i = 24
    · rw [q.1, q.2, up_at]; omega
    · rw [up_ne q]
  suffices H : G LY X 3 [rv 75, iv v, iv (24 - 8 * 0)] [] (up (fillR s 91 (s 75 24) 0 (fun j => byt v (24 - 8 * j))) 75 24 (s 75 24 + 0)) by
    rw [← e0] at H; exact H
  refine downI (P := fun k => G LY X 3 [rv 75, iv v, iv (24 - 8 * k)] [] (up (fillR s 91 (s 75 24) k (fun j => byt v (24 - 8 * j))) 75 24 (s 75 24 + k))) (b := 4) (by decide) ?_ ?_
  · exact kb_X12_types_3 C r ⟨by decide, fun _ => rfl, fun q => absurd q (by decide)⟩
  · intro k h1 h2 ih
    refine kb_X12_types_3 C r ⟨⟨by omega, by omega⟩, fun q => absurd q (by omega), fun _ => ?_⟩
    rw [up_at]
    refine ⟨⟨by omega, by omega⟩, ?_⟩
    rintro s1 rfl
    rintro s2 rfl
    have hb := byt_s (v := v) (z := 24 - 8 * k) hv (by omega)
    have e := fed_step (s := s) (c0 := 75) (c1 := 91) (i0 := 24) (n := s 75 24) (k := k) (b := xand (xshr v (24 - 8 * k)) 255) (g := fun j => byt v (24 - 8 * j)) (by decide) h1 hb
    rw [up_at] at e
    rw [e, show 24 - 8 * k + -8 = 24 - 8 * (k + 1) by omega]
    exact ih
