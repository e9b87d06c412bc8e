/-! THE NEAREST ORDER, in the class -/
def OVR (s : Sto) (K : Int) (ov : Int → Int → Int) : Prop := ∀ x y : Int, 0 ≤ x → x < K → 0 ≤ y → y < K → s 60 (x * 8 + y) = ov x y ∧ 0 ≤ ov x y ∧ ov x y ≤ 108
theorem OVR.bd {s : Sto} {K : Int} {ov : Int → Int → Int} (h : OVR s K ov) : ∀ a b : Int, 0 ≤ a → a < K → 0 ≤ b → b < K → 0 ≤ ov a b ∧ ov a b ≤ 108 := fun a b a0 a1 b0 b1 => (h a b a0 a1 b0 b1).2
theorem t_X0_supportOverAll {K a : Int} {m : Nat} {s : Sto} {ov : Int → Int → Int} (hK : 2 ≤ K ∧ K ≤ 8) (ha : 0 ≤ a ∧ a < K) (hm : m < 256) (h : OVR s K ov) : ClI LY 1 MX0_supportOverAll [.inr 59, .inl a, .inl (m : Int), .inl K] s (fun r s' => s' = s ∧ r = sovF ov m a K.toNat) := by
  refine ClI.intro (by decide) rfl (Nat.le_of_ble_eq_true rfl) (fun X C r => ?_)
  refine kb_X0_supportOverAll_0 C r ?_
  have rK : rg K := ⟨by omega, by omega⟩
  have key : G LY X 6 [rv 59, iv a, iv (m : Int), iv K, iv (sovF ov m a (0 : Int).toNat), iv 0] [] s := by
    refine downI (P := fun b => G LY X 6 [rv 59, iv a, iv (m : Int), iv K, iv (sovF ov m a b.toNat), iv b] [] s) (a := 0) (b := K) (by omega) ?_ ?_
    · exact kb_X0_supportOverAll_6 C r ⟨⟨rK, rK⟩, fun _ => ⟨rfl, rfl⟩, fun z => absurd z (by omega)⟩
    · intro b b0 b1 ih
      rw [sovF_s _ _ _ b0] at ih
      have bt := bit_iff (n := m) (i := b) (by omega) (by omega)
      refine kb_X0_supportOverAll_6 C r ⟨⟨⟨by omega, by omega⟩, rK⟩, fun z => absurd z (by omega), fun _ => ⟨fun z => ?_, fun z => ⟨0, _, by decide, t_X0_supportOf (by omega), ?_⟩⟩⟩
      · rw [if_neg (fun q => z (bt.mpr q)), Int.add_zero] at ih; exact ih
      · rintro x y ⟨hy, hx⟩
        rw [hy, hx, (h a b ha.1 ha.2 b0 b1).1]
        rw [if_pos (bt.mp z)] at ih
        exact ih
  exact key
theorem pq_cons {B : Int} {f : Int → Int} : ∀ n : Nat, pq B f (n + 1) = f 0 * B ^ n + pq B (fun i => f (i + 1)) n
  | 0 => by
    show B * 0 + f ((0 : Nat) : Int) = f 0 * B ^ 0 + 0
    simp
  | n + 1 => by
    show B * pq B f (n + 1) + f ((n + 1 : Nat) : Int) = f 0 * B ^ (n + 1) + (B * pq B (fun i => f (i + 1)) n + f ((n : Int) + 1))
    rw [pq_cons n, Int.mul_add, Int.pow_succ, show ((n + 1 : Nat) : Int) = (n : Int) + 1 by omega, Int.mul_comm (B ^ n) B, ← Int.mul_assoc, ← Int.mul_assoc, Int.mul_comm B (f 0)]
    omega
/-- a digit ahead of n digits -/
theorem or_cons {x : Int} {f : Int → Int} {n : Nat} (hx : 0 ≤ x ∧ x < 8) (hn : n ≤ 7) (hf : ∀ i : Nat, i < n → 0 ≤ f i ∧ f i < 8) : xor_ (xshl x (3 * (n : Int))) (pq 8 f n) = x * 8 ^ n + pq 8 f n := by
  obtain ⟨X, rfl⟩ := Int.eq_ofNat_of_zero_le hx.1
  have bd := pq_bd (B := 8) (f := f) (by decide) n hf
  have p8 : (8 : Int) ^ n = ((2 ^ (3 * n) : Nat) : Int) := by rw [Nat.pow_mul]; simp
  have pb : (2 : Nat) ^ (3 * n) ≤ 2 ^ 21 := Nat.pow_le_pow_right (by decide) (by omega)
  have hsh : X * 2 ^ (3 * n) < 2 ^ 31 := by
    have : X * 2 ^ (3 * n) ≤ 7 * 2 ^ 21 := Nat.mul_le_mul (by omega) pb
    omega
  have sh : xshl (X : Int) (3 * (n : Int)) = ((X * 2 ^ (3 * n) : Nat) : Int) := by
    have := xshl_nat (n := X) (b := 3 * n) hsh (by omega)
    rw [show ((3 * n : Nat) : Int) = 3 * (n : Int) by omega] at this
    exact this
  rw [p8] at bd
  have hdvd : ((X * 2 ^ (3 * n) : Nat) : Int) % 2 ^ (3 * n) = 0 := by
    rw [Int.natCast_mul, Int.natCast_pow]
    exact Int.mul_emod_left _ _
  have pc : ((2 ^ (3 * n) : Nat) : Int) = 2 ^ (3 * n) := by rw [Int.natCast_pow]; rfl
  rw [sh, xor_add (3 * n) (by omega) (by omega) hdvd bd.1 (by rw [← pc]; exact bd.2) (by omega), p8, Int.natCast_mul]
theorem rwA_cons {ov : Int → Int → Int} {K : Int} {m l : Nat} (h : fsA ov K m = l) : ∀ i : Int, 0 ≤ i → rwA ov K m (i + 1) = rwA ov K (clr m l) i := by
  intro i i0
  unfold rwA
  rw [show (i + 1).toNat = i.toNat + 1 by omega, lfA_s, h, show ((l : Nat) : Int).toNat = l by omega]
set_option maxHeartbeats 8000000 in
theorem t_X0_findNearest {K : Int} {s : Sto} {ov : Int → Int → Int} (hK : 2 ≤ K ∧ K ≤ 8) (h : OVR s K ov) : ClV LY 2 MX0_findNearest [.inr 59, .inl K] s (fun s' => (∀ c : Nat, c ≠ 62 → c ≠ 63 → s' c = s c) ∧ ∀ m : Nat, m < 2 ^ K.toNat → s' 62 (m : Int) = agA ov K m ∧ s' 63 (m : Int) = pq 8 (rwA ov K m) (pcF m 8)) := by
  refine ClV.intro (by decide) rfl (Nat.le_of_ble_eq_true rfl) (fun X C r => ?_)
  have hK' : 0 ≤ K ∧ K ≤ 8 := by omega
  have hb := h.bd
  have p2 := pow_256 (K := K) hK.2
  have p0 : 0 < (2 : Nat) ^ K.toNat := Nat.pow_pos (by decide)
  have sh1 : xshl 1 K = ((2 ^ K.toNat : Nat) : Int) := by
    have := xshl_nat (n := 1) (b := K.toNat) (by omega) (by omega)
    rw [show ((1 : Nat) : Int) = 1 from rfl, Int.toNat_of_nonneg (by omega), Nat.one_mul] at this
    exact this
  have rK : rg K := ⟨by omega, by omega⟩
  refine kb_X0_findNearest_0 C r ?_
  rintro s1 h1 s0 h0
  have main : ∀ S : Sto, ((∀ c : Nat, c ≠ 62 → c ≠ 63 → S c = s c) ∧ ∀ m : Nat, (m : Int) < 1 → m < 2 ^ K.toNat → S 62 (m : Int) = agA ov K m ∧ S 63 (m : Int) = pq 8 (rwA ov K m) (pcF m 8)) → G LY X 16 [rv 59, iv K, iv 1, none, none, none, none] [] S := by
    refine downI (P := fun v => ∀ S : Sto, ((∀ c : Nat, c ≠ 62 → c ≠ 63 → S c = s c) ∧ ∀ m : Nat, (m : Int) < v → m < 2 ^ K.toNat → S 62 (m : Int) = agA ov K m ∧ S 63 (m : Int) = pq 8 (rwA ov K m) (pcF m 8)) → G LY X 16 [rv 59, iv K, iv v, none, none, none, none] [] S) (a := 1) (b := ((2 ^ K.toNat : Nat) : Int)) (by omega) ?_ ?_
    · rintro S ⟨k1, k2⟩
      refine kb_X0_findNearest_16 C r ?_
      rw [sh1]
      exact ⟨⟨by omega, by omega⟩, fun _ => ⟨k1, fun m hm => k2 m (by omega) hm⟩, fun z => absurd z (by omega)⟩
    · rintro v v0 v1 ih S ⟨k1, k2⟩
      obtain ⟨m, rfl⟩ := Int.eq_ofNat_of_zero_le (show 0 ≤ v by omega)
      have m0 : m ≠ 0 := by omega
      have mK : m < 2 ^ K.toNat := by omega
      have m256 : m < 256 := by omega
      have es := agA_s (ov := ov) hK.2 m0 m256
      have pcb : pcF m 20 = pcF m 8 := by
        have z : ∀ j : Nat, 8 ≤ j → m / 2 ^ j % 2 = 0 := by
          intro j hj
          have : (2 : Nat) ^ 8 ≤ 2 ^ j := Nat.pow_le_pow_right (by decide) hj
          rw [Nat.div_eq_of_lt (by omega)]
        show pcF m 8 + m / 2 ^ 8 % 2 + m / 2 ^ 9 % 2 + m / 2 ^ 10 % 2 + m / 2 ^ 11 % 2 + m / 2 ^ 12 % 2 + m / 2 ^ 13 % 2 + m / 2 ^ 14 % 2 + m / 2 ^ 15 % 2 + m / 2 ^ 16 % 2 + m / 2 ^ 17 % 2 + m / 2 ^ 18 % 2 + m / 2 ^ 19 % 2 = pcF m 8
        rw [z 8 (by decide), z 9 (by decide), z 10 (by decide), z 11 (by decide), z 12 (by decide), z 13 (by decide), z 14 (by decide), z 15 (by decide), z 16 (by decide), z 17 (by decide), z 18 (by decide), z 19 (by decide)]
        simp only [Nat.add_zero]
      refine kb_X0_findNearest_16 C r ?_
      rw [sh1]
      refine ⟨⟨by omega, by omega⟩, fun z => absurd z (by omega), fun _ => ⟨0, _, by decide, t_bitCount (by omega), ?_⟩⟩
      rintro bc t ⟨ht, hbc⟩
      rw [ht]
      refine ⟨⟨by omega, by omega⟩, ?_⟩
      rintro S1 hS1
      rw [pcb] at hbc
      have pcK : pcF m 8 ≤ 8 := by
        have : ∀ x : Fin 256, pcF x.val 8 ≤ 8 := by decide +kernel
        exact this ⟨m, m256⟩
      have inner : ∀ S' : Sto, ((∀ c : Nat, c ≠ 62 → c ≠ 63 → S' c = s c) ∧ (∀ j : Nat, j < m → S' 62 (j : Int) = agA ov K j ∧ S' 63 (j : Int) = pq 8 (rwA ov K j) (pcF j 8)) ∧ S' 62 (m : Int) = mxF ov K (agA ov K) m (0 : Int).toNat ∧ ∀ l : Nat, fsF ov K (agA ov K) m (0 : Int).toNat = l → m.testBit l = true → S' 63 (m : Int) = (l : Int) * 8 ^ (pcF m 8 - 1) + pq 8 (rwA ov K (clr m l)) (pcF m 8 - 1)) → G LY X 42 [rv 59, iv K, iv (m : Int), iv (3 * (bc - 1)), iv 0, none, none] [] S' := by
        refine downI (P := fun a => ∀ S' : Sto, ((∀ c : Nat, c ≠ 62 → c ≠ 63 → S' c = s c) ∧ (∀ j : Nat, j < m → S' 62 (j : Int) = agA ov K j ∧ S' 63 (j : Int) = pq 8 (rwA ov K j) (pcF j 8)) ∧ S' 62 (m : Int) = mxF ov K (agA ov K) m a.toNat ∧ ∀ l : Nat, fsF ov K (agA ov K) m a.toNat = l → m.testBit l = true → S' 63 (m : Int) = (l : Int) * 8 ^ (pcF m 8 - 1) + pq 8 (rwA ov K (clr m l)) (pcF m 8 - 1)) → G LY X 42 [rv 59, iv K, iv (m : Int), iv (3 * (bc - 1)), iv a, none, none] [] S') (a := 0) (b := K) (by omega) ?_ ?_
        · rintro S' ⟨j1, j2, j3, j4⟩
          refine kb_X0_findNearest_42 C r ⟨⟨rK, rK⟩, fun _ => ih S' ⟨j1, fun x hx xK => ?_⟩, fun z => absurd z (by omega)⟩
          by_cases e : x = m
          · subst e
            refine ⟨by rw [j3, es], ?_⟩
            obtain ⟨l, l1, l2, l3, _⟩ := fsA_is hb hK' m0 mK
            have cl := clr_lt (m := x) (l := l) m256 (by omega) l3
            rw [j4 l l2 l3]
            obtain ⟨k, hk⟩ : ∃ k : Nat, pcF x 8 = k + 1 := ⟨pcF x 8 - 1, by omega⟩
            rw [hk, pq_cons k, show k + 1 - 1 = k by omega]
            have e0 : rwA ov K x 0 = l := l2
            rw [e0]
            congr 1
            refine pq_ext _ (fun i hi => ?_)
            exact (rwA_cons l2 (i : Int) (by omega)).symm
          · exact j2 x (by omega)
        · rintro a a0 a1 ih2 S' ⟨j1, j2, j3, j4⟩
          obtain ⟨l, rfl⟩ := Int.eq_ofNat_of_zero_le a0
          have l8 : l < 8 := by omega
          have bt := bit_iff (n := m) (i := (l : Int)) (by omega) (by omega)
          rw [show ((l : Nat) : Int).toNat = l by omega] at bt j3 j4
          rw [show ((l : Int) + 1).toNat = l + 1 by omega] at ih2
          have em : mxF ov K (agA ov K) m (l + 1) = if m.testBit l = true ∧ mxF ov K (agA ov K) m l < scF ov K (agA ov K) m l then scF ov K (agA ov K) m l else mxF ov K (agA ov K) m l := rfl
          have ef : fsF ov K (agA ov K) m (l + 1) = if m.testBit l = true ∧ mxF ov K (agA ov K) m l < scF ov K (agA ov K) m l then (l : Int) else fsF ov K (agA ov K) m l := rfl
          have no : ¬ (m.testBit l = true ∧ mxF ov K (agA ov K) m l < scF ov K (agA ov K) m l) → G LY X 42 [rv 59, iv K, iv (m : Int), iv (3 * (bc - 1)), iv ((l : Int) + 1), none, none] [] S' := fun q => by
            rw [if_neg q] at em ef
            exact ih2 S' ⟨j1, j2, by rw [em]; exact j3, by rw [ef]; exact j4⟩
          refine kb_X0_findNearest_42 C r ⟨⟨⟨by omega, by omega⟩, rK⟩, fun z => absurd z (by omega), fun _ => ⟨fun z => no (fun q => z (bt.mpr q.1)), fun z => ?_⟩⟩
          have bl := bt.mp z
          have cl := clr_lt (m := m) (l := l) m256 l8 bl
          rw [xclr m256 l8]
          refine ⟨1, _, by decide, t_X0_supportOverAll (a := (l : Int)) hK ⟨by omega, a1⟩ (by omega) (fun x y x0 x1 y0 y1 => by rw [j1 60 (by decide) (by decide)]; exact h x y x0 x1 y0 y1), ?_⟩
          rintro so y ⟨hy, hso⟩
          have sb := sovF_bd (m := clr m l) (a := (l : Int)) (K := K) (ov := ov) (fun b b0 b1 => hb l b (by omega) a1 b0 b1) K.toNat (by omega)
          have ab := agA_bd hb hK' (clr m l)
          have mb := mxF_bd (m := m) (B := 221184) (A := agA ov K) (by decide) (fun j => (agA_bd hb hK' j).2) hb hK' l (by omega)
          have sc : so + S' 62 ((clr m l : Nat) : Int) = scF ov K (agA ov K) m l := by
            rw [hso, (j2 _ cl.1).1]
            rfl
          have scb : scF ov K (agA ov K) m l = sovF ov (clr m l) l K.toNat + agA ov K (clr m l) := rfl
          rw [hy, sc, j3]
          refine ⟨⟨by omega, by omega⟩, ⟨by omega, by omega⟩, ⟨⟨by omega, by omega⟩, ⟨by omega, by omega⟩⟩, fun z2 => no (fun q => by have := q.2; omega), fun z2 => ⟨⟨by omega, by omega⟩, ?_⟩⟩
          rintro S2 hS2
          have e63 : S2 63 = S' 63 := by rw [hS2, up_row (by decide)]
          refine ⟨⟨by omega, by omega⟩, ⟨by omega, by omega⟩, ?_⟩
          rw [e63, (j2 _ cl.1).2]
          rintro S3 hS3
          rw [if_pos ⟨bl, z2⟩] at em ef
          have rb : ∀ i : Nat, i < pcF (clr m l) 8 → 0 ≤ rwA ov K (clr m l) i ∧ rwA ov K (clr m l) i < 8 := fun i hi => by
            have := rwA_is hb hK' (m := clr m l) (by omega) (i := (i : Int)) (by omega) (by omega)
            omega
          have oc := or_cons (x := (l : Int)) (f := rwA ov K (clr m l)) (n := pcF (clr m l) 8) (by omega) (by omega) rb
          rw [show 3 * ((pcF (clr m l) 8 : Nat) : Int) = 3 * (bc - 1) by omega] at oc
          rw [oc] at hS3
          refine ih2 S3 ⟨fun c c1 c2 => by rw [hS3, up_row c2, hS2, up_row c1, j1 c c1 c2], fun j hj => ?_, ?_, fun l' hl' _ => ?_⟩
          · refine ⟨?_, ?_⟩
            · rw [hS3, up_row (by decide), hS2, up_idx (by omega)]; exact (j2 j hj).1
            · rw [hS3, up_idx (by omega), e63]; exact (j2 j hj).2
          · rw [hS3, up_row (by decide), hS2, up_at, em]
          · rw [ef] at hl'
            obtain rfl : l = l' := by omega
            rw [hS3, up_at, show pcF m 8 - 1 = pcF (clr m l) 8 by omega]
      refine inner S1 ⟨fun c c1 c2 => by rw [hS1, up_row c1, k1 c c1 c2], fun j hj => ⟨by rw [hS1, up_idx (by omega)]; exact (k2 j (by omega) (by omega)).1, by rw [hS1, up_row (by decide)]; exact (k2 j (by omega) (by omega)).2⟩, by rw [hS1, up_at]; rfl, fun l hl _ => ?_⟩
      have : (-1 : Int) = l := hl
      omega
  refine main s0 ⟨fun c c1 c2 => by rw [h0, up_row c2, h1, up_row c1], fun m hm _ => ?_⟩
  obtain rfl : m = 0 := by omega
  refine ⟨?_, ?_⟩
  · rw [agA_0, h0, up_row (by decide), h1]
    exact up_at ..
  · rw [h0]
    have : pcF 0 8 = 0 := by decide
    rw [this]
    exact up_at ..
