/-! VOTES in the reference: points, pairs, the nearest ORDER -/
theorem cntI_or {f g : Int → Prop} : ∀ n : Nat, (∀ q : Int, 0 ≤ q → q < n → f q → ¬ g q) → cntI (fun q => f q ∨ g q) n = cntI f n + cntI g n
  | 0, _ => rfl
  | n + 1, h => by
    have ih := cntI_or n (fun q q0 q1 => h q q0 (by omega))
    have hn := h n (by omega) (by omega)
    show cntI (fun q => f q ∨ g q) n + oneIf (f n ∨ g n) = (cntI f n + oneIf (f n)) + (cntI g n + oneIf (g n))
    rw [ih]
    by_cases q1 : f n
    · rw [oneIf_t (Or.inl q1), oneIf_t q1, oneIf_f (hn q1)]; omega
    · by_cases q2 : g n
      · rw [oneIf_t (Or.inr q2), oneIf_f q1, oneIf_t q2]; omega
      · rw [oneIf_f (fun z => by rcases z with z | z; exact q1 z; exact q2 z), oneIf_f q1, oneIf_f q2]; omega
theorem cntI_none {f : Int → Prop} : ∀ n : Nat, (∀ q : Int, 0 ≤ q → q < n → ¬ f q) → cntI f n = 0
  | 0, _ => rfl
  | n + 1, h => by
    show cntI f n + oneIf (f n) = 0
    rw [cntI_none n (fun q q0 q1 => h q q0 (by omega)), oneIf_f (h n (by omega) (by omega))]; rfl
theorem cntI_one {y : Int} (h0 : 0 ≤ y) : ∀ n : Nat, y < n → cntI (fun b => b = y) n = 1
  | 0, h => absurd h (by omega)
  | n + 1, h => by
    show cntI (fun b => b = y) n + oneIf ((n : Int) = y) = 1
    by_cases q : (n : Int) = y
    · rw [oneIf_t q, cntI_none n (fun b b0 b1 e => by omega)]; rfl
    · rw [oneIf_f q, cntI_one h0 n (by omega)]; rfl
/-- places, each one once -/
def PBj (p : Int → Int) (K : Int) : Prop := (∀ l : Int, 0 ≤ l → l < K → 0 ≤ p l ∧ p l < K) ∧ (∀ l l' : Int, 0 ≤ l → l < K → 0 ≤ l' → l' < K → p l = p l' → l = l') ∧ ∀ i : Int, ∃ l : Int, 0 ≤ i → i < K → 0 ≤ l ∧ l < K ∧ p l = i
theorem PBj.gt {p : Int → Int} {K : Int} (h : PBj p K) (hK : 0 ≤ K) : ∀ n : Nat, (n : Int) ≤ K → cntI (fun b => K - 1 - n < p b) K.toNat = n
  | 0, _ => cntI_none _ (fun q q0 q1 z => by have := (h.1 q q0 (by omega)).2; omega)
  | n + 1, hn => by
    have ih := PBj.gt h hK n (by omega)
    obtain ⟨l, hl⟩ := h.2.2 (K - 1 - n)
    have hl := hl (by omega) (by omega)
    have e1 : cntI (fun b => K - 1 - ((n + 1 : Nat) : Int) < p b) K.toNat = cntI (fun b => (K - 1 - n < p b) ∨ b = l) K.toNat := by
      refine cntI_congr _ (fun b b0 b1 => ⟨fun z => ?_, fun z => ?_⟩)
      · by_cases q : K - 1 - (n : Int) < p b
        · exact Or.inl q
        · exact Or.inr (h.2.1 b l b0 (by omega) hl.1 hl.2.1 (by omega))
      · rcases z with z | z
        · omega
        · rw [z]; omega
    rw [e1, cntI_or _ (fun b b0 b1 z e => by rw [e] at z; omega), ih, cntI_one hl.1 _ (by omega)]
    omega
theorem OdR.pbj {K o : Int} {f : Int → Int} (h : OdR K o f) : PBj (fun l => atF f l K.toNat) K := by
  refine ⟨fun l l0 l1 => (h.at' l0 l1).1, fun l l' l0 l1 m0 m1 e => ?_, fun i => ⟨f i, fun i0 i1 => ?_⟩⟩
  · rw [← (h.at' l0 l1).2, ← (h.at' m0 m1).2]
    exact congrArg f e
  · exact ⟨(h.2.1 i i0 i1).1, (h.2.1 i i0 i1).2, h.at_ i0 i1⟩
def ptF (P : Int → Int → Int) (w : Int → Int) (K l : Int) : Nat → Int
  | 0 => 0
  | v + 1 => ptF P w K l v + w v * (K - 1 - P v l)
theorem ptF_s (P : Int → Int → Int) (w : Int → Int) (K l : Int) {v : Int} (hv : 0 ≤ v) : ptF P w K l (v + 1).toNat = ptF P w K l v.toNat + w v * (K - 1 - P v l) := by
  obtain ⟨n, rfl⟩ := Int.eq_ofNat_of_zero_le hv
  rfl
theorem sumF_if {c : Int → Prop} [DecidablePred c] {w : Int} {g : Int → Int} : ∀ n : Nat, sumF (fun b => g b + if c b then w else 0) n = sumF g n + w * cntI c n
  | 0 => by show (0 : Int) = 0 + w * 0; simp
  | n + 1 => by
    show sumF (fun b => g b + if c b then w else 0) n + (g n + if c n then w else 0) = (sumF g n + g n) + w * (cntI c n + oneIf (c n))
    rw [sumF_if n, Int.mul_add]
    by_cases q : c n
    · rw [if_pos q, oneIf_t q, Int.mul_one]; omega
    · rw [if_neg q, oneIf_f q, Int.mul_zero]; omega
/-- points are what is FOR a LETTER over all others -/
theorem ptF_eq {P : Int → Int → Int} {w : Int → Int} {K l n : Int} (hK : 0 ≤ K) (hl : 0 ≤ l ∧ l < K) (h : ∀ v : Int, 0 ≤ v → v < n → PBj (P v) K) : ∀ k : Nat, (k : Int) ≤ n → sumF (fun b => ovF P w l b k) K.toNat = ptF P w K l k
  | 0, _ => by
    have : ∀ m : Nat, sumF (fun b => ovF P w l b 0) m = 0 := by
      intro m
      induction m with
      | zero => rfl
      | succ m ih =>
        show sumF (fun b => ovF P w l b 0) m + 0 = 0
        rw [ih]; rfl
    exact this _
  | k + 1, hk => by
    have ih := ptF_eq (w := w) hK hl h k (by omega)
    have hp := h k (by omega) (by omega)
    have b := hp.1 l hl.1 hl.2
    have e : sumF (fun b => ovF P w l b (k + 1)) K.toNat = sumF (fun b => ovF P w l b k + if P k l < P k b then w k else 0) K.toNat := rfl
    rw [e, sumF_if (c := fun b => P k l < P k b) (g := fun b => ovF P w l b k), ih]
    have c := hp.gt hK (K - 1 - P k l).toNat (by omega)
    rw [Int.toNat_of_nonneg (by omega)] at c
    rw [cntI_congr (f := fun b => P k l < P k b) (g := fun b => K - 1 - (K - 1 - P k l) < P k b) _ (fun q _ _ => by rw [show K - 1 - (K - 1 - P k l) = P k l by omega]), c]
    rfl
def pvS (s : Sto) (v l : Int) : Int := plB (s 75 58) (s 75 59) (fun i => s 81 (8 * (7 + v) + i)) (s 75 9) v l
theorem t_X12_pointsOf {s : Sto} {K n l : Int} (hK : s 75 9 = K) (hn : s 75 18 = n) (hK8 : 2 ≤ K ∧ K ≤ 8) (hn12 : 0 ≤ n ∧ n ≤ 12) (hl : 0 ≤ l ∧ l < K) (h59 : rg (s 75 59)) (ho : ∀ v i : Int, 0 ≤ v → v < n → 0 ≤ i → i < K → rg (s 81 (8 * (7 + v) + i))) : ClI LY 1 MX12_pointsOf [.inr 75, .inl l] s (fun r s' => s' = s ∧ r = ptF (pvS s) (s 89) K l n.toNat) := by
  refine ClI.intro (by decide) rfl (Nat.le_of_ble_eq_true rfl) (fun X C r => ?_)
  refine kb_X12_pointsOf_0 C r ?_
  have key : G LY X 4 [rv 75, iv l, iv (ptF (pvS s) (s 89) K l (0 : Int).toNat), iv 0] [] s := by
    refine downI (P := fun v => G LY X 4 [rv 75, iv l, iv (ptF (pvS s) (s 89) K l v.toNat), iv v] [] s) (a := 0) (b := n) hn12.1 ?_ ?_
    · refine kb_X12_pointsOf_4 C r ?_
      rw [hn]
      exact ⟨⟨⟨by omega, by omega⟩, ⟨by omega, by omega⟩⟩, fun _ => ⟨rfl, rfl⟩, fun z => absurd z (by omega)⟩
    · intro v v0 v1 ih
      rw [ptF_s _ _ _ _ v0] at ih
      refine kb_X12_pointsOf_4 C r ?_
      rw [hn, hK]
      refine ⟨⟨⟨by omega, by omega⟩, ⟨by omega, by omega⟩⟩, fun z => absurd z (by omega), fun _ => ⟨⟨by omega, by omega⟩, 0, _, by decide, t_X12_placeBy (v := v) (l := l) (by omega) ⟨by omega, by omega⟩ (by rw [hK]; exact hK8) h59 (by rw [hK]; exact fun i i0 i1 => ho v i v0 v1 i0 i1), ?_⟩⟩
      rintro x y ⟨hy, hx⟩
      rw [hy, hx]
      exact ih
  exact key
theorem t_X12_beatenBy {s : Sto} {K l : Int} (hK : s 75 9 = K) (hK8 : 2 ≤ K ∧ K ≤ 8) (hl : 0 ≤ l ∧ l < K) (hr : ∀ a b : Int, 0 ≤ a → a < K → 0 ≤ b → b < K → rg (s 110 (8 * a + b))) : ClI LY 0 MX12_beatenBy [.inr 75, .inl l] s (fun r s' => s' = s ∧ r = cntI (fun o => s 110 (8 * o + l) < s 110 (8 * l + o)) K.toNat) := by
  refine ClI.intro (by decide) rfl (Nat.le_of_ble_eq_true rfl) (fun X C r => ?_)
  refine kb_X12_beatenBy_0 C r ?_
  have rK : rg K := ⟨by omega, by omega⟩
  have key : G LY X 4 [rv 75, iv l, iv (cntI (fun o => s 110 (8 * o + l) < s 110 (8 * l + o)) (0 : Int).toNat), iv 0] [] s := by
    refine downI (P := fun o => G LY X 4 [rv 75, iv l, iv (cntI (fun o => s 110 (8 * o + l) < s 110 (8 * l + o)) o.toNat), iv o] [] s) (a := 0) (b := K) (by omega) ?_ ?_
    · refine kb_X12_beatenBy_4 C r ?_
      rw [hK]
      exact ⟨⟨rK, rK⟩, fun _ => ⟨rfl, rfl⟩, fun z => absurd z (by omega)⟩
    · intro o o0 o1 ih
      rw [cntI_s _ o0] at ih
      refine kb_X12_beatenBy_4 C r ?_
      rw [hK]
      refine ⟨⟨⟨by omega, by omega⟩, rK⟩, fun z => absurd z (by omega), fun _ => ⟨⟨by omega, by omega⟩, ⟨by omega, by omega⟩, ⟨hr l o hl.1 hl.2 o0 o1, hr o l o0 o1 hl.1 hl.2⟩, fun z => ?_, fun z => ?_⟩⟩
      · rw [oneIf_f (by omega), Int.add_zero] at ih; exact ih
      · rw [oneIf_t z] at ih; exact ih
  exact key
/-- the reference's table of what is FOR one over another -/
def OVM (s : Sto) (K : Int) (ov : Int → Int → Int) : Prop := ∀ x y : Int, 0 ≤ x → x < K → 0 ≤ y → y < K → s 110 (8 * x + y) = ov x y ∧ 0 ≤ ov x y ∧ ov x y ≤ 108
theorem t_X12_agreesWith {s : Sto} {K : Int} {m l : Nat} {ov : Int → Int → Int} {A : Nat → Int} (hK : s 75 9 = K) (hK8 : 2 ≤ K ∧ K ≤ 8) (hl : (l : Int) < K) (hm : m < 256) (h : OVM s K ov) (hA : s 112 ((clr m l : Nat) : Int) = A (clr m l)) : ClI LY 0 MX12_agreesWith [.inr 75, .inl (m : Int), .inl (l : Int)] s (fun r s' => s' = s ∧ r = scF ov K A m l) := by
  refine ClI.intro (by decide) rfl (Nat.le_of_ble_eq_true rfl) (fun X C r => ?_)
  have l8 : l < 8 := by omega
  have c := clr_le hm l8
  have rK : rg K := ⟨by omega, by omega⟩
  refine kb_X12_agreesWith_0 C r ?_
  rw [xclr hm l8, hA]
  refine ⟨⟨by omega, by omega⟩, ?_⟩
  have key : G LY X 16 [rv 75, iv (m : Int), iv (l : Int), iv (A (clr m l) + sovF ov (clr m l) l (0 : Int).toNat), iv 0] [] s := by
    refine downI (P := fun o => G LY X 16 [rv 75, iv (m : Int), iv (l : Int), iv (A (clr m l) + sovF ov (clr m l) l o.toNat), iv o] [] s) (a := 0) (b := K) (by omega) ?_ ?_
    · refine kb_X12_agreesWith_16 C r ?_
      rw [hK]
      refine ⟨⟨rK, rK⟩, fun _ => ⟨rfl, ?_⟩, fun z => absurd z (by omega)⟩
      unfold scF
      omega
    · intro o o0 o1 ih
      rw [sovF_s _ _ _ o0] at ih
      have bt := bit_iff (n := m) (i := o) (by omega) (by omega)
      have cb := clr_bit (m := m) (l := l) (j := o.toNat) hm l8 (by omega)
      have no : ¬ (m.testBit o.toNat = true ∧ o ≠ l) → G LY X 16 [rv 75, iv (m : Int), iv (l : Int), iv (A (clr m l) + sovF ov (clr m l) l o.toNat), iv (o + 1)] [] s := fun q => by
        rw [if_neg (fun z => q ⟨(cb.mp z).1, by have := (cb.mp z).2; omega⟩), Int.add_zero] at ih
        exact ih
      refine kb_X12_agreesWith_16 C r ?_
      rw [hK]
      refine ⟨⟨⟨by omega, by omega⟩, rK⟩, fun z => absurd z (by omega), fun _ => ⟨⟨⟨by omega, by omega⟩, ⟨by omega, by omega⟩⟩, fun z => no (fun q => q.2 z), fun z => ⟨fun z2 => no (fun q => z2 (bt.mpr q.1)), fun z2 => ⟨⟨by omega, by omega⟩, ?_⟩⟩⟩⟩
      rw [if_pos (cb.mpr ⟨bt.mp z2, by omega⟩), ← Int.add_assoc] at ih
      rw [(h l o (by omega) hl o0 o1).1]
      exact ih
  rw [show A (clr m l) + sovF ov (clr m l) l (0 : Int).toNat = A (clr m l) from Int.add_zero _] at key
  exact key
set_option maxHeartbeats 8000000 in
theorem t_X12_findsNearest {s : Sto} {K : Int} {ov : Int → Int → Int} (hK : s 75 9 = K) (hK8 : 2 ≤ K ∧ K ≤ 8) (h : OVM s K ov) : ClV LY 1 MX12_findsNearest [.inr 75] s (fun s' => (∀ c : Nat, c ≠ 81 → c ≠ 112 → s' c = s c) ∧ (∀ i : Int, ¬ (160 ≤ i ∧ i < 168) → s' 81 i = s 81 i) ∧ ∀ i : Int, 0 ≤ i → i < K → s' 81 (160 + i) = rwA ov K (2 ^ K.toNat - 1) i) := by
  refine ClV.intro (by decide) rfl (Nat.le_of_ble_eq_true rfl) (fun X C r => ?_)
  have hK' : 0 ≤ K ∧ K ≤ 8 := by omega
  have hb : ∀ a b : Int, 0 ≤ a → a < K → 0 ≤ b → b < K → 0 ≤ ov a b ∧ ov a b ≤ 108 := fun a b a0 a1 b0 b1 => (h a b a0 a1 b0 b1).2
  have p2 := pow_256 (K := K) hK8.2
  have p0 : 0 < (2 : Nat) ^ K.toNat := Nat.pow_pos (by decide)
  have sh1 : xshl 1 K = ((2 ^ K.toNat : Nat) : Int) := by
    have := xshl_nat (n := 1) (b := K.toNat) (by omega) (by omega)
    rw [show ((1 : Nat) : Int) = 1 from rfl, Int.toNat_of_nonneg (by omega), Nat.one_mul] at this
    exact this
  have rK : rg K := ⟨by omega, by omega⟩
  refine kb_X12_findsNearest_0 C r ?_
  rintro s1 h1
  -- LETTER by LETTER
  have hm : 2 ^ K.toNat - 1 < 2 ^ K.toNat := by omega
  have pc : pcF (2 ^ K.toNat - 1) 8 = K.toNat := pc_full ⟨K.toNat, by omega⟩
  have l93 : ∀ S : Sto, ((∀ c : Nat, c ≠ 81 → c ≠ 112 → S c = s c) ∧ (∀ m : Nat, m < 2 ^ K.toNat → S 112 (m : Int) = agA ov K m) ∧ (∀ i : Int, ¬ (160 ≤ i ∧ i < 168) → S 81 i = s 81 i) ∧ ∀ i : Int, 0 ≤ i → i < 0 → S 81 (160 + i) = rwA ov K (2 ^ K.toNat - 1) i) → G LY X 93 [rv 75, iv ((lfA ov K (2 ^ K.toNat - 1) (0 : Int).toNat : Nat) : Int), iv 0, none, none] [] S := by
    refine downI (P := fun x => ∀ S : Sto, ((∀ c : Nat, c ≠ 81 → c ≠ 112 → S c = s c) ∧ (∀ m : Nat, m < 2 ^ K.toNat → S 112 (m : Int) = agA ov K m) ∧ (∀ i : Int, ¬ (160 ≤ i ∧ i < 168) → S 81 i = s 81 i) ∧ ∀ i : Int, 0 ≤ i → i < x → S 81 (160 + i) = rwA ov K (2 ^ K.toNat - 1) i) → G LY X 93 [rv 75, iv ((lfA ov K (2 ^ K.toNat - 1) x.toNat : Nat) : Int), iv x, none, none] [] S) (a := 0) (b := K) (by omega) ?_ ?_
    · rintro S ⟨k1, k2, k3, k4⟩
      refine kb_X12_findsNearest_93 C r ?_
      rw [k1 75 (by decide) (by decide), hK]
      exact ⟨⟨rK, rK⟩, fun _ => ⟨k1, k3, k4⟩, fun z => absurd z (by omega)⟩
    · rintro x x0 x1 ih S ⟨k1, k2, k3, k4⟩
      obtain ⟨a, b⟩ := lfA_is hb hK' hm x.toNat (by omega)
      have ne := lfA_ne hb hK' hm (i := x.toNat) (by omega)
      obtain ⟨l, l1, l2, l3, l4, l5⟩ := fsA_is hb hK' ne a
      have nx : lfA ov K (2 ^ K.toNat - 1) (x + 1).toNat = clr (lfA ov K (2 ^ K.toNat - 1) x.toNat) l := by
        rw [show (x + 1).toNat = x.toNat + 1 by omega]
        show clr (lfA ov K (2 ^ K.toNat - 1) x.toNat) (fsA ov K (lfA ov K (2 ^ K.toNat - 1) x.toNat)).toNat = _
        rw [l2, show ((l : Nat) : Int).toNat = l by omega]
      have rw0 : rwA ov K (2 ^ K.toNat - 1) x = l := l2
      rw [nx] at ih
      generalize lfA ov K (2 ^ K.toNat - 1) x.toNat = m at *
      have m256 : m < 256 := by omega
      refine kb_X12_findsNearest_93 C r ?_
      rw [k1 75 (by decide) (by decide), hK]
      refine ⟨⟨⟨by omega, by omega⟩, rK⟩, fun z => absurd z (by omega), fun _ => ?_⟩
      have ab := agA_bd hb hK' m
      have inner : G LY X 103 [rv 75, iv (m : Int), iv x, iv 0, none] [] S := by
        refine downI (P := fun j => G LY X 103 [rv 75, iv (m : Int), iv x, iv j, none] [] S) (a := 0) (b := (l : Int)) (by omega) ?_ ?_
        · have bt := bit_iff (n := m) (i := (l : Int)) (by omega) (by omega)
          rw [show ((l : Nat) : Int).toNat = l by omega] at bt
          have b1 := bt.mpr l3
          refine kb_X12_findsNearest_103 C r ⟨fun z => absurd z (by omega), fun _ => ⟨0, _, by decide, t_X12_agreesWith (A := agA ov K) (by rw [k1 75 (by decide) (by decide)]; exact hK) hK8 l1 m256 (fun p q p0 p1 q0 q1 => by rw [k1 110 (by decide) (by decide)]; exact h p q p0 p1 q0 q1) (k2 _ (by have := clr_le (m := m) (l := l) m256 (by omega); omega)), ?_⟩⟩
          rintro v y ⟨hy, hv⟩
          rw [hy, hv, l4, k2 m a]
          refine ⟨⟨by omega, by omega⟩, ⟨⟨by omega, by omega⟩, ⟨by omega, by omega⟩⟩, fun _ => ⟨⟨by omega, by omega⟩, ?_⟩, fun z => absurd rfl z⟩
          rintro y' hy'
          rw [xclr m256 (by omega)]
          refine ih y' ⟨fun c c1 c2 => by rw [hy', up_row c1, k1 c c1 c2], fun j hj => by rw [hy', up_row (by decide)]; exact k2 j hj, fun i hi => by rw [hy', up_idx (by omega)]; exact k3 i hi, fun i i0 i1 => ?_⟩
          rw [hy', up_if]
          by_cases e : i = x
          · rw [if_pos (by omega), e, rw0]
          · rw [if_neg (by omega)]; exact k4 i i0 (by omega)
        · intro j j0 j1 ih2
          obtain ⟨J, rfl⟩ := Int.eq_ofNat_of_zero_le j0
          have bt := bit_iff (n := m) (i := (J : Int)) (by omega) (by omega)
          rw [show ((J : Nat) : Int).toNat = J by omega] at bt
          refine kb_X12_findsNearest_103 C r ⟨fun _ => ih2, fun z => ⟨0, _, by decide, t_X12_agreesWith (A := agA ov K) (by rw [k1 75 (by decide) (by decide)]; exact hK) hK8 (by omega) m256 (fun p q p0 p1 q0 q1 => by rw [k1 110 (by decide) (by decide)]; exact h p q p0 p1 q0 q1) (k2 _ (by have := clr_le (m := m) (l := J) m256 (by omega); omega)), ?_⟩⟩
          rintro v y ⟨hy, hv⟩
          have sb := sovF_bd (m := clr m J) (a := (J : Int)) (K := K) (ov := ov) (fun b b0 b1 => hb J b (by omega) (by omega) b0 b1) K.toNat (by omega)
          have ab2 := agA_bd hb hK' (clr m J)
          have scb : scF ov K (agA ov K) m J = sovF ov (clr m J) J K.toNat + agA ov K (clr m J) := rfl
          have b01 : xand (xshr (m : Int) (J : Int)) 1 = 1 := by
            rcases xand01 (xshr (m : Int) (J : Int)) with q | q
            · exact absurd q z
            · exact q
          have ne2 := l5 J (by omega) (bt.mp b01)
          rw [hy, hv, k2 m a]
          exact ⟨⟨by omega, by omega⟩, ⟨⟨by omega, by omega⟩, ⟨by omega, by omega⟩⟩, fun z2 => absurd z2 ne2, fun _ => ih2⟩
      exact inner
  -- set by set
  have l9 : ∀ S : Sto, ((∀ c : Nat, c ≠ 112 → S c = s c) ∧ ∀ m : Nat, (m : Int) < 1 → m < 2 ^ K.toNat → S 112 (m : Int) = agA ov K m) → G LY X 9 [rv 75, iv 1, none, none, none] [] S := by
    refine downI (P := fun v => ∀ S : Sto, ((∀ c : Nat, c ≠ 112 → S c = s c) ∧ ∀ m : Nat, (m : Int) < v → m < 2 ^ K.toNat → S 112 (m : Int) = agA ov K m) → G LY X 9 [rv 75, iv v, none, none, none] [] S) (a := 1) (b := ((2 ^ K.toNat : Nat) : Int)) (by omega) ?_ ?_
    · rintro S ⟨k1, k2⟩
      refine kb_X12_findsNearest_9 C r ?_
      rw [k1 75 (by decide), hK, sh1]
      refine ⟨⟨by omega, by omega⟩, fun _ => ?_, fun z => absurd z (by omega)⟩
      have := l93 S ⟨fun c c1 c2 => k1 c c2, fun m hm => k2 m (by omega) hm, fun i hi => by rw [k1 81 (by decide)], fun i i0 i1 => absurd i1 (by omega)⟩
      rw [show ((lfA ov K (2 ^ K.toNat - 1) (0 : Int).toNat : Nat) : Int) = ((2 ^ K.toNat : Nat) : Int) - 1 by
        show ((2 ^ K.toNat - 1 : Nat) : Int) = _
        omega] at this
      exact this
    · rintro v v0 v1 ih S ⟨k1, k2⟩
      obtain ⟨m, rfl⟩ := Int.eq_ofNat_of_zero_le (show 0 ≤ v by omega)
      have m0 : m ≠ 0 := by omega
      have mK : m < 2 ^ K.toNat := by omega
      have m256 : m < 256 := by omega
      have es := agA_s (ov := ov) hK8.2 m0 m256
      refine kb_X12_findsNearest_9 C r ?_
      rw [k1 75 (by decide), hK, sh1]
      refine ⟨⟨by omega, by omega⟩, fun z => absurd z (by omega), fun _ => ?_⟩
      have inner : G LY X 23 [rv 75, iv (m : Int), iv (mxF ov K (agA ov K) m (0 : Int).toNat), iv 0, none] [] S := by
        refine downI (P := fun a => G LY X 23 [rv 75, iv (m : Int), iv (mxF ov K (agA ov K) m a.toNat), iv a, none] [] S) (a := 0) (b := K) (by omega) ?_ ?_
        · refine kb_X12_findsNearest_23 C r ?_
          rw [k1 75 (by decide), hK]
          refine ⟨⟨rK, rK⟩, fun _ => ⟨⟨by omega, by omega⟩, ?_⟩, fun z => absurd z (by omega)⟩
          rintro y hy
          refine ih y ⟨fun c hc => by rw [hy, up_row hc, k1 c hc], fun j hj jK => ?_⟩
          rw [hy, up_if]
          by_cases e : j = m
          · rw [if_pos (by omega), e, es]
          · rw [if_neg (by omega)]; exact k2 j (by omega) jK
        · intro a a0 a1 ih2
          obtain ⟨l, rfl⟩ := Int.eq_ofNat_of_zero_le a0
          have bt := bit_iff (n := m) (i := (l : Int)) (by omega) (by omega)
          rw [show ((l : Nat) : Int).toNat = l by omega] at bt ⊢
          rw [show ((l : Int) + 1).toNat = l + 1 by omega] at ih2
          have em : mxF ov K (agA ov K) m (l + 1) = if m.testBit l = true ∧ mxF ov K (agA ov K) m l < scF ov K (agA ov K) m l then scF ov K (agA ov K) m l else mxF ov K (agA ov K) m l := rfl
          have x01 := xand01 (xshr (m : Int) (l : Int))
          refine kb_X12_findsNearest_23 C r ?_
          rw [k1 75 (by decide), hK]
          refine ⟨⟨⟨by omega, by omega⟩, rK⟩, fun z => absurd z (by omega), fun _ => ⟨fun z => ?_, fun z => ?_⟩⟩
          · have bl := bt.mp (by omega)
            have cl := clr_lt (m := m) (l := l) m256 (by omega) bl
            refine ⟨0, _, by decide, t_X12_agreesWith (A := agA ov K) (by rw [k1 75 (by decide)]; exact hK) hK8 a1 m256 (fun p q p0 p1 q0 q1 => by rw [k1 110 (by decide)]; exact h p q p0 p1 q0 q1) (k2 _ (by omega) (by omega)), ?_⟩
            rintro v' y ⟨hy, hv'⟩
            have sb := sovF_bd (m := clr m l) (a := (l : Int)) (K := K) (ov := ov) (fun b b0 b1 => hb l b (by omega) a1 b0 b1) K.toNat (by omega)
            have ab := agA_bd hb hK' (clr m l)
            have mb := mxF_bd (m := m) (B := 221184) (A := agA ov K) (by decide) (fun j => (agA_bd hb hK' j).2) hb hK' l (by omega)
            have scb : scF ov K (agA ov K) m l = sovF ov (clr m l) l K.toNat + agA ov K (clr m l) := rfl
            rw [hy, hv']
            refine ⟨⟨⟨by omega, by omega⟩, ⟨by omega, by omega⟩⟩, fun z2 => ?_, fun z2 => ?_⟩
            · rw [if_neg (fun q => by have := q.2; omega)] at em
              rw [em] at ih2; exact ih2
            · rw [if_pos ⟨bl, z2⟩] at em
              rw [em] at ih2; exact ih2
          · rw [if_neg (fun q => by have := bt.mpr q.1; omega)] at em
            rw [em] at ih2; exact ih2
      exact inner
  refine l9 s1 ⟨fun c hc => by rw [h1, up_row hc], fun m hm _ => ?_⟩
  obtain rfl : m = 0 := by omega
  rw [agA_0, h1]
  exact up_at ..
