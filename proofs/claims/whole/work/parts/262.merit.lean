/-! VOTES by points and by pairs, in the class -/
def sumF (g : Int → Int) : Nat → Int
  | 0 => 0
  | k + 1 => sumF g k + g k
theorem sumF_s (g : Int → Int) {k : Int} (hk : 0 ≤ k) : sumF g (k + 1).toNat = sumF g k.toNat + g k := by
  obtain ⟨n, rfl⟩ := Int.eq_ofNat_of_zero_le hk
  rfl
theorem sumF_bd {g : Int → Int} {M : Int} : ∀ n : Nat, (∀ q : Int, 0 ≤ q → q < n → 0 ≤ g q ∧ g q ≤ M) → 0 ≤ sumF g n ∧ sumF g n ≤ M * n
  | 0, _ => by show (0 : Int) ≤ 0 ∧ (0 : Int) ≤ M * ((0 : Nat) : Int); simp
  | n + 1, h => by
    have ih := sumF_bd n (fun q q0 q1 => h q q0 (by omega))
    have b := h n (by omega) (by omega)
    show 0 ≤ sumF g n + g n ∧ sumF g n + g n ≤ M * ((n + 1 : Nat) : Int)
    rw [show ((n + 1 : Nat) : Int) = (n : Int) + 1 by omega, Int.mul_add, Int.mul_one]
    omega
theorem sumF_congr {g g' : Int → Int} : ∀ n : Nat, (∀ q : Int, 0 ≤ q → q < n → g q = g' q) → sumF g n = sumF g' n
  | 0, _ => rfl
  | n + 1, h => by
    show sumF g n + g n = sumF g' n + g' n
    rw [sumF_congr n (fun q q0 q1 => h q q0 (by omega)), h n (by omega) (by omega)]
/-- a LETTER's merit by rule 0 or 1 -/
noncomputable def mrF (ov : Int → Int → Int) (K rule a : Int) : Int := if rule = 0 then sumF (fun b => ov a b) K.toNat else cntI (fun b => ov b a < ov a b) K.toNat
theorem mrF_bd {ov : Int → Int → Int} {K rule a : Int} (hK : 2 ≤ K ∧ K ≤ 8) (hb : ∀ b : Int, 0 ≤ b → b < K → 0 ≤ ov a b ∧ ov a b ≤ 108) : 0 ≤ mrF ov K rule a ∧ mrF ov K rule a ≤ 864 := by
  unfold mrF
  by_cases q : rule = 0
  · rw [if_pos q]
    have := sumF_bd (g := fun b => ov a b) (M := 108) K.toNat (fun b b0 b1 => hb b b0 (by omega))
    omega
  · rw [if_neg q]
    have := cntI_bd (fun b => ov b a < ov a b) K.toNat
    omega
theorem mrF_congr {ov ov' : Int → Int → Int} {K rule a : Int} (h0 : 0 ≤ a ∧ a < K) (e : ∀ x y : Int, 0 ≤ x → x < K → 0 ≤ y → y < K → ov x y = ov' x y) : mrF ov K rule a = mrF ov' K rule a := by
  unfold mrF
  by_cases q : rule = 0
  · rw [if_pos q, if_pos q]
    exact sumF_congr _ (fun b b0 b1 => e a b h0.1 h0.2 b0 (by omega))
  · rw [if_neg q, if_neg q]
    exact cntI_congr _ (fun b b0 b1 => by rw [e a b h0.1 h0.2 b0 (by omega), e b a b0 (by omega) h0.1 h0.2])
/-- ahead by merit -/
def amR (mr : Int → Int) (p q : Int) : Prop := KR (fun x => - mr x) 0 (fun _ => 0) (fun _ => 0) p q
theorem amR_iff {mr : Int → Int} {p q : Int} : amR mr p q ↔ mr q < mr p ∨ (mr p = mr q ∧ p < q) := by
  unfold amR KR tieR
  show (-mr p < -mr q ∨ (-mr p = -mr q ∧ (((0 : Int) = 0 ∧ p < q) ∨ ((0 : Int) = 1 ∧ ((0 : Int) < 0 ∨ ((0 : Int) = 0 ∧ p < q))) ∨ ((0 : Int) = 2 ∧ ((0 : Int) < 0 ∨ ((0 : Int) = 0 ∧ p < q)))))) ↔ _
  constructor
  · rintro (h | ⟨h, h2⟩)
    · exact Or.inl (by omega)
    · refine Or.inr ⟨by omega, ?_⟩
      rcases h2 with h2 | h2 | h2
      · exact h2.2
      · exact absurd h2.1 (by decide)
      · exact absurd h2.1 (by decide)
  · rintro (h | ⟨h, h2⟩)
    · exact Or.inl (by omega)
    · exact Or.inr ⟨by omega, Or.inl ⟨rfl, h2⟩⟩
/-- the ORDER by merit -/
noncomputable def omF (mr : Int → Int) (K i : Int) : Int := (srtL (amR mr) K.toNat).getD (K - 1 - i).toNat 0
theorem omF_row {mr : Int → Int} {K : Int} (hK : 0 ≤ K) : RowR (fun i => omF mr K i) (K.toNat : Nat) (srtL (amR mr) K.toNat) := by
  refine ⟨by rw [srtL_len], fun i i0 i1 => ?_⟩
  show omF mr K i = _
  unfold omF
  rw [Int.toNat_of_nonneg hK]
theorem omF_cnt {mr : Int → Int} {K i : Int} (hK : 0 ≤ K) (h0 : 0 ≤ i) (h1 : i < K) : i = cntI (fun q => q ≠ omF mr K i ∧ amR mr q (omF mr K i)) K.toNat := by
  have e := place_cnt (key := fun x => - mr x) (ag := fun _ => 0) (co := fun _ => 0) (w := 0) (n := K.toNat) (i := i) (p := omF mr K i) (by decide) h0 (by omega) (by
    rw [Int.toNat_of_nonneg hK]
    rfl)
  exact e
theorem omF_at {mr : Int → Int} {K a : Int} (hK : 0 ≤ K) (h0 : 0 ≤ a) (h1 : a < K) : ∃ i : Int, 0 ≤ i ∧ i < K ∧ omF mr K i = a := by
  obtain ⟨i, i0, i1, i2⟩ := (omF_row (mr := mr) hK).onto (p := a) h0 (by omega)
  exact ⟨i, i0, by omega, i2⟩
theorem or_mid {a L x i : Nat} (hL : L < 2 ^ i) (hx : x < 8) : (2 ^ i * (8 * a) + L) ||| (2 ^ i * x) = 2 ^ i * (8 * a + x) + L := by
  have e8 : 8 * a ||| x = 8 * a + x := (Nat.two_pow_add_eq_or_of_lt (i := 3) hx a).symm
  have em : 2 ^ i * (8 * a) ||| 2 ^ i * x = 2 ^ i * (8 * a + x) := by
    rw [Nat.mul_comm (2 ^ i) (8 * a), Nat.mul_comm (2 ^ i) x, ← Nat.shiftLeft_eq, ← Nat.shiftLeft_eq, ← Nat.shiftLeft_or_distrib, e8, Nat.shiftLeft_eq, Nat.mul_comm]
  rw [Nat.two_pow_add_eq_or_of_lt hL, Nat.or_assoc, Nat.or_comm L, ← Nat.or_assoc, em, ← Nat.two_pow_add_eq_or_of_lt hL]
theorem pq_upd {B x : Int} {D : Int → Int} {p : Nat} (h0 : D p = 0) : ∀ k : Nat, pq B (fun i => if i = p then x else D i) (p + 1 + k) = pq B D (p + 1 + k) + x * B ^ k := by
  intro k
  induction k with
  | zero =>
    show B * pq B (fun i => if i = (p : Int) then x else D i) p + (if ((p : Nat) : Int) = p then x else D p) = B * pq B D p + D p + x * B ^ 0
    rw [if_pos rfl, h0, pq_ext (B := B) (f := fun i => if i = (p : Int) then x else D i) (g := D) p (fun i hi => if_neg (by omega))]
    simp
  | succ k ih =>
    show B * pq B (fun i => if i = (p : Int) then x else D i) (p + 1 + k) + (if ((p + 1 + k : Nat) : Int) = p then x else D (p + 1 + k : Nat)) = B * pq B D (p + 1 + k) + D (p + 1 + k : Nat) + x * B ^ (k + 1)
    rw [ih, if_neg (by omega), Int.mul_add, Int.pow_succ, Int.mul_comm (B ^ k) B, ← Int.mul_assoc, ← Int.mul_assoc, Int.mul_comm B x]
    omega
/-- a digit put into its free place -/
theorem pq_or {D : Int → Int} {K p x : Int} (hK : K ≤ 8) (hp : 0 ≤ p ∧ p < K) (hx : 0 ≤ x ∧ x < 8) (hD : ∀ i : Int, 0 ≤ i → i < K → 0 ≤ D i ∧ D i < 8) (h0 : D p = 0) : xor_ (pq 8 D K.toNat) (xshl x (3 * (K - 1 - p))) = pq 8 (fun i => if i = p then x else D i) K.toNat := by
  obtain ⟨P, rfl⟩ := Int.eq_ofNat_of_zero_le hp.1
  obtain ⟨k, hk⟩ : ∃ k : Nat, K.toNat = P + 1 + k := ⟨K.toNat - (P + 1), by omega⟩
  have eK : K - 1 - (P : Int) = k := by omega
  have hk7 : k ≤ 7 := by omega
  have bd := pq_bd (B := 8) (f := D) (by decide) (P + 1 + k) (fun i hi => hD i (by omega) (by omega))
  have dv := pq_div (B := 8) (f := D) (by decide) (n := P + 1 + k) (fun i hi => hD i (by omega) (by omega)) k (by omega)
  rw [show P + 1 + k - k = P + 1 by omega] at dv
  have dv' : pq 8 D (P + 1 + k) / 8 ^ k = 8 * pq 8 D P := by
    rw [dv]
    show 8 * pq 8 D P + D P = _
    rw [h0]; omega
  have bP := pq_bd (B := 8) (f := D) (by decide) P (fun i hi => hD i (by omega) (by omega))
  rw [eK, hk, pq_upd h0 k]
  obtain ⟨o, ho⟩ := Int.eq_ofNat_of_zero_le bd.1
  obtain ⟨A, hA⟩ := Int.eq_ofNat_of_zero_le bP.1
  obtain ⟨X, rfl⟩ := Int.eq_ofNat_of_zero_le hx.1
  rw [hA] at dv'
  rw [ho] at dv' bd ⊢
  have p8 : (8 : Int) ^ k = ((2 ^ (3 * k) : Nat) : Int) := by rw [Nat.pow_mul]; simp
  have pb : (2 : Nat) ^ (3 * k) ≤ 2 ^ 21 := Nat.pow_le_pow_right (by decide) (by omega)
  have p0 : 0 < (2 : Nat) ^ (3 * k) := Nat.pow_pos (by decide)
  rw [p8] at dv' ⊢
  have on : o = 2 ^ (3 * k) * (8 * A) + o % 2 ^ (3 * k) := by
    have h1 := Nat.div_add_mod o (2 ^ (3 * k))
    have h2 : o / 2 ^ (3 * k) = 8 * A := by
      have : ((o / 2 ^ (3 * k) : Nat) : Int) = ((8 * A : Nat) : Int) := by
        rw [Int.natCast_ediv, dv']; simp
      exact Int.ofNat.inj this
    rw [h2] at h1
    exact h1.symm
  have ob : o < 2 ^ 31 := by
    have h8 : (8 : Int) ^ (P + 1 + k) ≤ 8 ^ 8 := by
      have : (8 : Nat) ^ (P + 1 + k) ≤ 8 ^ 8 := Nat.pow_le_pow_right (by decide) (by omega)
      exact_mod_cast this
    have := bd.2
    omega
  have hX : X < 8 := by omega
  have hsh : X * 2 ^ (3 * k) < 2 ^ 31 := by
    have : X * 2 ^ (3 * k) ≤ 7 * 2 ^ 21 := Nat.mul_le_mul (by omega) pb
    omega
  have sh : xshl (X : Int) (3 * (k : Int)) = ((X * 2 ^ (3 * k) : Nat) : Int) := by
    have := xshl_nat (n := X) (b := 3 * k) hsh (by omega)
    rw [show ((3 * k : Nat) : Int) = 3 * (k : Int) by omega] at this
    exact this
  rw [sh, xor_nat ob hsh]
  have m := or_mid (a := A) (L := o % 2 ^ (3 * k)) (x := X) (i := 3 * k) (Nat.mod_lt _ p0) hX
  rw [← on] at m
  rw [Nat.mul_comm X, m]
  have : 2 ^ (3 * k) * (8 * A + X) + o % 2 ^ (3 * k) = o + X * 2 ^ (3 * k) := by
    rw [Nat.mul_add, Nat.mul_comm (2 ^ (3 * k)) X]
    omega
  rw [this]
  simp
theorem t_X0_meritOf {K rule a : Int} {s : Sto} {ov : Int → Int → Int} (hK : 2 ≤ K ∧ K ≤ 8) (hr : rg rule) (ha : 0 ≤ a ∧ a < K) (h : ∀ x y : Int, 0 ≤ x → x < K → 0 ≤ y → y < K → s 60 (x * 8 + y) = ov x y ∧ 0 ≤ ov x y ∧ ov x y ≤ 108) : ClI LY 2 MX0_meritOf [.inr 59, .inl a, .inl K, .inl rule] s (fun r s' => s' = s ∧ r = mrF ov K rule a) := by
  refine ClI.intro (by decide) rfl (Nat.le_of_ble_eq_true rfl) (fun X C r => ?_)
  refine kb_X0_meritOf_0 C r ?_
  have rK : rg K := ⟨by omega, by omega⟩
  by_cases q : rule = 0
  · have e : mrF ov K rule a = sumF (fun b => ov a b) K.toNat := if_pos q
    have key : G LY X 6 [rv 59, iv a, iv K, iv rule, iv (sumF (fun b => ov a b) (0 : Int).toNat), iv 0] [] s := by
      refine downI (P := fun b => G LY X 6 [rv 59, iv a, iv K, iv rule, iv (sumF (fun b => ov a b) b.toNat), iv b] [] s) (a := 0) (b := K) (by omega) ?_ ?_
      · exact kb_X0_meritOf_6 C r ⟨⟨rK, rK⟩, fun _ => ⟨rfl, e.symm⟩, fun z => absurd z (by omega)⟩
      · intro b b0 b1 ih
        rw [sumF_s _ b0] at ih
        refine kb_X0_meritOf_6 C r ⟨⟨⟨by omega, by omega⟩, rK⟩, fun z => absurd z (by omega), fun _ => ⟨hr, fun z => absurd q z, fun _ => ⟨0, _, by decide, t_X0_supportOf (by omega), ?_⟩⟩⟩
        rintro x y ⟨hy, hx⟩
        rw [hy, hx, (h a b ha.1 ha.2 b0 b1).1]
        exact ih
    exact key
  · have e : mrF ov K rule a = cntI (fun b => ov b a < ov a b) K.toNat := if_neg q
    have key : G LY X 6 [rv 59, iv a, iv K, iv rule, iv (cntI (fun b => ov b a < ov a b) (0 : Int).toNat), iv 0] [] s := by
      refine downI (P := fun b => G LY X 6 [rv 59, iv a, iv K, iv rule, iv (cntI (fun b => ov b a < ov a b) b.toNat), iv b] [] s) (a := 0) (b := K) (by omega) ?_ ?_
      · exact kb_X0_meritOf_6 C r ⟨⟨rK, rK⟩, fun _ => ⟨rfl, e.symm⟩, fun z => absurd z (by omega)⟩
      · intro b b0 b1 ih
        rw [cntI_s _ b0] at ih
        have h1 := h a b ha.1 ha.2 b0 b1
        have h2 := h b a b0 b1 ha.1 ha.2
        refine kb_X0_meritOf_6 C r ⟨⟨⟨by omega, by omega⟩, rK⟩, fun z => absurd z (by omega), fun _ => ⟨hr, fun _ => ⟨1, _, by decide, t_X0_beats (by omega) (by omega) ⟨by omega, by omega⟩ ⟨by omega, by omega⟩, ?_⟩, fun z => absurd z q⟩⟩
        rintro x y ⟨hy, hx⟩
        rw [hy]
        rw [h1.1, h2.1] at hx
        have bb := oneIf_bd (ov b a < ov a b)
        rw [← hx] at ih bb
        refine ⟨⟨by omega, by omega⟩, fun z => ?_, fun z => ?_⟩
        · rw [z, Int.add_zero] at ih; exact ih
        · rw [show x = 1 by omega] at ih; exact ih
    exact key
theorem t_X0_isAheadByMerit {K rule a b : Int} {s : Sto} {ov : Int → Int → Int} (hK : 2 ≤ K ∧ K ≤ 8) (hr : rg rule) (ha : 0 ≤ a ∧ a < K) (hb : 0 ≤ b ∧ b < K) (h : ∀ x y : Int, 0 ≤ x → x < K → 0 ≤ y → y < K → s 60 (x * 8 + y) = ov x y ∧ 0 ≤ ov x y ∧ ov x y ≤ 108) : ClI LY 3 MX0_isAheadByMerit [.inr 59, .inl a, .inl b, .inl K, .inl rule] s (fun r s' => s' = s ∧ r = oneIf (amR (mrF ov K rule) a b)) := by
  refine ClI.introZ (by decide) rfl (Nat.le_of_ble_eq_true rfl) (fun X C r => ?_)
  refine kb_X0_isAheadByMerit_0 C r ⟨2, _, by decide, t_X0_meritOf hK hr ha h, ?_⟩
  rintro x y ⟨hy, hx⟩
  rw [hy]
  refine ⟨2, _, by decide, t_X0_meritOf hK hr hb h, ?_⟩
  rintro x' y' ⟨hy', hx'⟩
  rw [hy', hx, hx']
  have b1 := mrF_bd (rule := rule) hK (fun z z0 z1 => (h a z ha.1 ha.2 z0 z1).2)
  have b2 := mrF_bd (rule := rule) hK (fun z z0 z1 => (h b z hb.1 hb.2 z0 z1).2)
  refine ⟨⟨by omega, by omega⟩, fun z => ⟨rfl, (oneIf_t (amR_iff.mpr (by omega))).symm⟩, fun z => ⟨⟨by omega, by omega⟩, fun z2 => ⟨rfl, (oneIf_f (fun q => by have := amR_iff.mp q; omega)).symm⟩, fun z2 => ⟨⟨⟨by omega, by omega⟩, ⟨by omega, by omega⟩⟩, fun z3 => ⟨rfl, (oneIf_f (fun q => by have := amR_iff.mp q; omega)).symm⟩, fun z3 => ⟨rfl, (oneIf_t (amR_iff.mpr (by omega))).symm⟩⟩⟩⟩
theorem omF_OdR {mr : Int → Int} {K : Int} (hK : 2 ≤ K ∧ K ≤ 8) : OdR K (pq 8 (omF mr K) K.toNat) (omF mr K) := by
  have R := omF_row (mr := mr) (K := K) (by omega)
  refine ⟨hK, fun i i0 i1 => ?_, fun i j i0 i1 j0 j1 e => R.inj i0 (by omega) j0 (by omega) e, rfl⟩
  have := R.bd i0 (by omega)
  rw [Int.toNat_of_nonneg (by omega : 0 ≤ K)] at this
  exact this
set_option maxHeartbeats 4000000 in
theorem t_X0_orderByMerit {K rule : Int} {s : Sto} {ov : Int → Int → Int} (hK : 2 ≤ K ∧ K ≤ 8) (hr : rg rule) (h : ∀ x y : Int, 0 ≤ x → x < K → 0 ≤ y → y < K → s 60 (x * 8 + y) = ov x y ∧ 0 ≤ ov x y ∧ ov x y ≤ 108) : ClI LY 4 MX0_orderByMerit [.inr 59, .inl K, .inl rule] s (fun r s' => s' = s ∧ OdR K r (omF (mrF ov K rule) K)) := by
  refine ClI.intro (by decide) rfl (Nat.le_of_ble_eq_true rfl) (fun X C r => ?_)
  refine kb_X0_orderByMerit_0 C r ?_
  have rK : rg K := ⟨by omega, by omega⟩
  have od := omF_OdR (mr := mrF ov K rule) hK
  have oc := fun i => omF_cnt (mr := mrF ov K rule) (K := K) (i := i) (by omega)
  have oa := fun a => omF_at (mr := mrF ov K rule) (K := K) (a := a) (by omega)
  generalize hf : omF (mrF ov K rule) K = f at *
  generalize hm : mrF ov K rule = mr at *
  have z0 : pq 8 (fun i => if f i < 0 then f i else 0) K.toNat = 0 := by
    have : ∀ n : Nat, n ≤ K.toNat → pq 8 (fun i => if f i < 0 then f i else 0) n = 0 := by
      intro n
      induction n with
      | zero => intro _; rfl
      | succ n ih =>
        intro hn
        show 8 * pq 8 (fun i => if f i < 0 then f i else 0) n + (if f n < 0 then f n else 0) = 0
        rw [ih (by omega), if_neg (by have := od.2.1 n (by omega) (by omega); omega)]
        rfl
    exact this _ (Nat.le_refl _)
  have key : G LY X 5 [rv 59, iv K, iv rule, iv (pq 8 (fun i => if f i < 0 then f i else 0) K.toNat), iv 0, none, none] [] s := by
    refine downI (P := fun a => G LY X 5 [rv 59, iv K, iv rule, iv (pq 8 (fun i => if f i < a then f i else 0) K.toNat), iv a, none, none] [] s) (a := 0) (b := K) (by omega) ?_ ?_
    · have e : pq 8 (fun i => if f i < K then f i else 0) K.toNat = pq 8 f K.toNat := pq_ext _ (fun i hi => if_pos (od.2.1 i (by omega) (by omega)).2)
      rw [e]
      exact kb_X0_orderByMerit_5 C r ⟨⟨rK, rK⟩, fun _ => ⟨rfl, od⟩, fun z => absurd z (by omega)⟩
    · intro a a0 a1 ih
      obtain ⟨p, p0, p1, pa⟩ := oa a a0 a1
      have pc := oc p p0 p1
      rw [pa] at pc
      have up' := pq_or (D := fun i => if f i < a then f i else 0) (K := K) (p := p) (x := a) hK.2 ⟨p0, p1⟩ (by omega) (fun i i0 i1 => by
        have := od.2.1 i i0 i1
        show 0 ≤ (if f i < a then f i else 0) ∧ (if f i < a then f i else 0) < 8
        by_cases q : f i < a
        · rw [if_pos q]; omega
        · rw [if_neg q]; omega) (if_neg (by omega))
      have e2 : pq 8 (fun i => if i = p then a else if f i < a then f i else 0) K.toNat = pq 8 (fun i => if f i < a + 1 then f i else 0) K.toNat := by
        refine pq_ext _ (fun i hi => ?_)
        show (if (i : Int) = p then a else if f i < a then f i else 0) = if f i < a + 1 then f i else 0
        by_cases q : (i : Int) = p
        · rw [if_pos q, q, pa, if_pos (by omega)]
        · rw [if_neg q]
          have ne : f i ≠ a := fun e => q (od.2.2.1 i p (by omega) (by omega) p0 p1 (by rw [e, pa]))
          by_cases q2 : f i < a
          · rw [if_pos q2, if_pos (by omega)]
          · rw [if_neg q2, if_neg (by omega)]
      rw [e2] at up'
      generalize pq 8 (fun i => if f i < a then f i else 0) K.toNat = O at *
      refine kb_X0_orderByMerit_5 C r ⟨⟨⟨by omega, by omega⟩, rK⟩, fun z => absurd z (by omega), fun _ => ?_⟩
      have inner : G LY X 17 [rv 59, iv K, iv rule, iv O, iv a, iv (cntI (fun q => q ≠ a ∧ amR mr q a) (0 : Int).toNat), iv 0] [] s := by
        refine downI (P := fun b => G LY X 17 [rv 59, iv K, iv rule, iv O, iv a, iv (cntI (fun q => q ≠ a ∧ amR mr q a) b.toNat), iv b] [] s) (a := 0) (b := K) (by omega) ?_ ?_
        · refine kb_X0_orderByMerit_17 C r ⟨⟨rK, rK⟩, fun _ => ?_, fun z => absurd z (by omega)⟩
          rw [← pc, up']
          exact ih
        · intro b b0 b1 ih2
          rw [cntI_s _ b0] at ih2
          refine kb_X0_orderByMerit_17 C r ⟨⟨⟨by omega, by omega⟩, rK⟩, fun z => absurd z (by omega), fun _ => ⟨⟨⟨by omega, by omega⟩, ⟨by omega, by omega⟩⟩, fun z => ?_, fun z => ⟨3, _, by decide, t_X0_isAheadByMerit hK hr ⟨b0, b1⟩ ⟨a0, a1⟩ h, ?_⟩⟩⟩
          · rw [oneIf_f (fun q => q.1 z), Int.add_zero] at ih2; exact ih2
          · rintro x y ⟨hy, hx⟩
            rw [hy]
            rw [hm] at hx
            have bb := oneIf_bd (amR mr b a)
            have e3 : oneIf (b ≠ a ∧ amR mr b a) = x := by rw [hx]; exact oneIf_iff ⟨fun q => q.2, fun q => ⟨z, q⟩⟩
            rw [e3] at ih2
            refine ⟨⟨by omega, by omega⟩, fun z2 => ?_, fun z2 => ?_⟩
            · rw [z2, Int.add_zero] at ih2; exact ih2
            · rw [show x = 1 by omega] at ih2; exact ih2
      exact inner
  rw [z0] at key
  exact key
