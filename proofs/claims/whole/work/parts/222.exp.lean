/-! OPERATION: expected -/
theorem xdiv_nn {a b : Int} (ha : 0 ≤ a ∧ a ≤ 2147483647) (hb : 0 < b ∧ b ≤ 2147483647) : Int32.ofInt a / Int32.ofInt b = Int32.ofInt (a / b) := by
  have h1 : a / b ≤ a := Int.ediv_le_self b ha.1
  have h2 : 0 ≤ a / b := Int.ediv_nonneg ha.1 (by omega)
  rw [← Int32.toInt_inj, Int32.toInt_div, oI_toInt ⟨by omega, by omega⟩, oI_toInt ⟨by omega, by omega⟩, oI_toInt ⟨by omega, by omega⟩, Int.tdiv_eq_ediv_of_nonneg ha.1, Int.bmod_def, Int.emod_eq_of_lt h2 (by omega), if_pos (by omega)]
theorem xrem_nn {a b : Int} (ha : 0 ≤ a ∧ a ≤ 2147483647) (hb : 0 < b ∧ b ≤ 2147483647) : xrem a b = a % b := by
  have h3 : 0 ≤ a % b := Int.emod_nonneg a (by omega)
  have h4 : a % b < b := Int.emod_lt_of_pos a hb.1
  have h5 : a - a / b * b = a % b := by rw [Int.emod_def, Int.mul_comm b]
  unfold xrem
  rw [xdiv_nn ha hb, oI_mul, oI_sub, h5, oI_toInt ⟨by omega, by omega⟩]
/-- both take the common part alike -/
def euc : Nat → Int → Int → Int
  | 0, a, _ => a
  | n + 1, a, b => if b = 0 then a else euc n b (xrem a b)
def eucE : Nat → Int → Int → Prop
  | 0, _, b => b = 0
  | n + 1, a, b => b = 0 ∨ eucE n b (xrem a b)
theorem eucE_bd : ∀ (m : Nat) (a b : Int), (0 ≤ a ∧ a ≤ 2147483647) → 0 ≤ b → b < 2 ^ m → b ≤ 2147483647 → eucE (2 * m) a b
  | 0, a, b, _, h0, h1, _ => by
    show b = 0
    have : b < 1 := h1
    omega
  | m + 1, a, b, ha, h0, h1, h2 => by
    show b = 0 ∨ (xrem a b = 0 ∨ eucE (2 * m) (xrem a b) (xrem b (xrem a b)))
    by_cases q : b = 0
    · exact Or.inl q
    · refine Or.inr ?_
      have e1 := xrem_nn (b := b) ha ⟨by omega, h2⟩
      have g1 : 0 ≤ a % b := Int.emod_nonneg a q
      have g2 : a % b < b := Int.emod_lt_of_pos a (by omega)
      rw [e1]
      by_cases q2 : a % b = 0
      · exact Or.inl q2
      · refine Or.inr ?_
        have e2 := xrem_nn (a := b) (b := a % b) ⟨h0, h2⟩ ⟨by omega, by omega⟩
        have k1 : 0 ≤ b % (a % b) := Int.emod_nonneg b q2
        have k2 : b % (a % b) < a % b := Int.emod_lt_of_pos b (by omega)
        rw [e2]
        refine eucE_bd m (a % b) _ ⟨by omega, by omega⟩ k1 ?_ (by omega)
        have k3 : b = (a % b) * (b / (a % b)) + b % (a % b) := (Int.mul_ediv_add_emod b (a % b)).symm
        have k4 : 1 ≤ b / (a % b) := (Int.le_ediv_iff_mul_le (by omega)).mpr (by omega)
        have k5 : (a % b) * 1 ≤ (a % b) * (b / (a % b)) := Int.mul_le_mul_of_nonneg_left k4 g1
        have k6 : (2 : Int) ^ (m + 1) = 2 ^ m * 2 := Int.pow_succ 2 m
        generalize (2 : Int) ^ m = y at *
        generalize (a % b) * (b / (a % b)) = z at *
        omega
theorem euc_pos : ∀ (n : Nat) (a b : Int), (0 ≤ a ∧ a ≤ 2147483647) → 0 ≤ b → b ≤ 2147483647 → eucE n a b → 0 ≤ euc n a b ∧ euc n a b ≤ 2147483647 ∧ (0 < a ∨ 0 < b → 0 < euc n a b)
  | 0, a, b, ha, h0, h1, h => by
    have h : b = 0 := h
    exact ⟨ha.1, ha.2, fun z => by show 0 < a; omega⟩
  | n + 1, a, b, ha, h0, h1, h => by
    show 0 ≤ (if b = 0 then a else euc n b (xrem a b)) ∧ (if b = 0 then a else euc n b (xrem a b)) ≤ 2147483647 ∧ (0 < a ∨ 0 < b → 0 < (if b = 0 then a else euc n b (xrem a b)))
    by_cases q : b = 0
    · rw [if_pos q]
      exact ⟨ha.1, ha.2, fun z => by omega⟩
    · rw [if_neg q]
      have e1 := xrem_nn (b := b) ha ⟨by omega, h1⟩
      have g1 : 0 ≤ a % b := Int.emod_nonneg a q
      have g2 : a % b < b := Int.emod_lt_of_pos a (by omega)
      have := euc_pos n b (xrem a b) ⟨h0, h1⟩ (by omega) (by omega) (h.resolve_left q)
      exact ⟨this.1, this.2.1, fun z => this.2.2 (Or.inl (by omega))⟩
set_option maxHeartbeats 2000000 in
theorem t_X11_commonPart {a b : Int} {s : Sto} (ha : 0 ≤ a ∧ a ≤ 2147483647) (hb : 0 ≤ b ∧ b ≤ 2147483647) : ClI LY 0 MX11_commonPart [.inl a, .inl b] s (fun r s' => s' = s ∧ r = euc 64 a b) := by
  refine ClI.intro (by decide) rfl (Nat.le_of_ble_eq_true rfl) (fun X C r => ?_)
  refine kb_X11_commonPart_0 C r ?_
  suffices H : ∀ (m : Nat), m ≤ 64 → ∀ x y : Int, (0 ≤ x ∧ x ≤ 2147483647) → (0 ≤ y ∧ y ≤ 2147483647) → euc m x y = euc 64 a b → G LY X 7 [iv a, iv b, iv x, iv y, iv (64 - (m : Int)), none] [] s from H 64 (Nat.le_refl _) a b ha hb rfl
  intro m
  induction m with
  | zero =>
    intro _ x y hx hy e
    exact kb_X11_commonPart_7 C r ⟨by decide, fun _ => ⟨rfl, e⟩, fun z => absurd z (by decide)⟩
  | succ m ih =>
    intro hm x y hx hy e
    have e : (if y = 0 then x else euc m y (xrem x y)) = euc 64 a b := e
    refine kb_X11_commonPart_7 C r ⟨⟨by omega, by omega⟩, fun z => absurd z (by omega), fun _ => ⟨⟨by omega, by omega⟩, fun z => ⟨rfl, by rw [if_pos z] at e; exact e⟩, fun z => ⟨⟨⟨by omega, by omega⟩, z⟩, ?_⟩⟩⟩
    rw [if_neg z] at e
    have e1 := xrem_nn (b := y) hx ⟨by omega, hy.2⟩
    have g1 : 0 ≤ x % y := Int.emod_nonneg x z
    have g2 : x % y < y := Int.emod_lt_of_pos x (by omega)
    have := ih (by omega) y (xrem x y) hy (by omega) e
    rw [show 64 - ((m + 1 : Nat) : Int) + 1 = 64 - (m : Int) by omega]
    exact this
/-- the WORTH as a number -/
noncomputable def wvF (s : Sto) (od : Int → Int) (p : Int) : Int := Classical.epsilon (fun v => WV s od p v)
theorem WV.val [Inhabited YT] {s : Sto} (h : Inv s) {o : Int} {od : Int → Int} (hO : OdR (s 75 9) o od) {p v : Int} (h1 : WV s od p v) : v = wvF s od p := h1.uniq h hO (Classical.epsilon_spec (p := fun v => WV s od p v) ⟨v, h1⟩)
theorem wvF_congr {s t : Sto} {od : Int → Int} {p : Int} (e : ∀ c : Nat, 76 ≤ c → c ≤ 86 → c ≠ 78 → c ≠ 81 → t c = s c) (e4 : t 75 4 = s 75 4) (e9 : t 75 9 = s 75 9) : wvF t od p = wvF s od p := by
  unfold wvF
  have : (fun v => WV t od p v) = (fun v => WV s od p v) := by
    funext v
    exact propext ⟨fun h => h.congr (fun c c1 c2 c3 c4 => (e c c1 c2 c3 c4).symm) e4.symm e9.symm, fun h => h.congr e e4 e9⟩
  rw [this]
/-- the first k CHANCES together -/
def smS (tl w v : Int → Int) : Nat → Int
  | 0 => 0
  | k + 1 => smS tl w v k + if tl k = 0 then 0 else v k * w k
def smW (tl w : Int → Int) : Nat → Int
  | 0 => 0
  | k + 1 => smW tl w k + if tl k = 0 then 0 else w k
theorem smS_s (tl w v : Int → Int) {k : Int} (hk : 0 ≤ k) : smS tl w v (k + 1).toNat = smS tl w v k.toNat + if tl k = 0 then 0 else v k * w k := by
  rw [show (k + 1).toNat = k.toNat + 1 by omega]
  show _ + (if tl (k.toNat : Nat) = 0 then 0 else v (k.toNat : Nat) * w (k.toNat : Nat)) = _
  rw [Int.toNat_of_nonneg hk]
theorem smW_s (tl w : Int → Int) {k : Int} (hk : 0 ≤ k) : smW tl w (k + 1).toNat = smW tl w k.toNat + if tl k = 0 then 0 else w k := by
  rw [show (k + 1).toNat = k.toNat + 1 by omega]
  show _ + (if tl (k.toNat : Nat) = 0 then 0 else w (k.toNat : Nat)) = _
  rw [Int.toNat_of_nonneg hk]
theorem sm_bd {tl w v : Int → Int} (hw : ∀ j : Int, 0 ≤ j → j < 6 → 0 ≤ w j ∧ w j ≤ 99) (hv : ∀ j : Int, 0 ≤ j → j < 6 → tl j ≠ 0 → -594 ≤ v j ∧ v j ≤ 594) : ∀ k : Nat, k ≤ 6 → (-58806 * (k : Int) ≤ smS tl w v k ∧ smS tl w v k ≤ 58806 * (k : Int)) ∧ (0 ≤ smW tl w k ∧ smW tl w k ≤ 99 * (k : Int)) ∧ (smW tl w k = 0 → smS tl w v k = 0) := by
  intro k
  induction k with
  | zero => intro _; exact ⟨⟨Int.le_refl 0, Int.le_refl 0⟩, ⟨Int.le_refl 0, Int.le_refl 0⟩, fun _ => rfl⟩
  | succ k ih =>
    intro hk
    obtain ⟨g1, g2, g3⟩ := ih (by omega)
    have b1 := hw k (by omega) (by omega)
    have b2 := hv k (by omega) (by omega)
    show (_ ≤ smS tl w v k + (if tl k = 0 then 0 else v k * w k) ∧ smS tl w v k + (if tl k = 0 then 0 else v k * w k) ≤ _) ∧ (0 ≤ smW tl w k + (if tl k = 0 then 0 else w k) ∧ smW tl w k + (if tl k = 0 then 0 else w k) ≤ _) ∧ (smW tl w k + (if tl k = 0 then 0 else w k) = 0 → smS tl w v k + (if tl k = 0 then 0 else v k * w k) = 0)
    by_cases q : tl k = 0
    · rw [if_pos q, if_pos q]
      refine ⟨⟨by omega, by omega⟩, ⟨by omega, by omega⟩, fun z => by have := g3 (by omega); omega⟩
    · rw [if_neg q, if_neg q]
      have b2 := b2 q
      have m1 : v k * w k ≤ 594 * w k := Int.mul_le_mul_of_nonneg_right b2.2 b1.1
      have m2 : -594 * w k ≤ v k * w k := Int.mul_le_mul_of_nonneg_right b2.1 b1.1
      refine ⟨⟨by omega, by omega⟩, ⟨by omega, by omega⟩, fun z => ?_⟩
      have := g3 (by omega)
      have w0 : w k = 0 := by omega
      rw [w0, Int.mul_zero]; omega
