/-! THE FACTS OF A NAME -/
def CP (f g : Int → Int) (na nb r : Int) : Prop := 0 ≤ r ∧ r ≤ na ∧ r ≤ nb ∧ (∀ j : Int, 0 ≤ j → j < r → f j = g j) ∧ (r < na → r < nb → f r ≠ g r)
theorem CP.uniq {f g : Int → Int} {na nb r r' : Int} (h : CP f g na nb r) (h' : CP f g na nb r') : r = r' := by
  obtain ⟨a1, a2, a3, a4, a5⟩ := h
  obtain ⟨b1, b2, b3, b4, b5⟩ := h'
  by_cases q : r < r'
  · exact absurd (b4 r a1 q) (a5 (by omega) (by omega))
  · by_cases q2 : r' < r
    · exact absurd (a4 r' b1 q2) (b5 (by omega) (by omega))
    · omega
theorem t_X1_lettersInCommon {now next na nb : Int} {f g : Int → Int} {s : Sto} (hA : NmR now na f) (hB : NmR next nb g) : ClI LY 2 MX1_lettersInCommon [.inl now, .inl next] s (fun r s' => s' = s ∧ CP f g na nb r) := by
  refine ClI.intro (by decide) rfl (Nat.le_of_ble_eq_true rfl) (fun X C r => ?_)
  have hna := hA.1
  have hnb := hB.1
  refine kb_X1_lettersInCommon_0 C r (by omega) ⟨1, _, by decide, t_X5_nameLength hA, ?_⟩
  rintro r1 s1 ⟨h1, h1'⟩
  rw [h1, h1']
  refine ⟨1, _, by decide, t_X5_nameLength hB, ?_⟩
  rintro r2 s2 ⟨h2, h2'⟩
  rw [h2, h2']
  refine ⟨⟨⟨by omega, by omega⟩, ⟨by omega, by omega⟩⟩, ?_⟩
  suffices H : (∀ j : Int, 0 ≤ j → j < 0 → f j = g j) → G LY X 14 [iv now, iv next, iv (min na nb), iv 0] [] s from H (fun j a b => absurd b (by omega))
  refine downI (P := fun k => (∀ j : Int, 0 ≤ j → j < k → f j = g j) → G LY X 14 [iv now, iv next, iv (min na nb), iv k] [] s) (a := 0) (b := min na nb) (by omega) ?_ ?_
  · intro h
    exact kb_X1_lettersInCommon_14 C r ⟨⟨⟨by omega, by omega⟩, ⟨by omega, by omega⟩⟩, fun _ => ⟨rfl, by omega, by omega, by omega, h, fun z1 z2 => by omega⟩, fun z => absurd z (by omega)⟩
  · intro k k0 k1 ih h
    have q1 := hA.2.1 k k0 (by omega)
    have q2 := hB.2.1 k k0 (by omega)
    refine kb_X1_lettersInCommon_14 C r ⟨⟨⟨by omega, by omega⟩, ⟨by omega, by omega⟩⟩, fun z => absurd z (by omega), fun _ => ⟨0, _, by decide, t_X5_nameLetter, ?_⟩⟩
    rintro x1 t1 ⟨ht1, hx1⟩
    rw [ht1]
    refine ⟨0, _, by decide, t_X5_nameLetter, ?_⟩
    rintro x2 t2 ⟨ht2, hx2⟩
    rw [ht2]
    rw [hA.letter ⟨k0, by omega⟩, if_pos (by omega)] at hx1
    rw [hB.letter ⟨k0, by omega⟩, if_pos (by omega)] at hx2
    refine ⟨⟨⟨by omega, by omega⟩, ⟨by omega, by omega⟩⟩, fun z => ⟨rfl, by omega, by omega, by omega, h, fun _ _ => by rw [← hx1, ← hx2]; exact z⟩, fun z => ih (fun j a b => ?_)⟩
    by_cases e : j = k
    · rw [e, ← hx1, ← hx2]; exact z
    · exact h j a (by omega)
/-- the letters seen, whether one came twice, how many are from abroad -/
def snF (g : Int → Int) : Nat → Int
  | 0 => 0
  | n + 1 => xor_ (snF g n) (xshl 1 (g n))
def twN (g : Int → Int) : Nat → Int
  | 0 => 0
  | n + 1 => if xand (xshr (snF g n) (g n)) 1 = 1 then 1 else twN g n
def abN (K : Int) (g : Int → Int) : Nat → Int
  | 0 => 0
  | n + 1 => abN K g n + if K ≤ g n then 1 else 0
def isPl (K : Int) (od : Int → Int) (l r : Int) : Prop := 0 ≤ r ∧ r ≤ K ∧ (∀ j : Int, 0 ≤ j → j < r → od j ≠ l) ∧ (r < K → od r = l)
theorem isPl.uniq {K l r r' : Int} {od : Int → Int} (h : isPl K od l r) (h' : isPl K od l r') : r = r' := by
  obtain ⟨a1, a2, a3, a4⟩ := h
  obtain ⟨b1, b2, b3, b4⟩ := h'
  by_cases q : r < r'
  · exact absurd (a4 (by omega)) (b3 r a1 q)
  · by_cases q2 : r' < r
    · exact absurd (b4 (by omega)) (a3 r' b1 q2)
    · omega
theorem xand01 (y : Int) : xand y 1 = 0 ∨ xand y 1 = 1 := by
  unfold xand
  generalize Int32.ofInt y = x
  have h : (x &&& Int32.ofInt 1) = (if x.toBitVec.getLsbD 0 = true then 1 else 0) := by
    apply Int32.toBitVec_inj.mp
    show x.toBitVec &&& 1#32 = _
    rw [BitVec.and_one_eq_setWidth_ofBool_getLsbD]
    cases x.toBitVec.getLsbD 0 <;> rfl
  rw [h]
  split
  · exact Or.inr rfl
  · exact Or.inl rfl
theorem twN_s (g : Int → Int) (n : Nat) : (twN g n = 0 ∨ twN g n = 1) ∧ xor_ (twN g n) (xand (xshr (snF g n) (g n)) 1) = twN g (n + 1) := by
  have h0 : twN g n = 0 ∨ twN g n = 1 := by
    cases n with
    | zero => exact Or.inl rfl
    | succ n =>
      induction n with
      | zero =>
        show (if _ = (1 : Int) then (1 : Int) else 0) = 0 ∨ (if _ = (1 : Int) then (1 : Int) else 0) = 1
        split <;> omega
      | succ n ih =>
        show (if _ = (1 : Int) then (1 : Int) else twN g (n + 1)) = 0 ∨ (if _ = (1 : Int) then (1 : Int) else twN g (n + 1)) = 1
        split <;> omega
  refine ⟨h0, ?_⟩
  show _ = if xand (xshr (snF g n) (g n)) 1 = 1 then 1 else twN g n
  rcases xand01 (xshr (snF g n) (g n)) with h | h <;> rw [h] <;> rcases h0 with k | k <;> rw [k] <;> decide
/-- the place of the first and of the last letter -/
def fsR (K : Int) (od g : Int → Int) (n v w : Int) : Prop := (n ≤ 0 → v = K + 1 ∧ w = K + 1) ∧ (0 < n → isPl K od (g 0) v ∧ isPl K od (g (n - 1)) w)
theorem t_X1_gatherFacts {name nb : Int} {g od : Int → Int} {s : Sto} (hB : NmR name nb g) (hO : OdR (s 3 0) (s 3 2) od) : ClV LY 2 MX1_gatherFacts [.inr 52, .inr 3, .inl name] s (fun s' => (∀ c : Nat, c ≠ 53 → s' c = s c) ∧ s' 53 0 = nb ∧ fsR (s 3 0) od g nb (s' 53 1) (s' 53 2) ∧ s' 53 4 = abN (s 3 0) g nb.toNat ∧ s' 53 5 = twN g nb.toNat) := by
  refine ClV.intro (by decide) rfl (Nat.le_of_ble_eq_true rfl) (fun X C r => ?_)
  have hnb := hB.1
  have hK := hO.1
  refine kb_X1_gatherFacts_0 C r ⟨1, _, by decide, t_X5_nameLength hB, ?_⟩
  rintro r1 s1 ⟨h1, h1'⟩
  rw [h1, h1']
  suffices H : ∀ v w : Int, fsR (s 3 0) od g 0 v w → G LY X 33 [rv 52, rv 3, iv name, iv nb, iv (abN (s 3 0) g (0 : Int).toNat), iv (twN g (0 : Int).toNat), iv (snF g (0 : Int).toNat), iv v, iv w, iv 0, none] [] s from H _ _ ⟨fun _ => ⟨rfl, rfl⟩, fun z => absurd z (by omega)⟩
  refine downI (P := fun k => ∀ v w : Int, fsR (s 3 0) od g k v w → G LY X 33 [rv 52, rv 3, iv name, iv nb, iv (abN (s 3 0) g k.toNat), iv (twN g k.toNat), iv (snF g k.toNat), iv v, iv w, iv k, none] [] s) (a := 0) (b := nb) hnb.1 ?_ ?_
  · intro v w h
    refine kb_X1_gatherFacts_33 C r ⟨⟨⟨by omega, by omega⟩, ⟨by omega, by omega⟩⟩, fun _ => ?_, fun z => absurd z (by omega)⟩
    rintro u1 rfl u2 rfl u3 rfl u4 rfl u5 rfl
    refine ⟨fun c c1 => by rw [up_row c1, up_row c1, up_row c1, up_row c1, up_row c1], ?_, ?_, ?_, ?_⟩
    · simp (disch := decide) only [up_idx, up_at]
    · simp (disch := decide) only [up_idx, up_at]
      exact h
    · simp (disch := decide) only [up_idx, up_at]
    · simp (disch := decide) only [up_at]
  · intro k k0 k1 ih v w h
    have q := hB.2.1 k k0 k1
    have tw := (twN_s g k.toNat).2
    have ek : ((k.toNat : Nat) : Int) = k := by omega
    rw [ek] at tw
    have ih : ∀ v w : Int, fsR (s 3 0) od g (k + 1) v w → G LY X 33 [rv 52, rv 3, iv name, iv nb, iv (abN (s 3 0) g k.toNat + if s 3 0 ≤ g k then 1 else 0), iv (xor_ (twN g k.toNat) (xand (xshr (snF g k.toNat) (g k)) 1)), iv (xor_ (snF g k.toNat) (xshl 1 (g k))), iv v, iv w, iv (k + 1), none] [] s := by
      intro v w h2
      have := ih v w h2
      rw [show (k + 1).toNat = k.toNat + 1 by omega, ← tw] at this
      have e1 : abN (s 3 0) g (k.toNat + 1) = abN (s 3 0) g k.toNat + if s 3 0 ≤ g k then 1 else 0 := by
        show _ + (if s 3 0 ≤ g ((k.toNat : Nat) : Int) then (1 : Int) else 0) = _
        rw [ek]
      have e2 : snF g (k.toNat + 1) = xor_ (snF g k.toNat) (xshl 1 (g k)) := by
        show xor_ _ (xshl 1 (g ((k.toNat : Nat) : Int))) = _
        rw [ek]
      rw [e1, e2] at this
      exact this
    have nx : ∀ r7 : Int, isPl (s 3 0) od (g k) r7 → (k ≠ 0 → fsR (s 3 0) od g (k + 1) v r7) ∧ (k = 0 → fsR (s 3 0) od g (k + 1) r7 r7) := by
      intro r7 h7
      refine ⟨fun z => ⟨fun y => absurd y (by omega), fun _ => ⟨(h.2 (by omega)).1, by rw [show k + 1 - 1 = k by omega]; exact h7⟩⟩, fun z => ⟨fun y => absurd y (by omega), fun _ => ⟨by rw [z] at h7; exact h7, by rw [show k + 1 - 1 = k by omega]; exact h7⟩⟩⟩
    refine kb_X1_gatherFacts_33 C r ⟨⟨⟨by omega, by omega⟩, ⟨by omega, by omega⟩⟩, fun z => absurd z (by omega), fun _ => ⟨0, _, by decide, t_X5_nameLetter, ?_⟩⟩
    rintro x t ⟨ht, hx⟩
    rw [ht]
    rw [hB.letter ⟨k0, by omega⟩, if_pos k1] at hx
    rw [hx]
    refine ⟨⟨⟨by omega, by omega⟩, ⟨by omega, by omega⟩⟩, fun z => ⟨0, _, by decide, t_X5_orderPlace hO ⟨by omega, by omega⟩, ?_⟩, fun z => ⟨0, _, by decide, t_X5_orderPlace hO ⟨by omega, by omega⟩, ?_⟩⟩
    · rintro r7 t7 ⟨h7, h8⟩
      rw [h7]
      have n7 := nx r7 h8
      rw [if_neg (by omega)] at ih
      exact ⟨⟨by omega, by omega⟩, fun y => ih _ _ (n7.1 y), fun y => ih _ _ (n7.2 y)⟩
    · rintro r7 t7 ⟨h7, h8⟩
      rw [h7]
      have n7 := nx r7 h8
      rw [if_pos z] at ih
      exact ⟨⟨by omega, by omega⟩, fun y => ih _ _ (n7.1 y), fun y => ih _ _ (n7.2 y)⟩
