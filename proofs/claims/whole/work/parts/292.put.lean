/-! VOTES BOUGHT: a LETTER put first by some VOTERS -/
theorem PBj.put {K o bo a v : Int} {f : Int → Int} (h : OdR K o f) (ha : 0 ≤ a ∧ a < K) : PBj (fun l => plB bo a f K v l) K := by
  have pb := h.pbj
  by_cases q : xand (xshr bo v) 1 = 1
  · have A := h.at' ha.1 ha.2
    have e : ∀ l : Int, plB bo a f K v l = if l = a then 0 else if atF f l K.toNat < atF f a K.toNat then atF f l K.toNat + 1 else atF f l K.toNat := fun l => by unfold plB; rw [if_pos q]
    have ne : ∀ l : Int, 0 ≤ l → l < K → l ≠ a → atF f l K.toNat ≠ atF f a K.toNat := fun l l0 l1 l2 z => l2 (pb.2.1 l a l0 l1 ha.1 ha.2 z)
    refine ⟨fun l l0 l1 => ?_, fun l l' l0 l1 m0 m1 z => ?_, fun i => ?_⟩
    · show 0 ≤ plB bo a f K v l ∧ plB bo a f K v l < K
      rw [e]
      have b := (h.at' l0 l1).1
      by_cases z : l = a
      · rw [if_pos z]; omega
      · rw [if_neg z]
        split <;> omega
    · have z' : plB bo a f K v l = plB bo a f K v l' := z
      rw [e, e] at z'
      have b1 := (h.at' l0 l1).1
      have b2 := (h.at' m0 m1).1
      by_cases c1 : l = a
      · by_cases c2 : l' = a
        · omega
        · rw [if_pos c1, if_neg c2] at z'
          have := ne l' m0 m1 c2
          split at z' <;> omega
      · by_cases c2 : l' = a
        · rw [if_neg c1, if_pos c2] at z'
          have := ne l l0 l1 c1
          split at z' <;> omega
        · rw [if_neg c1, if_neg c2] at z'
          have n1 := ne l l0 l1 c1
          have n2 := ne l' m0 m1 c2
          refine pb.2.1 l l' l0 l1 m0 m1 (show atF f l K.toNat = atF f l' K.toNat from ?_)
          split at z' <;> split at z' <;> omega
    · by_cases c : i = 0
      · refine ⟨a, fun _ _ => ⟨ha.1, ha.2, ?_⟩⟩
        show plB bo a f K v a = i
        rw [e, if_pos rfl, c]
      · by_cases c2 : i ≤ atF f a K.toNat
        · refine ⟨f (i - 1), fun i0 i1 => ?_⟩
          have b := h.2.1 (i - 1) (by omega) (by omega)
          have t := h.at_ (i := i - 1) (by omega) (by omega)
          have na : f (i - 1) ≠ a := fun z => by rw [z] at t; omega
          refine ⟨b.1, b.2, ?_⟩
          show plB bo a f K v (f (i - 1)) = i
          rw [e, if_neg na, t, if_pos (by omega)]
          omega
        · refine ⟨f i, fun i0 i1 => ?_⟩
          have b := h.2.1 i i0 i1
          have t := h.at_ i0 i1
          have na : f i ≠ a := fun z => by rw [z] at t; omega
          refine ⟨b.1, b.2, ?_⟩
          show plB bo a f K v (f i) = i
          rw [e, if_neg na, t, if_neg (by omega)]
  · have e : (fun l => plB bo a f K v l) = fun l => atF f l K.toNat := by
      funext l
      unfold plB
      rw [if_neg q]
    rw [e]
    exact pb
/-- what goes over to the LETTER a from y -/
def moS (bo : Int) (P : Int → Int → Int) (w : Int → Int) (a y : Int) (n : Nat) : Int := sumF (fun v => xand (xshr bo v) 1 * (if P v y < P v a then w v else 0)) n
theorem moS_a (bo : Int) (P : Int → Int → Int) (w : Int → Int) (a : Int) : ∀ n : Nat, moS bo P w a a n = 0
  | 0 => rfl
  | n + 1 => by
    show moS bo P w a a n + xand (xshr bo n) 1 * (if P n a < P n a then w n else 0) = 0
    rw [moS_a bo P w a n, if_neg (by omega)]
    omega
theorem put1 {K bo a y v w : Int} {f : Int → Int} (ha : 0 ≤ a ∧ a < K) (hy : 0 ≤ y ∧ y < K) (pb : PBj (fun l => atF f l K.toNat) K) : (if plB bo a f K v a < plB bo a f K v y then w else 0) = (if atF f a K.toNat < atF f y K.toNat then w else 0) + xand (xshr bo v) 1 * (if atF f y K.toNat < atF f a K.toNat then w else 0) ∧ (if plB bo a f K v y < plB bo a f K v a then w else 0) = (if atF f y K.toNat < atF f a K.toNat then w else 0) - xand (xshr bo v) 1 * (if atF f y K.toNat < atF f a K.toNat then w else 0) := by
  by_cases e : y = a
  · rw [e, if_neg (Int.lt_irrefl _), if_neg (Int.lt_irrefl _)]
    omega
  · have ba : 0 ≤ atF f a K.toNat ∧ atF f a K.toNat < K := pb.1 a ha.1 ha.2
    have bY : 0 ≤ atF f y K.toNat ∧ atF f y K.toNat < K := pb.1 y hy.1 hy.2
    have ne : atF f y K.toNat ≠ atF f a K.toNat := fun z => e (pb.2.1 y a hy.1 hy.2 ha.1 ha.2 z)
    by_cases q : xand (xshr bo v) 1 = 1
    · have ea : plB bo a f K v a = 0 := by unfold plB; rw [if_pos q, if_pos rfl]
      have ey : plB bo a f K v y = if atF f y K.toNat < atF f a K.toNat then atF f y K.toNat + 1 else atF f y K.toNat := by unfold plB; rw [if_pos q, if_neg e]
      rw [ea, ey, q]
      generalize atF f a K.toNat = pa at ba ne ⊢
      generalize atF f y K.toNat = py at bY ne ⊢
      constructor <;> (repeat' split) <;> omega
    · have q0 : xand (xshr bo v) 1 = 0 := by rcases xand01 (xshr bo v) with z | z; exact z; exact absurd z q
      have ea : ∀ l : Int, plB bo a f K v l = atF f l K.toNat := fun l => by unfold plB; rw [if_neg q]
      rw [ea, ea, q0]
      omega
theorem put_off {K bo a x y v w : Int} {f : Int → Int} (ha : 0 ≤ a ∧ a < K) (hx : 0 ≤ x ∧ x < K) (hy : 0 ≤ y ∧ y < K) (xa : x ≠ a) (ya : y ≠ a) (pb : PBj (fun l => atF f l K.toNat) K) : (if plB bo a f K v x < plB bo a f K v y then w else 0) = if atF f x K.toNat < atF f y K.toNat then w else 0 := by
  have nx : atF f x K.toNat ≠ atF f a K.toNat := fun z => xa (pb.2.1 x a hx.1 hx.2 ha.1 ha.2 z)
  have ny : atF f y K.toNat ≠ atF f a K.toNat := fun z => ya (pb.2.1 y a hy.1 hy.2 ha.1 ha.2 z)
  by_cases q : xand (xshr bo v) 1 = 1
  · have ey : ∀ l : Int, l ≠ a → plB bo a f K v l = if atF f l K.toNat < atF f a K.toNat then atF f l K.toNat + 1 else atF f l K.toNat := fun l hl => by unfold plB; rw [if_pos q, if_neg hl]
    rw [ey x xa, ey y ya]
    generalize atF f a K.toNat = pa at nx ny ⊢
    generalize atF f y K.toNat = py at ny ⊢
    generalize atF f x K.toNat = px at nx ⊢
    (repeat' split) <;> omega
  · have ea : ∀ l : Int, plB bo a f K v l = atF f l K.toNat := fun l => by unfold plB; rw [if_neg q]
    rw [ea, ea]
theorem ov_put {K n a y bo : Int} {w : Int → Int} {f : Int → Int → Int} (ha : 0 ≤ a ∧ a < K) (hV : ∀ v : Int, 0 ≤ v → v < n → PBj (fun l => atF (f v) l K.toNat) K) (hy : 0 ≤ y ∧ y < K) : ∀ k : Nat, (k : Int) ≤ n → ovF (fun v l => plB bo a (f v) K v l) w a y k = ovF (fun v l => atF (f v) l K.toNat) w a y k + moS bo (fun v l => atF (f v) l K.toNat) w a y k ∧ ovF (fun v l => plB bo a (f v) K v l) w y a k = ovF (fun v l => atF (f v) l K.toNat) w y a k - moS bo (fun v l => atF (f v) l K.toNat) w a y k
  | 0, _ => ⟨rfl, rfl⟩
  | k + 1, hk => by
    obtain ⟨i1, i2⟩ := ov_put (bo := bo) (w := w) ha hV hy k (by omega)
    obtain ⟨j1, j2⟩ := put1 (bo := bo) (v := (k : Int)) (w := w k) ha hy (hV k (by omega) (by omega))
    have e1 : ovF (fun v l => plB bo a (f v) K v l) w a y (k + 1) = ovF (fun v l => plB bo a (f v) K v l) w a y k + (if plB bo a (f k) K k a < plB bo a (f k) K k y then w k else 0) := rfl
    have e2 : ovF (fun v l => plB bo a (f v) K v l) w y a (k + 1) = ovF (fun v l => plB bo a (f v) K v l) w y a k + (if plB bo a (f k) K k y < plB bo a (f k) K k a then w k else 0) := rfl
    have e3 : ovF (fun v l => atF (f v) l K.toNat) w a y (k + 1) = ovF (fun v l => atF (f v) l K.toNat) w a y k + (if atF (f k) a K.toNat < atF (f k) y K.toNat then w k else 0) := rfl
    have e4 : ovF (fun v l => atF (f v) l K.toNat) w y a (k + 1) = ovF (fun v l => atF (f v) l K.toNat) w y a k + (if atF (f k) y K.toNat < atF (f k) a K.toNat then w k else 0) := rfl
    have e5 : moS bo (fun v l => atF (f v) l K.toNat) w a y (k + 1) = moS bo (fun v l => atF (f v) l K.toNat) w a y k + xand (xshr bo k) 1 * (if atF (f k) y K.toNat < atF (f k) a K.toNat then w k else 0) := rfl
    rw [e1, e2, e3, e4, e5, i1, i2, j1, j2]
    generalize xand (xshr bo k) 1 * (if atF (f k) y K.toNat < atF (f k) a K.toNat then w k else 0) = z
    omega
theorem ov_off {K n a x y bo : Int} {w : Int → Int} {f : Int → Int → Int} (ha : 0 ≤ a ∧ a < K) (hV : ∀ v : Int, 0 ≤ v → v < n → PBj (fun l => atF (f v) l K.toNat) K) (hx : 0 ≤ x ∧ x < K) (hy : 0 ≤ y ∧ y < K) (xa : x ≠ a) (ya : y ≠ a) : ∀ k : Nat, (k : Int) ≤ n → ovF (fun v l => plB bo a (f v) K v l) w x y k = ovF (fun v l => atF (f v) l K.toNat) w x y k
  | 0, _ => rfl
  | k + 1, hk => by
    have i1 := ov_off (bo := bo) (w := w) ha hV hx hy xa ya k (by omega)
    have j1 := put_off (bo := bo) (v := (k : Int)) (w := w k) ha hx hy xa ya (hV k (by omega) (by omega))
    show ovF (fun v l => plB bo a (f v) K v l) w x y k + (if plB bo a (f k) K k x < plB bo a (f k) K k y then w k else 0) = ovF (fun v l => atF (f v) l K.toNat) w x y k + (if atF (f k) x K.toNat < atF (f k) y K.toNat then w k else 0)
    rw [i1, j1]
/-- by merit: the place tells who is ahead -/
theorem om_ahead {mr : Int → Int} {K a b : Int} (hK : 2 ≤ K ∧ K ≤ 8) (ha : 0 ≤ a ∧ a < K) (hb : 0 ≤ b ∧ b < K) (ab : a ≠ b) : atF (omF mr K) a K.toNat < atF (omF mr K) b K.toNat ↔ amR mr a b := by
  have od := omF_OdR (mr := mr) hK
  have key : ∀ x y : Int, (0 ≤ x ∧ x < K) → (0 ≤ y ∧ y < K) → x ≠ y → amR mr x y → atF (omF mr K) x K.toNat < atF (omF mr K) y K.toNat := fun x y hx hy xy r => by
    have X := od.at' hx.1 hx.2
    have Y := od.at' hy.1 hy.2
    have cx := omF_cnt (mr := mr) (K := K) (by omega) X.1.1 X.1.2
    have cy := omF_cnt (mr := mr) (K := K) (by omega) Y.1.1 Y.1.2
    rw [X.2] at cx
    rw [Y.2] at cy
    have r' := amR_iff.mp r
    have m := cntI_more (f := fun q => q ≠ x ∧ amR mr q x) (g := fun q => q ≠ y ∧ amR mr q y) (y := x) hx.1 ⟨xy, r⟩ (fun z => z.1 rfl) K.toNat (by omega) (fun q q0 q1 hq => by
      have hq' := amR_iff.mp hq.2
      have h1 := hq.1
      refine ⟨fun z => ?_, amR_iff.mpr ?_⟩
      · rw [z] at hq'; omega
      · omega)
    omega
  constructor
  · intro h
    by_cases r : amR mr a b
    · exact r
    · have : amR mr b a := amR_iff.mpr (by
        have : ¬ (mr b < mr a ∨ (mr a = mr b ∧ a < b)) := fun z => r (amR_iff.mpr z)
        omega)
      have := key b a hb ha (fun z => ab z.symm) this
      omega
  · exact key a b ha hb ab
/-- the cheapest set of VOTERS that does it, among the first k -/
noncomputable def bst (pr : Nat → Int) (ah : Nat → Prop) : Nat → Int
  | 0 => -1
  | k + 1 => @ite _ ((bst pr ah k = -1 ∨ pr k < pr (bst pr ah k).toNat ∨ (pr k = pr (bst pr ah k).toNat ∧ pcF k 20 < pcF (bst pr ah k).toNat 20)) ∧ ah k) (Classical.propDecidable _) (k : Int) (bst pr ah k)
theorem bst_bd (pr : Nat → Int) (ah : Nat → Prop) : ∀ k : Nat, -1 ≤ bst pr ah k ∧ bst pr ah k < k
  | 0 => by show (-1 : Int) ≤ -1 ∧ (-1 : Int) < ((0 : Nat) : Int); decide
  | k + 1 => by
    have ih := bst_bd pr ah k
    unfold bst
    by_cases c : (bst pr ah k = -1 ∨ pr k < pr (bst pr ah k).toNat ∨ (pr k = pr (bst pr ah k).toNat ∧ pcF k 20 < pcF (bst pr ah k).toNat 20)) ∧ ah k
    · rw [if_pos c]; omega
    · rw [if_neg c]; omega
theorem bst_t {pr : Nat → Int} {ah : Nat → Prop} {k : Nat} (c : (bst pr ah k = -1 ∨ pr k < pr (bst pr ah k).toNat ∨ (pr k = pr (bst pr ah k).toNat ∧ pcF k 20 < pcF (bst pr ah k).toNat 20)) ∧ ah k) : bst pr ah (k + 1) = k := if_pos c
theorem bst_f {pr : Nat → Int} {ah : Nat → Prop} {k : Nat} (c : ¬ ((bst pr ah k = -1 ∨ pr k < pr (bst pr ah k).toNat ∨ (pr k = pr (bst pr ah k).toNat ∧ pcF k 20 < pcF (bst pr ah k).toNat 20)) ∧ ah k)) : bst pr ah (k + 1) = bst pr ah k := if_neg c
/-- bits of sets -/
theorem xsub {m n : Nat} (hm : m < 256) (hn : n < 256) : ∃ q : Nat, xand (m : Int) (xxor (n : Int) (-1)) = (q : Int) ∧ q ≤ m ∧ ∀ j : Nat, q.testBit j = true ↔ m.testBit j = true ∧ n.testBit j = false := by
  obtain ⟨x, hx⟩ : ∃ x : Int32, x = nI m &&& (nI n ^^^ (-1)) := ⟨_, rfl⟩
  have xb : x.toBitVec.toNat = m &&& (n ^^^ (2 ^ 32 - 1)) := by
    rw [hx, Int32.toBitVec_and, BitVec.toNat_and, Int32.toBitVec_xor, BitVec.toNat_xor, nI_bits (by omega), nI_bits (by omega)]
    rfl
  have le : m &&& (n ^^^ (2 ^ 32 - 1)) ≤ m := Nat.and_le_left
  refine ⟨m &&& (n ^^^ (2 ^ 32 - 1)), ?_, le, fun j => ?_⟩
  · have e1 : xxor (n : Int) (-1) = (nI n ^^^ (-1)).toInt := by
      unfold xxor
      rw [oI_nat]
      rfl
    rw [e1]
    unfold xand
    rw [oI_nat, Int32.ofInt_toInt, ← hx, nI_ofBits xb, nI_back (by omega)]
  · rw [Nat.testBit_and, Nat.testBit_xor, Nat.testBit_two_pow_sub_one]
    constructor
    · intro z
      rw [Bool.and_eq_true] at z
      have j8 := b256 hm z.1
      have z2 := z.2
      rw [decide_eq_true (by omega : j < 32)] at z2
      refine ⟨z.1, ?_⟩
      cases w : n.testBit j with
      | false => rfl
      | true => rw [w] at z2; exact absurd z2 (by decide)
    · rintro ⟨z1, z2⟩
      have j8 := b256 hm z1
      rw [z1, z2, decide_eq_true (by omega : j < 32)]
      rfl
theorem low_all : ∀ m : Fin 256, m.val ≠ 0 → ∃ l : Fin 8, m.val.testBit l.val = true ∧ xand ((m.val : Nat) : Int) (((m.val : Nat) : Int) - 1) = ((clr m.val l.val : Nat) : Int) ∧ xxor ((m.val : Nat) : Int) ((clr m.val l.val : Nat) : Int) - 1 = ((2 ^ l.val - 1 : Nat) : Int) ∧ pcF (2 ^ l.val - 1) 20 = l.val := by decide +kernel
theorem ones_all : ∀ h l : Fin 64, 64 * h.val + l.val ≠ 0 → ((64 * h.val + l.val) &&& (64 * h.val + l.val - 1)) < 64 * h.val + l.val ∧ pcF ((64 * h.val + l.val) &&& (64 * h.val + l.val - 1)) 20 + 1 = pcF (64 * h.val + l.val) 20 := by decide +kernel
theorem ones_m {m : Nat} (hm : m < 4096) (h0 : m ≠ 0) : (m &&& (m - 1)) < m ∧ pcF (m &&& (m - 1)) 20 + 1 = pcF m 20 := by
  have := ones_all ⟨m / 64, by omega⟩ ⟨m % 64, by omega⟩
  simp only at this
  rw [show 64 * (m / 64) + m % 64 = m by omega] at this
  exact this h0
theorem pc8_all : ∀ m : Fin 256, pcF m.val 8 ≤ 8 ∧ pcF m.val 20 = pcF m.val 8 := by decide +kernel
theorem pcF_le (n : Nat) : ∀ k : Nat, pcF n k ≤ k
  | 0 => Nat.le_refl 0
  | k + 1 => by
    have ih := pcF_le n k
    have m := Nat.mod_lt (n / 2 ^ k) (by decide : 0 < 2)
    show pcF n k + n / 2 ^ k % 2 ≤ k + 1
    omega
theorem clr_bits' {m l j : Nat} (hm : m < 256) (hl : l < 8) : (clr m l).testBit j = true ↔ m.testBit j = true ∧ j ≠ l := by
  by_cases h : j < 8
  · exact clr_bit hm hl h
  · have cl := clr_le hm hl
    rw [bit_big (n := 8) (by omega) (by omega), bit_big (n := 8) (M := m) (by omega) (by omega)]
    simp
theorem Cut.uniq {A p q q' : Nat} (h : Cut A p q) (h' : Cut A p q') : q' = q := by
  refine Nat.eq_of_testBit_eq (fun i => ?_)
  have e : q'.testBit i = true ↔ q.testBit i = true := by rw [h.2, h'.2]
  cases a : q'.testBit i <;> cases b : q.testBit i <;> simp [a, b] at e <;> rfl
theorem Cut.ex {A p : Nat} (hA : A < 256) (hp : p < 256) (h : ∀ j : Nat, p.testBit j = true → A.testBit j = true) : ∃ q : Nat, xand (A : Int) (xxor (p : Int) (-1)) = (q : Int) ∧ Cut A p q := by
  obtain ⟨q, q1, _, q3⟩ := xsub hA hp
  exact ⟨q, q1, h, q3⟩
theorem sub_iff {A p : Nat} (hA : A < 256) (hp : p < 256) : xand (p : Int) (xxor (A : Int) (-1)) = 0 ↔ ∀ j : Nat, p.testBit j = true → A.testBit j = true := by
  obtain ⟨q, q1, _, q3⟩ := xsub hp hA
  rw [q1]
  constructor
  · intro z j hj
    have z' : q = 0 := by omega
    cases w : A.testBit j with
    | true => rfl
    | false =>
      have := (q3 j).mpr ⟨hj, w⟩
      rw [z', Nat.zero_testBit] at this
      exact absurd this (by decide)
  · intro h
    have : q = 0 := by
      refine Nat.eq_of_testBit_eq (fun i => ?_)
      rw [Nat.zero_testBit]
      cases w : q.testBit i with
      | false => rfl
      | true =>
        have g := (q3 i).mp w
        have := h i g.1
        rw [g.2] at this
        exact absurd this (by decide)
    omega
theorem sub_le {A p : Nat} (hA : A < 256) (hp : p < 256) (h : ∀ j : Nat, p.testBit j = true → A.testBit j = true) : p ≤ A := by
  have e : p = A &&& p := by
    refine Nat.eq_of_testBit_eq (fun i => ?_)
    rw [Nat.testBit_and]
    cases w : p.testBit i with
    | false => simp
    | true => rw [h i w]; rfl
  rw [e]
  exact Nat.and_le_left
/-- bounds of what hangs on a cut -/
theorem sov_gb {g : Int → Int → Int} {m : Nat} {x K : Int} (h : ∀ b : Int, 0 ≤ b → b < K → -864 ≤ g x b ∧ g x b ≤ 864) : ∀ k : Nat, (k : Int) ≤ K → -(864 * (k : Int)) ≤ sovF g m x k ∧ sovF g m x k ≤ 864 * k
  | 0, _ => by show -(864 * ((0 : Nat) : Int)) ≤ 0 ∧ (0 : Int) ≤ 864 * ((0 : Nat) : Int); decide
  | k + 1, hk => by
    have ih := sov_gb (m := m) h k (by omega)
    have b := h k (by omega) (by omega)
    show -(864 * ((k + 1 : Nat) : Int)) ≤ sovF g m x k + (if m.testBit k = true then g x k else 0) ∧ sovF g m x k + (if m.testBit k = true then g x k else 0) ≤ 864 * ((k + 1 : Nat) : Int)
    by_cases q : m.testBit k = true
    · rw [if_pos q]; omega
    · rw [if_neg q]; omega
theorem cutX_bd {ov ov2 : Int → Int → Int} {K a : Int} {p q : Nat} (h : ∀ a b : Int, 0 ≤ a → a < K → 0 ≤ b → b < K → 0 ≤ ov a b ∧ ov a b ≤ 108) (h2 : ∀ a b : Int, 0 ≤ a → a < K → 0 ≤ b → b < K → 0 ≤ ov2 a b ∧ ov2 a b ≤ 108) (hK : 0 ≤ K ∧ K ≤ 8) (ha : 0 ≤ a ∧ a < K) : (-6912 ≤ sovF (fun _ x => sovF ov q x K.toNat) p 0 K.toNat ∧ sovF (fun _ x => sovF ov q x K.toNat) p 0 K.toNat ≤ 6912) ∧ -6912 ≤ sovF (fun _ x => ov2 x a - ov2 a x) p 0 K.toNat ∧ sovF (fun _ x => ov2 x a - ov2 a x) p 0 K.toNat ≤ 6912 := by
  have b1 := sov_gb (g := fun _ x => sovF ov q x K.toNat) (m := p) (x := 0) (K := K) (fun b b0 b1 => by
    have := sovF_bd (m := q) (a := b) (K := K) (fun y y0 y1 => h b y b0 b1 y0 y1) K.toNat (by omega)
    show -864 ≤ sovF ov q b K.toNat ∧ sovF ov q b K.toNat ≤ 864
    omega) K.toNat (by omega)
  have b2 := sov_gb (g := fun _ x => ov2 x a - ov2 a x) (m := p) (x := 0) (K := K) (fun b b0 b1 => by
    have u := h2 b a b0 b1 ha.1 ha.2
    have v := h2 a b ha.1 ha.2 b0 b1
    show -864 ≤ ov2 b a - ov2 a b ∧ ov2 b a - ov2 a b ≤ 864
    omega) K.toNat (by omega)
  omega
theorem cutO_bd {ov : Int → Int → Int} {K a : Int} {M A p q : Nat} (h : ∀ a b : Int, 0 ≤ a → a < K → 0 ≤ b → b < K → 0 ≤ ov a b ∧ ov a b ≤ 108) (hK : 0 ≤ K ∧ K ≤ 8) (hM : M < 2 ^ K.toNat) (a0 : 0 ≤ a) (am : M.testBit a.toNat = true) (hA' : ∀ j : Nat, A.testBit j = true ↔ M.testBit j = true ∧ j ≠ a.toNat) (c : Cut A p q) : (0 ≤ cutO ov K a p q ∧ cutO ov K a p q < 16777216) ∧ pcF p 8 + pcF q 8 ≤ 7 := by
  have p2 := pow_256 hK.2
  have hA : A < 2 ^ K.toNat := sub_bd hM (fun j hj => ((hA' j).mp hj).1)
  obtain ⟨la, l3, _⟩ := nearB h hK A A (Nat.le_refl _) hA
  obtain ⟨bp, bq, b1, b2, b3, b4, b5, _⟩ := cut_best (ov2 := ov) h hK hA a0 am hA' (fun _ _ _ _ _ _ _ _ => rfl) l3 c
  have pb := c.bd hA
  have e1 := LtS.len _ _ (by omega) b1
  have e2 := LtS.len _ _ (by omega) b2
  have e3 := LtS.len _ _ (by omega) b3
  have e4 := (pc8_all ⟨M, by omega⟩).1
  simp only at e4
  rw [List.length_append, List.length_cons] at e3
  have bd := pkl_bd _ (b3.dig (by omega))
  rw [b5] at bd
  have le : (8 : Int) ^ (bp ++ a :: bq).length ≤ 8 ^ 8 := by
    have : (8 : Nat) ^ (bp ++ a :: bq).length ≤ 8 ^ 8 := Nat.pow_le_pow_right (by decide) (by rw [List.length_append, List.length_cons]; omega)
    have e : ((8 ^ (bp ++ a :: bq).length : Nat) : Int) = 8 ^ (bp ++ a :: bq).length := by rw [Int.natCast_pow]; rfl
    omega
  omega
/-- an ORDER put together -/
theorem or_cut {n m : Nat} {P a Q : Int} (hm : m + n ≤ 7) (hP : 0 ≤ P ∧ P < 8 ^ m) (ha : 0 ≤ a ∧ a < 8) (hQ : 0 ≤ Q ∧ Q < 8 ^ n) : xor_ (xor_ (xshl P (3 * (n : Int) + 3)) (xshl a (3 * (n : Int)))) Q = P * 8 ^ (n + 1) + (a * 8 ^ n + Q) := by
  obtain ⟨p, rfl⟩ := Int.eq_ofNat_of_zero_le hP.1
  obtain ⟨x, rfl⟩ := Int.eq_ofNat_of_zero_le ha.1
  obtain ⟨q, rfl⟩ := Int.eq_ofNat_of_zero_le hQ.1
  have p8 : ∀ k : Nat, (8 : Int) ^ k = ((2 ^ (3 * k) : Nat) : Int) := fun k => by rw [Nat.pow_mul]; simp
  rw [p8] at hP hQ
  have s1 : (2 : Nat) ^ (3 * m) * 2 ^ (3 * n + 3) ≤ 2 ^ 24 := by rw [← Nat.pow_add]; exact Nat.pow_le_pow_right (by decide) (by omega)
  have s2 : p * 2 ^ (3 * n + 3) < 2 ^ 24 := by
    have : p * 2 ^ (3 * n + 3) < 2 ^ (3 * m) * 2 ^ (3 * n + 3) := Nat.mul_lt_mul_of_pos_right (by omega) (Nat.pow_pos (by decide))
    omega
  have s3 : (2 : Nat) ^ (3 * n) ≤ 2 ^ 21 := Nat.pow_le_pow_right (by decide) (by omega)
  have s4 : x * 2 ^ (3 * n) ≤ 7 * 2 ^ (3 * n) := Nat.mul_le_mul_right _ (by omega)
  have e3 : (2 : Nat) ^ (3 * n + 3) = 8 * 2 ^ (3 * n) := by rw [Nat.pow_add]; omega
  have h1 : xshl (p : Int) (3 * (n : Int) + 3) = ((p * 2 ^ (3 * n + 3) : Nat) : Int) := by
    have := xshl_nat (n := p) (b := 3 * n + 3) (by omega) (by omega)
    rw [show ((3 * n + 3 : Nat) : Int) = 3 * (n : Int) + 3 by omega] at this
    exact this
  have h2 : xshl (x : Int) (3 * (n : Int)) = ((x * 2 ^ (3 * n) : Nat) : Int) := by
    have := xshl_nat (n := x) (b := 3 * n) (by omega) (by omega)
    rw [show ((3 * n : Nat) : Int) = 3 * (n : Int) by omega] at this
    exact this
  have c1 : ∀ k : Nat, ((2 ^ k : Nat) : Int) = 2 ^ k := fun k => by rw [Int.natCast_pow]; rfl
  rw [h1, h2, xor_add (a := ((p * 2 ^ (3 * n + 3) : Nat) : Int)) (b := ((x * 2 ^ (3 * n) : Nat) : Int)) (3 * n + 3) (by omega) (by omega) (by rw [Int.natCast_mul, Int.natCast_pow]; exact Int.mul_emod_left _ _) (by omega) (by rw [← c1]; omega) (by omega)]
  rw [xor_add (3 * n) (by omega) (by omega) (by
    rw [e3, show ((p * (8 * 2 ^ (3 * n)) : Nat) : Int) + ((x * 2 ^ (3 * n) : Nat) : Int) = (((p * 8 + x) * 2 ^ (3 * n) : Nat) : Int) by
      rw [← Int.natCast_add, ← Nat.mul_assoc, ← Nat.add_mul], Int.natCast_mul, Int.natCast_pow]
    exact Int.mul_emod_left _ _) (by omega) (by rw [← c1]; omega) (by omega)]
  rw [p8, p8, show 3 * (n + 1) = 3 * n + 3 by omega, Int.natCast_mul, Int.natCast_mul]
  omega
