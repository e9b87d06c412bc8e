/-! WHAT A PLACE GETS -/
/-- which one of the QUEUE a place is, at a SITE's SIDE -/
def sdI (sd n x : Int) : Int := if sd = 0 then x else n - 1 - x
def gV (sd fi le ma n x : Int) : Int := if sdI sd n x < ma then (if 0 < fi then max 0 (fi - sdI sd n x * le) else min 0 (fi + sdI sd n x * le)) else 0
/-- the first k SITES together -/
def psm (sd fi le ma : Int → Int) (n x : Int) : Nat → Int
  | 0 => 0
  | k + 1 => psm sd fi le ma n x k + gV (sd k) (fi k) (le k) (ma k) n x
theorem mul_bd {i le : Int} (h1 : 0 ≤ i ∧ i ≤ 20) (h2 : 0 ≤ le ∧ le ≤ 99) : 0 ≤ i * le ∧ i * le ≤ 1980 := by
  refine ⟨Int.mul_nonneg h1.1 h2.1, ?_⟩
  have a : i * le ≤ 20 * le := Int.mul_le_mul_of_nonneg_right h1.2 h2.1
  omega
theorem gV_bd {sd fi le ma n x : Int} (hs : sd = 0 ∨ sd = 1) (hf : -99 ≤ fi ∧ fi ≤ 99) (hl : 0 ≤ le ∧ le ≤ 99) (hx : 0 ≤ x ∧ x < n) (hn : n ≤ 20) : -99 ≤ gV sd fi le ma n x ∧ gV sd fi le ma n x ≤ 99 := by
  have hi : 0 ≤ sdI sd n x ∧ sdI sd n x ≤ 20 := by
    unfold sdI
    split <;> omega
  have hb := mul_bd hi hl
  unfold gV
  split
  · split <;> omega
  · omega
theorem psm_bd {sd fi le ma : Int → Int} {n x : Int} (h : ∀ j : Int, 0 ≤ j → j < 6 → (sd j = 0 ∨ sd j = 1) ∧ (-99 ≤ fi j ∧ fi j ≤ 99) ∧ (0 ≤ le j ∧ le j ≤ 99)) (hx : 0 ≤ x ∧ x < n) (hn : n ≤ 20) : ∀ k : Nat, k ≤ 6 → -99 * (k : Int) ≤ psm sd fi le ma n x k ∧ psm sd fi le ma n x k ≤ 99 * (k : Int) := by
  intro k
  induction k with
  | zero => intro _; exact ⟨Int.le_refl 0, Int.le_refl 0⟩
  | succ k ih =>
    intro hk
    have g := ih (by omega)
    have hj := h k (by omega) (by omega)
    have b := gV_bd (ma := ma k) hj.1 hj.2.1 hj.2.2 hx hn
    show -99 * ((k + 1 : Nat) : Int) ≤ psm sd fi le ma n x k + gV (sd k) (fi k) (le k) (ma k) n x ∧ _
    constructor
    · omega
    · show psm sd fi le ma n x k + gV (sd k) (fi k) (le k) (ma k) n x ≤ _
      omega
theorem psm_congr {sd fi le ma sd' fi' le' ma' : Int → Int} {n x : Int} : ∀ k : Nat, (∀ j : Int, 0 ≤ j → j < k → sd j = sd' j ∧ fi j = fi' j ∧ le j = le' j ∧ ma j = ma' j) → psm sd fi le ma n x k = psm sd' fi' le' ma' n x k := by
  intro k
  induction k with
  | zero => intro _; rfl
  | succ k ih =>
    intro h
    have e := h k (by omega) (by omega)
    show psm sd fi le ma n x k + gV (sd k) (fi k) (le k) (ma k) n x = psm sd' fi' le' ma' n x k + gV (sd' k) (fi' k) (le' k) (ma' k) n x
    rw [ih (fun j j1 j2 => h j j1 (by omega)), e.1, e.2.1, e.2.2.1, e.2.2.2]
set_option maxHeartbeats 2000000 in
theorem t_X12_getsAt {k x : Int} {s : Sto} (hk : 0 ≤ k ∧ k < 6) (hs : s 83 k = 0 ∨ s 83 k = 1) (hf : -99 ≤ s 84 k ∧ s 84 k ≤ 99) (hl : 0 ≤ s 85 k ∧ s 85 k ≤ 99) (hm : 0 ≤ s 86 k ∧ s 86 k ≤ 20) (hn : 0 ≤ s 75 4 ∧ s 75 4 ≤ 20) (hx : 0 ≤ x ∧ x < s 75 4) : ClI LY 0 MX12_getsAt [.inr 75, .inl k, .inl x] s (fun r s' => s' = s ∧ r = gV (s 83 k) (s 84 k) (s 85 k) (s 86 k) (s 75 4) x) := by
  refine ClI.intro (by decide) rfl (Nat.le_of_ble_eq_true rfl) (fun X C r => ?_)
  refine kb_X12_getsAt_0 C r ?_
  have b1 := mul_bd (i := x) (by omega) hl
  have b2 := mul_bd (i := s 75 4 - 1 - x) (by omega) hl
  have key : ∀ v : Int, ((s 83 k = 0 → (x < s 86 k ∧ 0 < s 84 k ∧ 0 ≤ s 84 k - x * s 85 k ∧ v = s 84 k - x * s 85 k) ∨ (x < s 86 k ∧ 0 < s 84 k ∧ s 84 k - x * s 85 k < 0 ∧ v = 0) ∨ (x < s 86 k ∧ s 84 k ≤ 0 ∧ s 84 k + x * s 85 k ≤ 0 ∧ v = s 84 k + x * s 85 k) ∨ (x < s 86 k ∧ s 84 k ≤ 0 ∧ 0 < s 84 k + x * s 85 k ∧ v = 0) ∨ (s 86 k ≤ x ∧ v = 0)) ∧ (s 83 k ≠ 0 → (s 75 4 - 1 - x < s 86 k ∧ 0 < s 84 k ∧ 0 ≤ s 84 k - (s 75 4 - 1 - x) * s 85 k ∧ v = s 84 k - (s 75 4 - 1 - x) * s 85 k) ∨ (s 75 4 - 1 - x < s 86 k ∧ 0 < s 84 k ∧ s 84 k - (s 75 4 - 1 - x) * s 85 k < 0 ∧ v = 0) ∨ (s 75 4 - 1 - x < s 86 k ∧ s 84 k ≤ 0 ∧ s 84 k + (s 75 4 - 1 - x) * s 85 k ≤ 0 ∧ v = s 84 k + (s 75 4 - 1 - x) * s 85 k) ∨ (s 75 4 - 1 - x < s 86 k ∧ s 84 k ≤ 0 ∧ 0 < s 84 k + (s 75 4 - 1 - x) * s 85 k ∧ v = 0) ∨ (s 86 k ≤ s 75 4 - 1 - x ∧ v = 0))) → v = gV (s 83 k) (s 84 k) (s 85 k) (s 86 k) (s 75 4) x := by
    intro v hv
    unfold gV sdI
    by_cases q : s 83 k = 0
    · have hv := hv.1 q
      rw [if_pos q]
      by_cases q2 : x < s 86 k
      · rw [if_pos q2]
        by_cases q3 : 0 < s 84 k
        · rw [if_pos q3]; omega
        · rw [if_neg q3]; omega
      · rw [if_neg q2]; omega
    · have hv := hv.2 q
      rw [if_neg q]
      by_cases q2 : s 75 4 - 1 - x < s 86 k
      · rw [if_pos q2]
        by_cases q3 : 0 < s 84 k
        · rw [if_pos q3]; omega
        · rw [if_neg q3]; omega
      · rw [if_neg q2]; omega
  (repeat' (first | exact rfl | refine ⟨?_, ?_⟩ | intro _)) <;> (first | rfl | omega | (refine key _ ?_; clear key; omega))
set_option maxHeartbeats 2000000 in
theorem t_X12_findsWorths {o : Int} {oo : Int} {s : Sto} (hb : s 75 22 = 0 ∨ s 75 22 = 1) (ho : 0 ≤ o ∧ o < 21) (hO : OdR (s 75 9) oo (fun i => begS s 81 (8 * o + i))) (hn : 0 ≤ s 75 4 ∧ s 75 4 ≤ 20) (hN : ∀ p : Int, 0 ≤ p → p < s 75 4 → (0 ≤ s 76 p ∧ s 76 p ≤ 6) ∧ ∀ i : Int, 0 ≤ i → i < s 76 p → 0 ≤ s 77 (6 * p + i) ∧ s 77 (6 * p + i) < 26) (hw : 0 ≤ s 82 0 ∧ s 82 0 ≤ 2) (hw1 : 0 ≤ s 82 1 ∧ s 82 1 ≤ 2) (hA : ∀ p : Int, 0 ≤ p → p < s 75 4 → rg (s 79 p) ∧ rg (s 80 p)) (hS : ∀ j : Int, 0 ≤ j → j < 6 → (s 83 j = 0 ∨ s 83 j = 1) ∧ (-99 ≤ s 84 j ∧ s 84 j ≤ 99) ∧ (0 ≤ s 85 j ∧ s 85 j ≤ 99) ∧ (0 ≤ s 86 j ∧ s 86 j ≤ 20)) : ClV LY 4 MX12_findsWorths [.inr 75, .inl o] s (fun s' => (∀ c : Nat, c ≠ 101 → c ≠ 102 → c ≠ 103 → s' c = begS s c) ∧ PlR (s 75 9) (fun i => begS s 81 (8 * o + i)) (s' 101) ∧ RowR (s' 102) (s 75 4) (srtL (AHR (fun p => sfx (rkF (s 75 9) (s 82 0) (s' 101)) (fun i => s 77 (6 * p + i)) (s 76 p) (s 76 p).toNat) (s 82 1) (s 79) (s 80)) (s 75 4).toNat) ∧ ∀ i : Int, 0 ≤ i → i < s 75 4 → s' 103 (s' 102 i) = psm (s 83) (s 84) (s 85) (s 86) (s 75 4) i 6) := by
  refine ClV.intro (by decide) rfl (Nat.le_of_ble_eq_true rfl) (fun X C r => ?_)
  refine kb_X12_findsWorths_0 C r ?_
  refine ⟨3, _, by decide, t_X12_queues hb ho hO hn hN hw hw1 hA, ?_⟩
  rintro u ⟨hu, hP, hR⟩
  have e75 : ∀ i : Int, i ≠ 22 → u 75 i = s 75 i := fun i g => by rw [hu 75 (by decide) (by decide), begS_75 g]
  have er : ∀ c : Nat, c ≠ 75 → c ≠ 81 → c ≠ 101 → c ≠ 102 → u c = s c := fun c g1 g2 g3 g4 => by rw [hu c g3 g4, begS_row g1 g2]
  have hR' : RowR (u 102) ((s 75 4).toNat : Nat) (srtL (AHR (fun p => sfx (rkF (s 75 9) (s 82 0) (u 101)) (fun i => s 77 (6 * p + i)) (s 76 p) (s 76 p).toNat) (s 82 1) (s 79) (s 80)) (s 75 4).toNat) := by rw [Int.toNat_of_nonneg hn.1]; exact hR
  suffices H : ∀ S : Sto, ((∀ c : Nat, c ≠ 103 → S c = u c) ∧ ∀ j : Int, 0 ≤ j → j < 0 → S 103 (u 102 j) = psm (s 83) (s 84) (s 85) (s 86) (s 75 4) j 6) → G LY X 7 [rv 75, iv o, iv 0, none, none] [] S from H u ⟨fun _ _ => rfl, fun j g1 g2 => absurd g2 (by omega)⟩
  refine downI (P := fun i => ∀ S : Sto, ((∀ c : Nat, c ≠ 103 → S c = u c) ∧ ∀ j : Int, 0 ≤ j → j < i → S 103 (u 102 j) = psm (s 83) (s 84) (s 85) (s 86) (s 75 4) j 6) → G LY X 7 [rv 75, iv o, iv i, none, none] [] S) (a := 0) (b := s 75 4) hn.1 ?_ ?_
  · rintro S ⟨k1, k2⟩
    have e4 : S 75 4 = s 75 4 := by rw [k1 75 (by decide), e75 4 (by decide)]
    refine kb_X12_findsWorths_7 C r ⟨⟨⟨by omega, by omega⟩, by rw [e4]; exact ⟨by omega, by omega⟩⟩, fun _ => ⟨fun c c1 c2 c3 => by rw [k1 c c3, hu c c1 c2], by rw [k1 101 (by decide)]; exact hP, ?_, fun i i1 i2 => by rw [k1 102 (by decide)]; exact k2 i i1 i2⟩, fun z => absurd z (by omega)⟩
    rw [k1 101 (by decide), k1 102 (by decide)]
    exact hR
  · rintro i i1 i2 ih S ⟨k1, k2⟩
    have e4 : S 75 4 = s 75 4 := by rw [k1 75 (by decide), e75 4 (by decide)]
    have e102 : S 102 i = u 102 i := by rw [k1 102 (by decide)]
    have hb2 := hR'.bd i1 (by omega)
    have es : ∀ c : Nat, 83 ≤ c → c ≤ 86 → S c = s c := fun c g1 g2 => by rw [k1 c (by omega), er c (by omega) (by omega) (by omega) (by omega)]
    refine kb_X12_findsWorths_7 C r ⟨⟨⟨by omega, by omega⟩, by rw [e4]; exact ⟨by omega, by omega⟩⟩, fun z => absurd z (by omega), fun _ => ?_⟩
    refine (show G LY X 20 [rv 75, iv o, iv i, iv (psm (s 83) (s 84) (s 85) (s 86) (s 75 4) i (0 : Int).toNat), iv 0] [] S from downI (P := fun k => G LY X 20 [rv 75, iv o, iv i, iv (psm (s 83) (s 84) (s 85) (s 86) (s 75 4) i k.toNat), iv k] [] S) (a := 0) (b := 6) (by decide) ?_ ?_)
    · refine kb_X12_findsWorths_20 C r ⟨by decide, fun _ => ⟨⟨by omega, by omega⟩, by rw [e102]; exact ⟨by omega, by omega⟩, ?_⟩, fun z => absurd z (by decide)⟩
      rintro t1 rfl
      rw [e102]
      refine ih _ ⟨fun c g => by rw [up_row g, k1 c g], fun j j1 j2 => ?_⟩
      rw [up_if]
      by_cases q : j = i
      · rw [q, if_pos rfl]; rfl
      · rw [if_neg (fun z => q (hR'.inj j1 (by omega) i1 (by omega) z)), k2 j j1 (by omega)]
    · intro k k1' k2' ihk
      have hj := hS k k1' k2'
      refine kb_X12_findsWorths_20 C r ⟨⟨by omega, by omega⟩, fun z => absurd z (by omega), fun _ => ?_⟩
      refine ⟨0, _, by decide, t_X12_getsAt ⟨k1', k2'⟩ (by rw [es 83 (by omega) (by omega)]; exact hj.1) (by rw [es 84 (by omega) (by omega)]; exact hj.2.1) (by rw [es 85 (by omega) (by omega)]; exact hj.2.2.1) (by rw [es 86 (by omega) (by omega)]; exact hj.2.2.2) (by rw [e4]; exact hn) (by rw [e4]; exact ⟨i1, i2⟩), ?_⟩
      rintro g t2 ⟨ht, hg⟩
      rw [ht]
      rw [es 83 (by omega) (by omega), es 84 (by omega) (by omega), es 85 (by omega) (by omega), es 86 (by omega) (by omega), e4] at hg
      have : psm (s 83) (s 84) (s 85) (s 86) (s 75 4) i (k + 1).toNat = psm (s 83) (s 84) (s 85) (s 86) (s 75 4) i k.toNat + g := by
        rw [show (k + 1).toNat = k.toNat + 1 by omega, hg]
        show _ + gV (s 83 (k.toNat : Nat)) (s 84 (k.toNat : Nat)) (s 85 (k.toNat : Nat)) (s 86 (k.toNat : Nat)) (s 75 4) i = _
        rw [Int.toNat_of_nonneg k1']
      rw [this] at ihk
      exact ihk
