/-! REST: a round, in the class -/
noncomputable def stpF (t : Sto) (od : Int → Int) (g p : Int) : Sto := if cho t od g p = -1 then t else mvN t (20 + cho t od g p) p
noncomputable def rnS (t : Sto) (od : Int → Int) (g : Int) : Nat → Sto
  | 0 => t
  | k + 1 => stpF (rnS t od g k) od g k
noncomputable def rnN (t : Sto) (od : Int → Int) (g : Int) : Nat → Int
  | 0 => 0
  | k + 1 => rnN t od g k + if cho (rnS t od g k) od g k = -1 then 0 else 1
theorem rnS_s (t : Sto) (od : Int → Int) (g : Int) {k : Int} (hk : 0 ≤ k) : rnS t od g (k + 1).toNat = stpF (rnS t od g k.toNat) od g k := by
  obtain ⟨n, rfl⟩ := Int.eq_ofNat_of_zero_le hk
  rfl
theorem rnN_s (t : Sto) (od : Int → Int) (g : Int) {k : Int} (hk : 0 ≤ k) : rnN t od g (k + 1).toNat = rnN t od g k.toNat + if cho (rnS t od g k.toNat) od g k = -1 then 0 else 1 := by
  obtain ⟨n, rfl⟩ := Int.eq_ofNat_of_zero_le hk
  rfl
theorem rnN_bd (t : Sto) (od : Int → Int) (g : Int) : ∀ k : Nat, 0 ≤ rnN t od g k ∧ rnN t od g k ≤ k
  | 0 => by
    show (0 : Int) ≤ 0 ∧ (0 : Int) ≤ ((0 : Nat) : Int)
    decide
  | k + 1 => by
    have ih := rnN_bd t od g k
    show 0 ≤ rnN t od g k + (if cho (rnS t od g k) od g k = -1 then 0 else 1) ∧ rnN t od g k + (if cho (rnS t od g k) od g k = -1 then 0 else 1) ≤ ((k + 1 : Nat) : Int)
    by_cases q : cho (rnS t od g k) od g k = -1
    · rw [if_pos q]; omega
    · rw [if_neg q]; omega
/-- whose NAME is changed, whose isn't -/
theorem sqS_mv {t : Sto} {a p q : Int} {pl : Int → Int} (ha : nmB t a) (hq : nmB t q) : keyN 6 (sqS (mvN t a p) pl q) = if q = p then keyN 6 (sfx (rkF (t 75 9) (t 82 0) pl) (fun i => t 77 (6 * a + i)) (t 76 a) (t 76 a).toNat) else keyN 6 (sqS t pl q) := by
  show keyN 6 (sfx (rkF (mvN t a p 75 9) (mvN t a p 82 0) pl) (fun i => mvN t a p 77 (6 * q + i)) (mvN t a p 76 q) (mvN t a p 76 q).toNat) = _
  rw [mvN_o (c := 75) (by decide) (by decide), mvN_o (c := 82) (by decide) (by decide), mvN_76, mvN_77]
  show keyN 6 (sfx (rkF (t 75 9) (t 82 0) pl) (fun i => if 6 * p ≤ 6 * q + i ∧ 6 * q + i < 6 * p + 6 then t 77 (6 * a + (6 * q + i - 6 * p)) else t 77 (6 * q + i)) (if q = p then t 76 a else t 76 q) (if q = p then t 76 a else t 76 q).toNat) = _
  have b1 := ha.1
  have b2 := hq.1
  by_cases z : q = p
  · rw [if_pos z, if_pos z]
    refine congrArg (keyN 6) (sfx_congr _ (by omega) (fun k k0 k1 => ?_))
    show rkF (t 75 9) (t 82 0) pl (if 6 * p ≤ 6 * q + k ∧ 6 * q + k < 6 * p + 6 then t 77 (6 * a + (6 * q + k - 6 * p)) else t 77 (6 * q + k)) = _
    rw [if_pos (by omega), show 6 * a + (6 * q + k - 6 * p) = 6 * a + k by omega]
  · rw [if_neg z, if_neg z]
    refine congrArg (keyN 6) (sfx_congr _ (by omega) (fun k k0 k1 => ?_))
    show rkF (t 75 9) (t 82 0) pl (if 6 * p ≤ 6 * q + k ∧ 6 * q + k < 6 * p + 6 then t 77 (6 * a + (6 * q + k - 6 * p)) else t 77 (6 * q + k)) = _
    rw [if_neg (by omega)]
theorem NmR.mvO {t : Sto} {x a p q : Int} (h : NmR x (t 76 q) (fun i => t 77 (6 * q + i))) (z : q ≠ p) : NmR x (mvN t a p 76 q) (fun i => mvN t a p 77 (6 * q + i)) := by
  refine h.congr (by rw [mvN_76]; exact if_neg z) (fun i i0 i1 => ?_)
  have := h.1
  show mvN t a p 77 (6 * q + i) = t 77 (6 * q + i)
  rw [mvN_77]
  exact if_neg (by omega)
theorem NmR.mvP {t : Sto} {x a p : Int} (h : NmR x (t 76 a) (fun i => t 77 (6 * a + i))) : NmR x (mvN t a p 76 p) (fun i => mvN t a p 77 (6 * p + i)) := by
  refine h.congr (by rw [mvN_76]; exact if_pos rfl) (fun i i0 i1 => ?_)
  have := h.1
  show mvN t a p 77 (6 * p + i) = t 77 (6 * a + i)
  rw [mvN_77]
  show (if 6 * p ≤ 6 * p + i ∧ 6 * p + i < 6 * p + 6 then t 77 (6 * a + (6 * p + i - 6 * p)) else t 77 (6 * p + i)) = _
  rw [if_pos (by omega), show 6 * p + i - 6 * p = i by omega]
/-- one takes a NAME of the market -/
theorem CR.mv {u u' t : Sto} {od : Int → Int} {g p i : Int} (h : CR u t od g) (hp : 0 ≤ p ∧ p < t 75 4) (hi : 0 ≤ i ∧ i < g) (e : ∀ c : Nat, (3 ≤ c ∧ c ≤ 51) ∨ (93 ≤ c ∧ c ≤ 97) → c ≠ 48 → u' c = u c) (e57 : u' 57 = up u 57 p (u 13 i) 57) (e48 : ∀ rk : Int → Int, (∀ l : Int, 0 ≤ l → l < 26 → u 47 l = rk l ∧ (rk l = -1 ∨ (1 ≤ rk l ∧ rk l < 32))) → u' 48 = up u 48 p (keyN 6 (sfx rk (fun k => t 77 (6 * (20 + i) + k)) (t 76 (20 + i)) (t 76 (20 + i)).toNat)) 48) : CR u' (mvN t (20 + i) p) od g := by
  obtain ⟨lr, qr, hn, hm, hg, hg2⟩ := h
  have nb := (hm i hi.1 hi.2).nb
  have n1 := lr.nms.1
  have m75 : mvN t (20 + i) p 75 = t 75 := mvN_o (by decide) (by decide)
  obtain ⟨q1, ⟨pl, q4, q5, q6⟩, q7⟩ := qr
  refine ⟨(lr.mv nb).congr (fun c c1 c2 => e c (by omega) (by omega)), ?_, ?_, ?_, ?_⟩
  · unfold QR
    rw [m75, mvN_o (c := 82) (by decide) (by decide), mvN_o (c := 79) (by decide) (by decide), mvN_o (c := 80) (by decide) (by decide), mvN_o (c := 83) (by decide) (by decide), mvN_o (c := 84) (by decide) (by decide), mvN_o (c := 85) (by decide) (by decide), mvN_o (c := 86) (by decide) (by decide), e 5 (by omega) (by omega), e 4 (by omega) (by omega), e 8 (by omega) (by omega), e 9 (by omega) (by omega), e 47 (by omega) (by omega), e 51 (by omega) (by omega)]
    refine ⟨q1, ⟨pl, q4, q5, fun q q0 q1' => ?_⟩, q7⟩
    rw [e48 _ (fun l l0 l1 => ⟨q5 l l0 l1, rk_bd lr.2.1.1 (fun z => q4.bd lr.2.1 l0 z) ⟨l0, l1⟩⟩), up_if, sqS_mv nb (hn q q0 q1').nb, q6 q q0 q1']
  · intro q q0 q1'
    rw [m75] at q1'
    rw [e57, up_if]
    by_cases z : q = p
    · rw [if_pos z, z]
      exact (hm i hi.1 hi.2).mvP
    · rw [if_neg z]
      exact (hn q q0 q1').mvO z
  · intro j j0 j1
    rw [e 13 (by omega) (by omega)]
    exact (hm j j0 j1).mvO (by omega)
  · rw [e 3 (by omega) (by omega)]; exact ⟨hg, hg2⟩
theorem cho_bd {u t : Sto} {od : Int → Int} {g p : Int} (h : CR u t od g) (hp : 0 ≤ p ∧ p < t 75 4) : -1 ≤ cho t od g p ∧ cho t od g p < g := by
  have hg := h.2.2.2.2.2
  have := bstF_bd (t := t) (od := od) (p := p) (g := g.toNat) (fun k k0 k1 => (h.gb hp k k0 (by omega)).2) g.toNat (by omega)
  unfold cho
  omega
theorem stpF_75 (t : Sto) (od : Int → Int) (g p : Int) : stpF t od g p 75 = t 75 := by
  unfold stpF
  by_cases q : cho t od g p = -1
  · rw [if_pos q]
  · rw [if_neg q, mvN_o (by decide) (by decide)]
theorem rnS_75 (t : Sto) (od : Int → Int) (g : Int) : ∀ k : Nat, rnS t od g k 75 = t 75
  | 0 => rfl
  | k + 1 => by
    show stpF (rnS t od g k) od g k 75 = t 75
    rw [stpF_75, rnS_75 t od g k]
set_option maxHeartbeats 4000000 in
theorem t_X10_goRound {u t : Sto} {od : Int → Int} {g : Int} (h : CR u t od g) : ClV LY 5 MX10_goRound [.inr 56, .inr 3, .inr 46, .inr 52] u (fun s' => (∀ c : Nat, c ≠ 48 → c ≠ 53 → c ≠ 54 → c ≠ 55 → c ≠ 56 → c ≠ 57 → s' c = u c) ∧ (∀ i : Int, i ≠ 4 → s' 56 i = u 56 i) ∧ s' 56 4 = u 56 4 + rnN t od g (t 75 4).toNat ∧ CR s' (rnS t od g (t 75 4).toNat) od g) := by
  have n1 := h.1.nms.1
  have e5 : u 5 0 = t 75 4 := h.1.1.2.1.1
  refine ClV.intro (by decide) rfl (Nat.le_of_ble_eq_true rfl) (fun X C r => ?_)
  refine kb_X10_goRound_0 C r ?_
  have key : ∀ S : Sto, ((∀ c : Nat, c ≠ 48 → c ≠ 53 → c ≠ 54 → c ≠ 55 → c ≠ 56 → c ≠ 57 → S c = u c) ∧ (∀ i : Int, i ≠ 4 → S 56 i = u 56 i) ∧ S 56 4 = u 56 4 + rnN t od g (0 : Int).toNat ∧ CR S (rnS t od g (0 : Int).toNat) od g) → G LY X 3 [rv 56, rv 3, rv 46, rv 52, iv 0, none] [] S := by
    refine downI (P := fun p => ∀ S : Sto, ((∀ c : Nat, c ≠ 48 → c ≠ 53 → c ≠ 54 → c ≠ 55 → c ≠ 56 → c ≠ 57 → S c = u c) ∧ (∀ i : Int, i ≠ 4 → S 56 i = u 56 i) ∧ S 56 4 = u 56 4 + rnN t od g p.toNat ∧ CR S (rnS t od g p.toNat) od g) → G LY X 3 [rv 56, rv 3, rv 46, rv 52, iv p, none] [] S) (a := 0) (b := t 75 4) n1.1 ?_ ?_
    · rintro S ⟨k1, k2, k3, k4⟩
      refine kb_X10_goRound_3 C r ?_
      rw [k1 5 (by decide) (by decide) (by decide) (by decide) (by decide) (by decide), e5]
      exact ⟨⟨⟨by omega, by omega⟩, ⟨by omega, by omega⟩⟩, fun _ => ⟨k1, k2, k3, k4⟩, fun z => absurd z (by omega)⟩
    · rintro p p0 p1 ih S ⟨k1, k2, k3, k4⟩
      have hp : 0 ≤ p ∧ p < rnS t od g p.toNat 75 4 := by rw [rnS_75]; exact ⟨p0, p1⟩
      have cb := cho_bd k4 hp
      have hg := k4.2.2.2.2
      refine kb_X10_goRound_3 C r ?_
      rw [k1 5 (by decide) (by decide) (by decide) (by decide) (by decide) (by decide), e5]
      refine ⟨⟨⟨by omega, by omega⟩, ⟨by omega, by omega⟩⟩, fun z => absurd z (by omega), fun _ => ⟨4, _, by decide, t_X10_bestFor k4 hp, ?_⟩⟩
      rintro c v ⟨v1, v2⟩
      have kv := k4.congr (u' := v) (fun c c1 => v1 c (by omega) (by omega) (by omega))
      rw [rnS_s t od g p0, rnN_s t od g p0] at ih
      unfold stpF at ih
      rw [← v2] at ih cb
      generalize hT : rnS t od g p.toNat = T at *
      refine ⟨⟨by omega, by omega⟩, fun z => ih v ⟨fun c c1 c2 c3 c4 c5 c6 => by rw [v1 c c2 c3 c4, k1 c c1 c2 c3 c4 c5 c6], fun i hi => by rw [v1 56 (by decide) (by decide) (by decide), k2 i hi], by rw [v1 56 (by decide) (by decide) (by decide), k3, if_pos z]; omega, by rw [if_pos z]; exact kv⟩, fun z => ⟨⟨by omega, by omega⟩, ⟨by omega, by omega⟩, ?_⟩⟩
      rw [if_neg z, if_neg z] at ih
      rintro w hw
      refine ⟨⟨by omega, by omega⟩, ?_⟩
      have w57 : w 57 p = v 13 c := by rw [hw, up_at]
      have ew : ∀ c : Nat, c ≠ 57 → w c = v c := fun c hc => by rw [hw, up_row hc]
      obtain ⟨q1, ⟨pl, q4, q5, q6⟩, q7⟩ := kv.2.1
      have hr : ∀ l : Int, 0 ≤ l → l < 26 → w 47 l = rkF (T 75 9) (T 82 0) pl l ∧ (rkF (T 75 9) (T 82 0) pl l = -1 ∨ (1 ≤ rkF (T 75 9) (T 82 0) pl l ∧ rkF (T 75 9) (T 82 0) pl l < 32)) := fun l l0 l1 => ⟨by rw [ew 47 (by decide)]; exact q5 l l0 l1, rk_bd kv.1.2.1.1 (fun z => q4.bd kv.1.2.1 l0 z) ⟨l0, l1⟩⟩
      have hB := kv.2.2.2.1 c (by omega) (by omega)
      refine ⟨1, _, by decide, t_X7_keyOf (by rw [w57]; exact hB) hr, ?_⟩
      rintro k w' ⟨hw', hk⟩
      rw [hw']
      refine ⟨⟨by omega, by omega⟩, ?_⟩
      rintro x hx y hy
      have y56 : ∀ i : Int, y 56 i = if i = 4 then v 56 4 + 1 else v 56 i := fun i => by rw [hy, up_if, hx, up_row (by decide), ew 56 (by decide)]
      refine ih y ⟨fun c c1 c2 c3 c4 c5 c6 => ?_, fun i hi => ?_, ?_, ?_⟩
      · rw [hy, up_row c5, hx, up_row c1, ew c c6, v1 c c2 c3 c4, k1 c c1 c2 c3 c4 c5 c6]
      · rw [y56, if_neg hi, v1 56 (by decide) (by decide) (by decide), k2 i hi]
      · rw [y56, if_pos rfl, v1 56 (by decide) (by decide) (by decide), k3]; omega
      · refine kv.mv hp (by omega) (fun c c1 c2 => ?_) ?_ ?_
        · rw [hy, up_row (by omega), hx, up_row c2, ew c (by omega)]
        · rw [hy, up_row (by decide), hx, up_row (by decide), hw]
        · intro rk hrk
          have e : keyN 6 (sfx rk (fun k => T 77 (6 * (20 + c) + k)) (T 76 (20 + c)) (T 76 (20 + c)).toNat) = k := by
            rw [hk]
            refine congrArg (keyN 6) (sfx_congr _ (by have := hB.1; omega) (fun m m0 m1 => ?_))
            have b := hB.2.1 m m0 m1
            rw [← (hrk _ b.1 b.2).1, ← (hr _ b.1 b.2).1, ew 47 (by decide)]
          rw [e, hy, up_row (by decide), hx]
          funext j
          rw [up_if, up_if, ew 48 (by decide)]
  exact key u ⟨fun _ _ _ _ _ _ _ => rfl, fun _ _ => rfl, by show _ = u 56 4 + 0; omega, h⟩
