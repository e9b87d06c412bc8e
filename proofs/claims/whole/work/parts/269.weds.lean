/-! WEDDINGS in the reference -/
theorem WI.accept {sx W mt au mt' au' : Int → Int} {n p q : Int} (hs : ∀ x : Int, 0 ≤ x → x < n → sx x = 0 ∨ sx x = 1) (h : WI sx W n mt au) (hp : 0 ≤ p ∧ p < n) (ps : sx p = 0) (pu : mt p = -1) (hq : 0 ≤ q ∧ q < n) (qs : sx q = 1) (qr : rkS sx W n q = au p) (hw : mt q = -1 ∨ amR W p (mt q)) (e1 : ∀ x : Int, mt' x = if x = p then q else if x = q then p else if mt q ≠ -1 ∧ x = mt q then -1 else mt x) (e2 : ∀ x : Int, au' x = if x = p then au p + 1 else au x) : WI sx W n mt' au' := by
  obtain ⟨hA, hB, hC, hD, hE⟩ := h
  have qp : q ≠ p := fun e => by rw [e, ps] at qs; omega
  have mq : mt' q = p := by rw [e1, if_neg qp, if_pos rfl]
  have mp : mt' p = q := by rw [e1, if_pos rfl]
  have bq := hB q hq.1 hq.2 qs
  have rq := rkS_bd sx W hq
  refine ⟨fun m m0 m1 ms => ?_, fun f f0 f1 fs => ?_, fun m m0 m1 ms f f0 f1 fs fr => ?_, fun m m0 m1 ms => ?_, fun x x0 x1 => ?_⟩
  · by_cases z : m = p
    · rw [z, mp]
      exact Or.inr ⟨hq, qs, mq, by rw [e2, if_pos rfl, qr]⟩
    · have mneq : m ≠ q := fun e => by rw [e, qs] at ms; omega
      by_cases z2 : mt q ≠ -1 ∧ m = mt q
      · left
        rw [e1, if_neg z, if_neg mneq, if_pos z2]
      · have em : mt' m = mt m := by rw [e1, if_neg z, if_neg mneq, if_neg z2]
        rw [em, e2, if_neg z]
        rcases hA m m0 m1 ms with a | ⟨a1, a2, a3, a4⟩
        · exact Or.inl a
        · refine Or.inr ⟨a1, a2, ?_, a4⟩
          have fq : mt m ≠ q := fun e => z2 ⟨by rw [e] at a3; omega, by rw [e] at a3; exact a3.symm⟩
          have fp : mt m ≠ p := fun e => by rw [e, ps] at a2; omega
          rw [e1, if_neg fp, if_neg fq, if_neg (fun w => ?_), a3]
          rcases bq with b | ⟨b1, b2, b3⟩
          · exact w.1 b
          · rw [w.2, b2] at a2; omega
  · by_cases z : f = q
    · rw [z, mq]
      exact Or.inr ⟨hp, ps, mp⟩
    · have fp : f ≠ p := fun e => by rw [e, ps] at fs; omega
      have fw : ¬ (mt q ≠ -1 ∧ f = mt q) := fun w => by
        rcases bq with b | ⟨b1, b2, b3⟩
        · exact w.1 b
        · rw [w.2, b2] at fs; omega
      have ef : mt' f = mt f := by rw [e1, if_neg fp, if_neg z, if_neg fw]
      rw [ef]
      rcases hB f f0 f1 fs with a | ⟨a1, a2, a3⟩
      · exact Or.inl a
      · refine Or.inr ⟨a1, a2, ?_⟩
        have mp' : mt f ≠ p := fun e => by rw [e, pu] at a3; omega
        have mq' : mt f ≠ q := fun e => by rw [e, qs] at a2; omega
        rw [e1, if_neg mp', if_neg mq', if_neg (fun w => ?_), a3]
        rcases bq with b | ⟨b1, b2, b3⟩
        · exact w.1 b
        · rw [← w.2, a3] at b3
          exact z b3
  · have fp : f ≠ p := fun e => by rw [e, ps] at fs; omega
    have keep : f ≠ q → mt' f = mt f := fun z => by
      rw [e1, if_neg fp, if_neg z, if_neg (fun w => ?_)]
      rcases bq with b | ⟨b1, b2, b3⟩
      · exact w.1 b
      · rw [w.2, b2] at fs; omega
    by_cases z : m = p
    · rw [e2, if_pos z] at fr
      by_cases z2 : rkS sx W n f = au p
      · have : f = q := rk_inj (sx := sx) (W := W) hq ⟨f0, f1⟩ (by rw [fs, qs]) (by rw [z2, qr])
        rw [this, mq, z]
        exact ⟨by omega, Or.inl rfl⟩
      · have fq : f ≠ q := fun e => z2 (by rw [e, qr])
        rw [keep fq, z]
        exact hC p hp.1 hp.2 ps f f0 f1 fs (by omega)
    · rw [e2, if_neg z] at fr
      obtain ⟨c1, c2⟩ := hC m m0 m1 ms f f0 f1 fs fr
      by_cases fq : f = q
      · rw [fq] at c1 c2
        rw [fq, mq]
        refine ⟨by omega, Or.inr ?_⟩
        rcases hw with w | w
        · exact absurd w c1
        · rcases c2 with c2 | c2
          · rw [c2] at w; exact w
          · exact amR_trans w c2
      · rw [keep fq]
        exact ⟨c1, c2⟩
  · by_cases z : m = p
    · refine ⟨q, fun _ => ⟨hq, qs, ?_⟩⟩
      rw [e2, if_pos z, qr]; omega
    · obtain ⟨f, hf⟩ := hD m m0 m1 ms
      refine ⟨f, fun g => ?_⟩
      rw [e2, if_neg z] at g ⊢
      exact hf g
  · rw [e2]
    by_cases z : x = p
    · rw [if_pos z]
      have := hE p hp.1 hp.2
      omega
    · rw [if_neg z]; exact hE x x0 x1
theorem WI.reject {sx W mt au au' : Int → Int} {n p q : Int} (h : WI sx W n mt au) (hp : 0 ≤ p ∧ p < n) (ps : sx p = 0) (pu : mt p = -1) (hq : 0 ≤ q ∧ q < n) (qs : sx q = 1) (qr : rkS sx W n q = au p) (hw : mt q ≠ -1 ∧ amR W (mt q) p) (e2 : ∀ x : Int, au' x = if x = p then au p + 1 else au x) : WI sx W n mt au' := by
  obtain ⟨hA, hB, hC, hD, hE⟩ := h
  have rq := rkS_bd sx W hq
  refine ⟨fun m m0 m1 ms => ?_, hB, fun m m0 m1 ms f f0 f1 fs fr => ?_, fun m m0 m1 ms => ?_, fun x x0 x1 => ?_⟩
  · rw [e2]
    by_cases z : m = p
    · rw [z]; exact Or.inl pu
    · rw [if_neg z]; exact hA m m0 m1 ms
  · rw [e2] at fr
    by_cases z : m = p
    · rw [if_pos z] at fr
      rw [z]
      by_cases z2 : rkS sx W n f = au p
      · have : f = q := rk_inj (sx := sx) (W := W) hq ⟨f0, f1⟩ (by rw [fs, qs]) (by rw [z2, qr])
        rw [this]
        exact ⟨hw.1, Or.inr hw.2⟩
      · exact hC p hp.1 hp.2 ps f f0 f1 fs (by omega)
    · rw [if_neg z] at fr
      exact hC m m0 m1 ms f f0 f1 fs fr
  · by_cases z : m = p
    · refine ⟨q, fun _ => ⟨hq, qs, ?_⟩⟩
      rw [e2, if_pos z, qr]; omega
    · obtain ⟨f, hf⟩ := hD m m0 m1 ms
      refine ⟨f, fun g => ?_⟩
      rw [e2, if_neg z] at g ⊢
      exact hf g
  · rw [e2]
    by_cases z : x = p
    · rw [if_pos z]
      have := hE p hp.1 hp.2
      omega
    · rw [if_neg z]; exact hE x x0 x1
theorem sumF_up {g g' : Int → Int} {p : Int} (h0 : 0 ≤ p) (e : ∀ x : Int, g' x = if x = p then g p + 1 else g x) : ∀ n : Nat, p < n → sumF g' n = sumF g n + 1
  | 0, h => absurd h (by omega)
  | n + 1, h => by
    show sumF g' n + g' n = sumF g n + g n + 1
    by_cases q : (n : Int) = p
    · rw [e, if_pos q, ← q, sumF_congr (g := g') (g' := g) n (fun x x0 x1 => by rw [e, if_neg (by omega)])]
      omega
    · rw [e, if_neg q, sumF_up h0 e n (by omega)]
      omega
theorem t_X12_isBetter {a b : Int} {s : Sto} (ha : 0 ≤ a ∧ a < 20) (hb : 0 ≤ b ∧ b < 20) (ra : rg (s 103 a)) (rb : rg (s 103 b)) : ClI LY 0 MX12_isBetter [.inr 75, .inl a, .inl b] s (fun r s' => s' = s ∧ r = oneIf (amR (s 103) a b)) := by
  refine ClI.introZ (by decide) rfl (Nat.le_of_ble_eq_true rfl) (fun X C r => ?_)
  refine kb_X12_isBetter_0 C r ⟨ha, hb, ⟨ra, rb⟩, fun z => ⟨rfl, (oneIf_t (amR_iff.mpr (Or.inl z))).symm⟩, fun z => ⟨ha, hb, ⟨ra, rb⟩, fun z2 => ⟨rfl, (oneIf_f (fun q => by have := amR_iff.mp q; omega)).symm⟩, fun z2 => ⟨⟨⟨by omega, by omega⟩, ⟨by omega, by omega⟩⟩, fun z3 => ⟨rfl, (oneIf_f (fun q => by have := amR_iff.mp q; omega)).symm⟩, fun z3 => ⟨rfl, (oneIf_t (amR_iff.mpr (Or.inr ⟨z2, z3⟩))).symm⟩⟩⟩⟩
set_option maxHeartbeats 4000000 in
theorem t_X12_suitorAsks {k n : Int} {s : Sto} (hn : s 75 4 = n) (n20 : 0 ≤ n ∧ n ≤ 20) (hk : rg k) (hs : ∀ x : Int, 0 ≤ x → x < n → s 78 x = 0 ∨ s 78 x = 1) (hW : ∀ p : Int, 0 ≤ p → p < n → -594 ≤ s 103 p ∧ s 103 p ≤ 594) : ClI LY 1 MX12_suitorAsks [.inr 75, .inl k] s (fun r s' => s' = s ∧ ((r = -1 ∧ ∀ f : Int, 0 ≤ f → f < n → s 78 f = 1 → rkS (s 78) (s 103) n f ≠ k) ∨ ((0 ≤ r ∧ r < n) ∧ s 78 r = 1 ∧ rkS (s 78) (s 103) n r = k))) := by
  refine ClI.intro (by decide) rfl (Nat.le_of_ble_eq_true rfl) (fun X C r => ?_)
  refine kb_X12_suitorAsks_0 C r ?_
  have rn : rg n := ⟨by omega, by omega⟩
  refine downI (P := fun q => (∀ f : Int, 0 ≤ f → f < q → s 78 f = 1 → rkS (s 78) (s 103) n f ≠ k) → G LY X 2 [rv 75, iv k, iv q, none, none] [] s) (a := 0) (b := n) n20.1 ?_ ?_ (fun f f0 f1 => absurd f1 (by omega))
  · intro H
    refine kb_X12_suitorAsks_2 C r ?_
    rw [hn]
    exact ⟨⟨rn, rn⟩, fun _ => ⟨rfl, Or.inl ⟨rfl, H⟩⟩, fun z => absurd z (by omega)⟩
  · intro q q0 q1 ih H
    have sq := hs q q0 q1
    refine kb_X12_suitorAsks_2 C r ?_
    rw [hn]
    refine ⟨⟨⟨by omega, by omega⟩, rn⟩, fun z => absurd z (by omega), fun _ => ⟨⟨by omega, by omega⟩, ⟨by omega, by omega⟩, fun z => ?_, fun z => ih (fun f f0 f1 fs => ?_)⟩⟩
    · have er : rkS (s 78) (s 103) n q = cntI (fun o => s 78 o = 1 ∧ amR (s 103) o q) n.toNat := by
        unfold rkS
        rw [z]
      have inner : G LY X 28 [rv 75, iv k, iv q, iv (cntI (fun o => s 78 o = 1 ∧ amR (s 103) o q) (0 : Int).toNat), iv 0] [] s := by
        refine downI (P := fun o => G LY X 28 [rv 75, iv k, iv q, iv (cntI (fun o => s 78 o = 1 ∧ amR (s 103) o q) o.toNat), iv o] [] s) (a := 0) (b := n) n20.1 ?_ ?_
        · have b := rkS_bd (s 78) (s 103) (n := n) (p := q) ⟨q0, q1⟩
          refine kb_X12_suitorAsks_28 C r ?_
          rw [hn, ← er]
          refine ⟨⟨rn, rn⟩, fun _ => ⟨⟨⟨by omega, by omega⟩, hk⟩, fun z2 => ih (fun f f0 f1 fs => ?_), fun z2 => ⟨rfl, Or.inr ⟨⟨q0, q1⟩, z, z2⟩⟩⟩, fun z => absurd z (by omega)⟩
          by_cases e : f = q
          · rw [e]; exact z2
          · exact H f f0 (by omega) fs
        · intro o o0 o1 ih2
          rw [cntI_s _ o0] at ih2
          have so := hs o o0 o1
          have wo := hW o o0 o1
          have wq := hW q q0 q1
          have no : ¬ (s 78 o = 1 ∧ amR (s 103) o q) → G LY X 28 [rv 75, iv k, iv q, iv (cntI (fun o => s 78 o = 1 ∧ amR (s 103) o q) o.toNat), iv (o + 1)] [] s := fun h => by
            rw [oneIf_f h, Int.add_zero] at ih2
            exact ih2
          refine kb_X12_suitorAsks_28 C r ?_
          rw [hn]
          refine ⟨⟨⟨by omega, by omega⟩, rn⟩, fun z => absurd z (by omega), fun _ => ⟨⟨by omega, by omega⟩, ⟨by omega, by omega⟩, fun z2 => no (fun g => z2 g.1), fun z2 => ⟨⟨⟨by omega, by omega⟩, ⟨by omega, by omega⟩⟩, fun z3 => no (fun g => by have := g.2; rw [z3] at this; exact amR_asym this this), fun z3 => ⟨0, _, by decide, t_X12_isBetter (by omega) (by omega) ⟨by omega, by omega⟩ ⟨by omega, by omega⟩, ?_⟩⟩⟩⟩
          rintro x y ⟨hy, hx⟩
          rw [hy]
          have bb := oneIf_bd (amR (s 103) o q)
          refine ⟨⟨by omega, by omega⟩, fun z4 => no (fun g => by rw [oneIf_t g.2] at hx; omega), fun z4 => ?_⟩
          rw [oneIf_t ⟨z2, oneIf_1.mp (by omega)⟩] at ih2
          exact ih2
      exact inner
    · by_cases e : f = q
      · rw [e] at fs; exact absurd fs z
      · exact H f f0 (by omega) fs
