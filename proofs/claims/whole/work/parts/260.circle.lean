/-! LETTERS IN A CIRCLE, in the reference: rows of bits -/
theorem bit_iff {n : Nat} {i : Int} (hn : n < 2 ^ 31) (hi : 0 ≤ i ∧ i < 31) : xand (xshr (n : Int) i) 1 = 1 ↔ n.testBit i.toNat = true := by
  obtain ⟨k, rfl⟩ := Int.eq_ofNat_of_zero_le hi.1
  have hk : k < 31 := by omega
  have h2 : n / 2 ^ k < 2 ^ 31 := Nat.lt_of_le_of_lt (Nat.div_le_self _ _) hn
  rw [xshr_nat hn (by omega)]
  have e := xand_nat (n := n / 2 ^ k) (m := 1) h2 (by decide)
  rw [show ((1 : Nat) : Int) = 1 from rfl] at e
  rw [e, Nat.and_one_is_mod, show ((k : Int)).toNat = k by omega, Nat.testBit_eq_decide_div_mod_eq, decide_eq_true_eq]
  omega
def RB (x : Int) (R : Int → Prop) : Prop := ∃ n : Nat, x = (n : Int) ∧ n < 256 ∧ ∀ b : Nat, b < 8 → (n.testBit b = true ↔ R b)
theorem RB.bit {x : Int} {R : Int → Prop} (h : RB x R) {b : Int} (hb : 0 ≤ b ∧ b < 8) : xand (xshr x b) 1 = 1 ↔ R b := by
  obtain ⟨n, rfl, hn, hB⟩ := h
  rw [bit_iff (by omega) (by omega), hB b.toNat (by omega), Int.toNat_of_nonneg hb.1]
theorem RB.zero : RB 0 (fun _ => False) := ⟨0, rfl, by decide, fun b _ => by rw [Nat.zero_testBit]; exact ⟨fun z => absurd z (by decide), fun z => absurd z (fun q => q)⟩⟩
theorem RB.or {x y : Int} {R R' : Int → Prop} (h : RB x R) (h' : RB y R') : RB (xor_ x y) (fun c => R c ∨ R' c) := by
  obtain ⟨n, rfl, hn, hB⟩ := h
  obtain ⟨m, rfl, hm, hC⟩ := h'
  refine ⟨n ||| m, by rw [xor_nat (by omega) (by omega)], Nat.or_lt_two_pow (n := 8) hn hm, fun b hb => ?_⟩
  rw [Nat.testBit_or, Bool.or_eq_true, hB b hb, hC b hb]
theorem RB.one {b : Int} (hb : 0 ≤ b ∧ b < 8) : RB (xshl 1 b) (fun c => c = b) := by
  obtain ⟨k, rfl⟩ := Int.eq_ofNat_of_zero_le hb.1
  have hk : k < 8 := by omega
  have h2 : 2 ^ k < 2 ^ 8 := Nat.pow_lt_pow_right (by decide) hk
  refine ⟨2 ^ k, ?_, h2, fun c hc => ?_⟩
  · have := xshl_nat (n := 1) (b := k) (by omega) (by omega)
    rw [show ((1 : Nat) : Int) = 1 from rfl] at this
    rw [this, Nat.one_mul]
  · rw [Nat.testBit_two_pow]
    simp
    omega
theorem RB.iff {x : Int} {R R' : Int → Prop} (h : RB x R) (e : ∀ c : Int, 0 ≤ c → c < 8 → (R c ↔ R' c)) : RB x R' := by
  obtain ⟨n, rfl, hn, hB⟩ := h
  exact ⟨n, rfl, hn, fun b hb => (hB b hb).trans (e b (by omega) (by omega))⟩
theorem cntI_mono {f g : Int → Prop} : ∀ n : Nat, (∀ q : Int, 0 ≤ q → q < n → f q → g q) → cntI f n ≤ cntI g n
  | 0, _ => Int.le_refl _
  | n + 1, h => by
    have ih := cntI_mono n (fun q q0 q1 => h q q0 (by omega))
    show cntI f n + oneIf (f n) ≤ cntI g n + oneIf (g n)
    have b := oneIf_bd (g n)
    by_cases q : f n
    · rw [oneIf_t q, oneIf_t (h n (by omega) (by omega) q)]; omega
    · rw [oneIf_f q]; omega
theorem cntI_more {f g : Int → Prop} {y : Int} (y0 : 0 ≤ y) (gy : g y) (fy : ¬ f y) : ∀ n : Nat, y < n → (∀ q : Int, 0 ≤ q → q < n → f q → g q) → cntI f n + 1 ≤ cntI g n
  | 0, h, _ => absurd h (by omega)
  | n + 1, hy, h => by
    show cntI f n + oneIf (f n) + 1 ≤ cntI g n + oneIf (g n)
    have b := oneIf_bd (g n)
    by_cases e : y = n
    · rw [← e, oneIf_t gy, oneIf_f fy]
      have := cntI_mono n (fun q q0 q1 => h q q0 (by omega))
      omega
    · have ih := cntI_more y0 gy fy n (by omega) (fun q q0 q1 => h q q0 (by omega))
      by_cases q : f n
      · rw [oneIf_t q, oneIf_t (h n (by omega) (by omega) q)]; omega
      · rw [oneIf_f q]; omega
set_option maxHeartbeats 8000000 in
theorem t_circ {s : Sto} {K : Int} {E : Int → Int → Prop} {X : Cx} {d : Nat} {P : Int → Sto → Prop} (C : Ok LY X RX12 cX12_circle 4 d) (r : RetI LY X cX12_circle P) (h9 : s 75 9 = K) (hK : 2 ≤ K ∧ K ≤ 8) (hr : ∀ a b : Int, 0 ≤ a → a < K → 0 ≤ b → b < K → rg (s 110 (8 * a + b))) (hE : ∀ a b : Int, E a b ↔ (0 ≤ a ∧ a < K) ∧ (0 ≤ b ∧ b < K) ∧ s 110 (8 * b + a) < s 110 (8 * a + b)) (hP : ∀ S : Sto, (∀ c : Nat, c ≠ 113 → S c = s c) → P (cntI (fun a => TC E a a) K.toNat) S) : G LY X 16 [rv 75, iv 0, none, none] [] s := by
  have tcb : ∀ a b : Int, TC E a b → (0 ≤ a ∧ a < K) ∧ (0 ≤ b ∧ b < K) := by
    intro a b h
    exact h (fun x => (0 ≤ a ∧ a < K) ∧ (0 ≤ x ∧ x < K)) (fun c e => by have := (hE _ _).mp e; exact ⟨this.1, this.2.1⟩) (fun x y g e => ⟨g.1, ((hE _ _).mp e).2.1⟩)
  have rK : rg K := ⟨by omega, by omega⟩
  have l179 : ∀ S : Sto, ((∀ c : Nat, c ≠ 113 → S c = s c) ∧ ∀ x : Int, 0 ≤ x → x < K → RB (S 113 x) (TC E x)) → G LY X 179 [rv 75, iv 0, iv 0, none] [] S := by
    rintro S ⟨k1, k2⟩
    have key : G LY X 179 [rv 75, iv (cntI (fun a => TC E a a) (0 : Int).toNat), iv 0, none] [] S := by
      refine downI (P := fun a => G LY X 179 [rv 75, iv (cntI (fun a => TC E a a) a.toNat), iv a, none] [] S) (a := 0) (b := K) (by omega) ?_ ?_
      · refine kb_X12_circle_179 C r ?_
        rw [k1 75 (by decide), h9]
        exact ⟨⟨rK, rK⟩, fun _ => hP S k1, fun z => absurd z (by omega)⟩
      · intro a a0 a1 ih
        rw [cntI_s _ a0] at ih
        have bt := (k2 a a0 a1).bit (b := a) (by omega)
        refine kb_X12_circle_179 C r ?_
        rw [k1 75 (by decide), h9]
        refine ⟨⟨⟨by omega, by omega⟩, rK⟩, fun z => absurd z (by omega), fun _ => ⟨⟨by omega, by omega⟩, fun z => ?_, fun z => ?_⟩⟩
        · rw [oneIf_f (fun q => z (bt.mpr q)), Int.add_zero] at ih; exact ih
        · rw [oneIf_t (bt.mp z)] at ih; exact ih
    exact key
  have l96 : ∀ (S : Sto) (R : Int → Int → Prop), ((∀ c : Nat, c ≠ 113 → S c = s c) ∧ (∀ x : Int, 0 ≤ x → x < K → RB (S 113 x) (R x)) ∧ (∀ x y : Int, E x y → R x y) ∧ (∀ x y : Int, R x y → TC E x y) ∧ ∀ x : Int, 0 ≤ x → x < K → (∀ y : Int, TC E x y → R x y) ∨ 0 ≤ cntI (R x) K.toNat) → G LY X 96 [rv 75, iv 0, none, none] [] S := by
    refine downI (P := fun t => ∀ (S : Sto) (R : Int → Int → Prop), ((∀ c : Nat, c ≠ 113 → S c = s c) ∧ (∀ x : Int, 0 ≤ x → x < K → RB (S 113 x) (R x)) ∧ (∀ x y : Int, E x y → R x y) ∧ (∀ x y : Int, R x y → TC E x y) ∧ ∀ x : Int, 0 ≤ x → x < K → (∀ y : Int, TC E x y → R x y) ∨ t ≤ cntI (R x) K.toNat) → G LY X 96 [rv 75, iv t, none, none] [] S) (a := 0) (b := K) (by omega) ?_ ?_
    · rintro S R ⟨k1, k2, k3, k4, k5⟩
      refine kb_X12_circle_96 C r ?_
      rw [k1 75 (by decide), h9]
      refine ⟨⟨rK, rK⟩, fun _ => l179 S ⟨k1, fun x x0 x1 => (k2 x x0 x1).iff (fun c c0 c1 => ⟨k4 x c, fun h => ?_⟩)⟩, fun z => absurd z (by omega)⟩
      rcases k5 x x0 x1 with g | g
      · exact g c h
      · apply Classical.byContradiction
        intro q
        have cK := (tcb _ _ h).2
        have := cntI_lt (R x) c0 q K.toNat (by omega)
        omega
    · rintro t t0 t1 ih S R ⟨k1, k2, k3, k4, k5⟩
      refine kb_X12_circle_96 C r ?_
      rw [k1 75 (by decide), h9]
      refine ⟨⟨⟨by omega, by omega⟩, rK⟩, fun z => absurd z (by omega), fun _ => ?_⟩
      have l106 : ∀ (S : Sto) (R : Int → Int → Prop), ((∀ c : Nat, c ≠ 113 → S c = s c) ∧ (∀ x : Int, 0 ≤ x → x < K → RB (S 113 x) (R x)) ∧ (∀ x y : Int, E x y → R x y) ∧ (∀ x y : Int, R x y → TC E x y) ∧ ∀ x : Int, 0 ≤ x → x < K → (∀ y : Int, TC E x y → R x y) ∨ (if x < 0 then t + 1 else t) ≤ cntI (R x) K.toNat) → G LY X 106 [rv 75, iv t, iv 0, none] [] S := by
        refine downI (P := fun a => ∀ (S : Sto) (R : Int → Int → Prop), ((∀ c : Nat, c ≠ 113 → S c = s c) ∧ (∀ x : Int, 0 ≤ x → x < K → RB (S 113 x) (R x)) ∧ (∀ x y : Int, E x y → R x y) ∧ (∀ x y : Int, R x y → TC E x y) ∧ ∀ x : Int, 0 ≤ x → x < K → (∀ y : Int, TC E x y → R x y) ∨ (if x < a then t + 1 else t) ≤ cntI (R x) K.toNat) → G LY X 106 [rv 75, iv t, iv a, none] [] S) (a := 0) (b := K) (by omega) ?_ ?_
        · rintro S R ⟨k1, k2, k3, k4, k5⟩
          refine kb_X12_circle_106 C r ?_
          rw [k1 75 (by decide), h9]
          refine ⟨⟨rK, rK⟩, fun _ => ih S R ⟨k1, k2, k3, k4, fun x x0 x1 => ?_⟩, fun z => absurd z (by omega)⟩
          have := k5 x x0 x1
          rw [if_pos x1] at this
          exact this
        · rintro a a0 a1 ih2 S R ⟨k1, k2, k3, k4, k5⟩
          refine kb_X12_circle_106 C r ?_
          rw [k1 75 (by decide), h9]
          refine ⟨⟨⟨by omega, by omega⟩, rK⟩, fun z => absurd z (by omega), fun _ => ?_⟩
          have l116 : ∀ (S : Sto) (Ra : Int → Prop), ((∀ c : Nat, c ≠ 113 → S c = s c) ∧ (∀ x : Int, 0 ≤ x → x < K → x ≠ a → RB (S 113 x) (R x)) ∧ RB (S 113 a) Ra ∧ (∀ y : Int, R a y → Ra y) ∧ (∀ y : Int, Ra y → TC E a y) ∧ ∀ x y : Int, 0 ≤ x → x < 0 → R a x → E x y → Ra y) → G LY X 116 [rv 75, iv t, iv a, iv 0] [] S := by
            refine downI (P := fun b => ∀ (S : Sto) (Ra : Int → Prop), ((∀ c : Nat, c ≠ 113 → S c = s c) ∧ (∀ x : Int, 0 ≤ x → x < K → x ≠ a → RB (S 113 x) (R x)) ∧ RB (S 113 a) Ra ∧ (∀ y : Int, R a y → Ra y) ∧ (∀ y : Int, Ra y → TC E a y) ∧ ∀ x y : Int, 0 ≤ x → x < b → R a x → E x y → Ra y) → G LY X 116 [rv 75, iv t, iv a, iv b] [] S) (a := 0) (b := K) (by omega) ?_ ?_
            · rintro S Ra ⟨j1, j2, j3, j4, j5, j6⟩
              refine kb_X12_circle_116 C r ?_
              rw [j1 75 (by decide), h9]
              refine ⟨⟨rK, rK⟩, fun _ => ih2 S (fun x y => (x ≠ a ∧ R x y) ∨ (x = a ∧ Ra y)) ⟨j1, fun x x0 x1 => ?_, fun x y h => ?_, fun x y h => ?_, fun x x0 x1 => ?_⟩, fun z => absurd z (by omega)⟩
              · by_cases e : x = a
                · subst e
                  exact j3.iff (fun c _ _ => ⟨fun h => Or.inr ⟨rfl, h⟩, fun h => by rcases h with h | h; exact absurd rfl h.1; exact h.2⟩)
                · exact (j2 x x0 x1 e).iff (fun c _ _ => ⟨fun h => Or.inl ⟨e, h⟩, fun h => by rcases h with h | h; exact h.2; exact absurd h.1 e⟩)
              · by_cases e : x = a
                · exact Or.inr ⟨e, j4 y (by rw [← e]; exact k3 x y h)⟩
                · exact Or.inl ⟨e, k3 x y h⟩
              · rcases h with h | h
                · exact k4 x y h.2
                · rw [h.1]; exact j5 y h.2
              · by_cases e : x = a
                · subst e
                  have c1 : ∀ q : Int, ((x ≠ x ∧ R x q) ∨ (x = x ∧ Ra q)) ↔ Ra q := fun q => ⟨fun h => by rcases h with h | h; exact absurd rfl h.1; exact h.2, fun h => Or.inr ⟨rfl, h⟩⟩
                  have ce : cntI (fun y => (x ≠ x ∧ R x y) ∨ (x = x ∧ Ra y)) K.toNat = cntI Ra K.toNat := cntI_congr _ (fun q _ _ => c1 q)
                  rw [if_pos (by omega)]
                  show (∀ y : Int, TC E x y → ((x ≠ x ∧ R x y) ∨ (x = x ∧ Ra y))) ∨ t + 1 ≤ cntI (fun y => (x ≠ x ∧ R x y) ∨ (x = x ∧ Ra y)) K.toNat
                  rw [ce]
                  have k5x := k5 x x0 x1
                  rw [if_neg (by omega)] at k5x
                  rcases k5x with g | g
                  · exact Or.inl (fun y h => (c1 y).mpr (j4 y (g y h)))
                  · by_cases cl : ∀ u v : Int, R x u → E u v → R x v
                    · exact Or.inl (fun y h => (c1 y).mpr (j4 y (h.least (R := R) (k3 x) cl)))
                    · refine Or.inr ?_
                      have : ∃ u v : Int, R x u ∧ E u v ∧ ¬ R x v := by
                        apply Classical.byContradiction
                        intro q
                        exact cl (fun u v h1 h2 => Classical.byContradiction (fun h3 => q ⟨u, v, h1, h2, h3⟩))
                      obtain ⟨u, v, h1, h2, h3⟩ := this
                      have ub := (tcb _ _ (k4 _ _ h1)).2
                      have vb := ((hE u v).mp h2).2.1
                      have gv : Ra v := j6 u v ub.1 ub.2 h1 h2
                      have := cntI_more (f := R x) (g := Ra) vb.1 gv h3 K.toNat (by omega) (fun q _ _ => j4 q)
                      omega
                · have ce : cntI (fun y => (x ≠ a ∧ R x y) ∨ (x = a ∧ Ra y)) K.toNat = cntI (R x) K.toNat := cntI_congr _ (fun q _ _ => ⟨fun h => by rcases h with h | h; exact h.2; exact absurd h.1 e, fun h => Or.inl ⟨e, h⟩⟩)
                  show (∀ y : Int, TC E x y → ((x ≠ a ∧ R x y) ∨ (x = a ∧ Ra y))) ∨ (if x < a + 1 then t + 1 else t) ≤ cntI (fun y => (x ≠ a ∧ R x y) ∨ (x = a ∧ Ra y)) K.toNat
                  rw [ce]
                  have k5x := k5 x x0 x1
                  have ei : (if x < a + 1 then t + 1 else t) = (if x < a then t + 1 else t) := by
                    by_cases q : x < a
                    · rw [if_pos q, if_pos (by omega)]
                    · rw [if_neg q, if_neg (by omega)]
                  rw [ei]
                  rcases k5x with g | g
                  · exact Or.inl (fun y h => Or.inl ⟨e, g y h⟩)
                  · exact Or.inr g
            · rintro b b0 b1 ih3 S Ra ⟨j1, j2, j3, j4, j5, j6⟩
              have bt := j3.bit (b := b) (by omega)
              refine kb_X12_circle_116 C r ?_
              rw [j1 75 (by decide), h9]
              refine ⟨⟨⟨by omega, by omega⟩, rK⟩, fun z => absurd z (by omega), fun _ => ⟨⟨by omega, by omega⟩, fun z => ih3 S Ra ⟨j1, j2, j3, j4, j5, fun x y x0 x1 h1 h2 => ?_⟩, fun z => ⟨⟨by omega, by omega⟩, ⟨by omega, by omega⟩, ⟨by omega, by omega⟩, ?_⟩⟩⟩
              · by_cases e : x = b
                · subst e; exact absurd (j4 x h1) (fun q => z (bt.mpr q))
                · exact j6 x y x0 (by omega) h1 h2
              · have hb := bt.mp z
                rintro y hy
                by_cases e : b = a
                · subst e
                  refine ih3 y Ra ⟨fun c hc => by rw [hy, up_row hc, j1 c hc], fun x x0 x1 x2 => by rw [hy, up_idx x2]; exact j2 x x0 x1 x2, ?_, j4, j5, fun x y' x0 x1 h1 h2 => ?_⟩
                  · rw [hy, up_at]
                    exact (j3.or j3).iff (fun c _ _ => ⟨fun h => by rcases h with h | h; exact h; exact h, Or.inl⟩)
                  · by_cases e2 : x = b
                    · subst e2; exact j4 y' (k3 x y' h2)
                    · exact j6 x y' x0 (by omega) h1 h2
                · refine ih3 y (fun c => Ra c ∨ R b c) ⟨fun c hc => by rw [hy, up_row hc, j1 c hc], fun x x0 x1 x2 => by rw [hy, up_idx x2]; exact j2 x x0 x1 x2, ?_, fun y' h => Or.inl (j4 y' h), fun y' h => ?_, fun x y' x0 x1 h1 h2 => ?_⟩
                  · rw [hy, up_at]
                    exact j3.or (j2 b b0 b1 e)
                  · rcases h with h | h
                    · exact j5 y' h
                    · exact (j5 b hb).trans (k4 _ _ h)
                  · by_cases e2 : x = b
                    · subst e2; exact Or.inr (k3 x y' h2)
                    · exact Or.inl (j6 x y' x0 (by omega) h1 h2)
          exact l116 S (R a) ⟨k1, fun x x0 x1 _ => k2 x x0 x1, k2 a a0 a1, fun _ h => h, fun y h => k4 a y h, fun x y x0 x1 => absurd x1 (by omega)⟩
      refine l106 S R ⟨k1, k2, k3, k4, fun x x0 x1 => ?_⟩
      rw [if_neg (by omega)]
      exact k5 x x0 x1
  have l16 : ∀ S : Sto, ((∀ c : Nat, c ≠ 113 → S c = s c) ∧ ∀ x : Int, 0 ≤ x → x < 0 → RB (S 113 x) (E x)) → G LY X 16 [rv 75, iv 0, none, none] [] S := by
    refine downI (P := fun a => ∀ S : Sto, ((∀ c : Nat, c ≠ 113 → S c = s c) ∧ ∀ x : Int, 0 ≤ x → x < a → RB (S 113 x) (E x)) → G LY X 16 [rv 75, iv a, none, none] [] S) (a := 0) (b := K) (by omega) ?_ ?_
    · rintro S ⟨k1, k2⟩
      refine kb_X12_circle_16 C r ?_
      rw [k1 75 (by decide), h9]
      exact ⟨⟨rK, rK⟩, fun _ => l96 S E ⟨k1, k2, fun _ _ h => h, fun _ _ h => TC.base h, fun x x0 x1 => Or.inr (cntI_bd _ _).1⟩, fun z => absurd z (by omega)⟩
    · rintro a a0 a1 ih S ⟨k1, k2⟩
      refine kb_X12_circle_16 C r ?_
      rw [k1 75 (by decide), h9]
      refine ⟨⟨⟨by omega, by omega⟩, rK⟩, fun z => absurd z (by omega), fun _ => ⟨⟨by omega, by omega⟩, ?_⟩⟩
      rintro S1 hS1
      have l33 : ∀ S' : Sto, ((∀ c : Nat, c ≠ 113 → S' c = s c) ∧ (∀ x : Int, 0 ≤ x → x < a → RB (S' 113 x) (E x)) ∧ RB (S' 113 a) (fun c => E a c ∧ c < 0)) → G LY X 33 [rv 75, iv a, iv 0, none] [] S' := by
        refine downI (P := fun b => ∀ S' : Sto, ((∀ c : Nat, c ≠ 113 → S' c = s c) ∧ (∀ x : Int, 0 ≤ x → x < a → RB (S' 113 x) (E x)) ∧ RB (S' 113 a) (fun c => E a c ∧ c < b)) → G LY X 33 [rv 75, iv a, iv b, none] [] S') (a := 0) (b := K) (by omega) ?_ ?_
        · rintro S' ⟨j1, j2, j3⟩
          refine kb_X12_circle_33 C r ?_
          rw [j1 75 (by decide), h9]
          refine ⟨⟨rK, rK⟩, fun _ => ih S' ⟨j1, fun x x0 x1 => ?_⟩, fun z => absurd z (by omega)⟩
          by_cases e : x = a
          · subst e
            exact j3.iff (fun c _ _ => ⟨fun h => h.1, fun h => ⟨h, ((hE _ _).mp h).2.1.2⟩⟩)
          · exact j2 x x0 (by omega)
        · rintro b b0 b1 ih2 S' ⟨j1, j2, j3⟩
          have e110 : S' 110 = s 110 := j1 110 (by decide)
          have ra := hr a b a0 a1 b0 b1
          have rb := hr b a b0 b1 a0 a1
          refine kb_X12_circle_33 C r ?_
          rw [j1 75 (by decide), h9, e110]
          refine ⟨⟨⟨by omega, by omega⟩, rK⟩, fun z => absurd z (by omega), fun _ => ⟨⟨by omega, by omega⟩, ⟨by omega, by omega⟩, ⟨ra, rb⟩, fun z => ih2 S' ⟨j1, j2, j3.iff (fun c _ _ => ?_)⟩, fun z => ⟨⟨by omega, by omega⟩, ⟨by omega, by omega⟩, ?_⟩⟩⟩
          · refine ⟨fun h => ⟨h.1, by omega⟩, fun h => ⟨h.1, ?_⟩⟩
            have : c ≠ b := fun e => by
              have := ((hE _ _).mp h.1).2.2
              rw [e] at this
              omega
            omega
          · rintro y hy
            refine ih2 y ⟨fun c hc => by rw [hy, up_row hc, j1 c hc], fun x x0 x1 => by rw [hy, up_idx (by omega)]; exact j2 x x0 x1, ?_⟩
            rw [hy, up_at]
            refine (j3.or (RB.one (b := b) (by omega))).iff (fun c _ _ => ⟨fun h => ?_, fun h => ?_⟩)
            · rcases h with h | h
              · exact ⟨h.1, by omega⟩
              · rw [h]; exact ⟨(hE a b).mpr ⟨⟨a0, a1⟩, ⟨b0, b1⟩, z⟩, by omega⟩
            · by_cases e : c = b
              · exact Or.inr e
              · exact Or.inl ⟨h.1, by have := h.2; omega⟩
      exact l33 S1 ⟨fun c hc => by rw [hS1, up_row hc, k1 c hc], fun x x0 x1 => by rw [hS1, up_idx (by omega)]; exact k2 x x0 x1, by rw [hS1, up_at]; exact RB.zero.iff (fun c c0 c1 => ⟨fun h => absurd h (fun q => q), fun h => by have := h.2; omega⟩)⟩
  exact l16 s ⟨fun _ _ => rfl, fun x x0 x1 => absurd x1 (by omega)⟩
theorem op_circle [Inhabited YT] {s : Sto} (h : Inv s) : OpI MX11_circle MX12_circle [] s := by
  obtain ⟨v1, v2, v3, v4⟩ := h.vts
  have bd := ovS_bd h
  refine ⟨3, 2, (fun r1 s1 => (∀ c : Nat, c ≠ 60 → c ≠ 61 → s1 c = s c) ∧ r1 = cntI (fun a => TC (fun a b => (0 ≤ a ∧ a < s 75 9) ∧ (0 ≤ b ∧ b < s 75 9) ∧ ovS s b a < ovS s a b) a a) (s 75 9).toNat), by decide, by decide, ?_, ?_⟩
  · refine ClI.intro (by decide) rfl (Nat.le_of_ble_eq_true rfl) (fun X C r => ?_)
    refine kb_X11_circle_0 C r ⟨1, _, by decide, t_cnt h (fun _ _ => rfl), ?_⟩
    rintro u ⟨u1, u2⟩
    have ue : ∀ a b : Int, 0 ≤ a → a < s 75 9 → 0 ≤ b → b < s 75 9 → u 60 (a * 8 + b) = ovS s a b := fun a b a0 a1 b0 b1 => by rw [u2 a b a0 (by omega) b0 (by omega), if_pos ⟨a1, b1⟩]
    rw [u1 3 (by decide), v1.1]
    refine ⟨2, _, by decide, t_X0_lettersInCircles (E := fun a b => (0 ≤ a ∧ a < s 75 9) ∧ (0 ≤ b ∧ b < s 75 9) ∧ ovS s b a < ovS s a b) v2 (fun a b a0 a1 b0 b1 => ?_) (fun a b => ?_), ?_⟩
    · rw [ue a b a0 a1 b0 b1]
      have := bd a b
      exact ⟨by omega, by omega⟩
    · refine ⟨fun q => ⟨q.1, q.2.1, ?_⟩, fun q => ⟨q.1, q.2.1, ?_⟩⟩
      · rw [ue a b q.1.1 q.1.2 q.2.1.1 q.2.1.2, ue b a q.2.1.1 q.2.1.2 q.1.1 q.1.2]; exact q.2.2
      · rw [← ue a b q.1.1 q.1.2 q.2.1.1 q.2.1.2, ← ue b a q.2.1.1 q.2.1.2 q.1.1 q.1.2]; exact q.2.2
    · rintro x y ⟨y1, y2⟩
      exact ⟨fun c c1 c2 => by rw [y1 c c2, u1 c c1], y2⟩
  · rintro r1 s1 ⟨g1, g2⟩
    have i1 : Inv (up s1 75 0 0) := (h.scr (fun c j hc => by rw [g1 c (by unfold pers perM at hc; omega) (by unfold pers perM at hc; omega)])).told 0
    refine ⟨?_, ?_⟩
    · have := cntI_bd (fun a => TC (fun a b => (0 ≤ a ∧ a < s 75 9) ∧ (0 ≤ b ∧ b < s 75 9) ∧ ovS s b a < ovS s a b) a a) (s 75 9).toNat
      rw [g2]
      exact ⟨by omega, by omega⟩
    refine ClI.intro (by decide) rfl (Nat.le_of_ble_eq_true rfl) (fun X C r => ?_)
    refine kb_X12_circle_0 C r ?_
    rintro z hz y hy
    have z75 : ∀ j : Int, j ≠ 0 → j ≠ 58 → y 75 j = s 75 j := fun j hj h5 => by rw [hy, up_idx h5, hz, up_idx hj, g1 75 (by decide) (by decide)]
    have ez : ∀ c : Nat, c ≠ 75 → c ≠ 60 → c ≠ 61 → y c = s c := fun c c1 c2 c3 => by rw [hy, up_row c1, hz, up_row c1, g1 c c2 c3]
    have iz : Inv z := by rw [hz]; exact i1
    have iy : Inv y := by rw [hy]; exact iz.scr (fun c j hc => up_ne (by unfold pers perM at hc; omega))
    refine ⟨1, _, by decide, t_fov (t := y) h (fun i hi => z75 i (by omega) (by omega)) (by rw [hy, up_at]) (fun i i0 i1 => by rw [ez 81 (by decide) (by decide) (by decide)]) (ez 89 (by decide) (by decide) (by decide)), ?_⟩
    rintro x ⟨x1, x2⟩
    have xe : ∀ a b : Int, 0 ≤ a → a < s 75 9 → 0 ≤ b → b < s 75 9 → x 110 (8 * a + b) = ovS s a b := fun a b a0 a1 b0 b1 => by rw [x2 a b a0 (by omega) b0 (by omega), if_pos ⟨a1, b1⟩]
    refine t_circ (K := s 75 9) (E := fun a b => (0 ≤ a ∧ a < s 75 9) ∧ (0 ≤ b ∧ b < s 75 9) ∧ ovS s b a < ovS s a b) C r (by rw [x1 75 (by decide) (by decide), z75 9 (by decide) (by decide)]) v2 (fun a b a0 a1 b0 b1 => ?_) (fun a b => ?_) (fun S hS => ⟨g2.symm, iy.scr (fun c j hc => ?_)⟩)
    · rw [xe a b a0 a1 b0 b1]
      have := bd a b
      exact ⟨by omega, by omega⟩
    · refine ⟨fun q => ⟨q.1, q.2.1, ?_⟩, fun q => ⟨q.1, q.2.1, ?_⟩⟩
      · rw [xe a b q.1.1 q.1.2 q.2.1.1 q.2.1.2, xe b a q.2.1.1 q.2.1.2 q.1.1 q.1.2]; exact q.2.2
      · rw [← xe a b q.1.1 q.1.2 q.2.1.1 q.2.1.2, ← xe b a q.2.1.1 q.2.1.2 q.1.1 q.1.2]; exact q.2.2
    · rw [hS c (by unfold pers perM at hc; omega), x1 c (by unfold pers perM at hc; omega) (by unfold pers perM at hc; omega)]
