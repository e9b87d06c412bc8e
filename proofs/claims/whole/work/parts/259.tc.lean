/-! LETTERS IN A CIRCLE -/
/-- by way of E, in one step or more: in every set that holds a's next ones and, with one, its next ones -/
def TC (E : Int → Int → Prop) (a b : Int) : Prop := ∀ R : Int → Prop, (∀ c : Int, E a c → R c) → (∀ x y : Int, R x → E x y → R y) → R b
theorem TC.base {E : Int → Int → Prop} {a b : Int} (h : E a b) : TC E a b := fun _ h1 _ => h1 b h
theorem TC.step {E : Int → Int → Prop} {a b c : Int} (h : TC E a b) (e : E b c) : TC E a c := fun R h1 h2 => h2 b c (h R h1 h2) e
theorem TC.trans {E : Int → Int → Prop} {a b c : Int} (h : TC E a b) (h2 : TC E b c) : TC E a c := h2 (fun x => TC E a x) (fun _ e => TC.step h e) (fun _ _ g e => TC.step g e)
theorem TC.least {E R : Int → Int → Prop} {a b : Int} (h : TC E a b) (hE : ∀ c : Int, E a c → R a c) (hs : ∀ x y : Int, R a x → E x y → R a y) : R a b := h (fun x => R a x) hE hs
/-- Warshall's step -/
def wst (R : Int → Int → Prop) (k x y : Int) : Prop := R x y ∨ (R x k ∧ R k y)
theorem wst_tr {R : Int → Int → Prop} {k : Int} (h : ∀ c a b : Int, 0 ≤ c → c < k → R a c → R c b → R a b) : ∀ c a b : Int, 0 ≤ c → c < k + 1 → wst R k a c → wst R k c b → wst R k a b := by
  intro c a b c0 c1 h1 h2
  unfold wst at *
  by_cases e : c = k
  · subst e
    have g1 : R a c := by
      rcases h1 with h1 | h1
      · exact h1
      · exact h1.1
    have g2 : R c b := by
      rcases h2 with h2 | h2
      · exact h2
      · exact h2.2
    exact Or.inr ⟨g1, g2⟩
  · have hc : c < k := by omega
    rcases h1 with h1 | h1
    · rcases h2 with h2 | h2
      · exact Or.inl (h c a b c0 hc h1 h2)
      · exact Or.inr ⟨h c a k c0 hc h1 h2.1, h2.2⟩
    · rcases h2 with h2 | h2
      · exact Or.inr ⟨h1.1, h c k b c0 hc h1.2 h2⟩
      · exact Or.inr ⟨h1.1, h2.2⟩
theorem oneIf_iff {p q : Prop} (h : p ↔ q) : oneIf p = oneIf q := by rw [propext h]
theorem oneIf_1 {p : Prop} : oneIf p = 1 ↔ p := by
  by_cases h : p
  · rw [oneIf_t h]; exact ⟨fun _ => h, fun _ => rfl⟩
  · rw [oneIf_f h]; exact ⟨fun z => absurd z (by decide), fun z => absurd z h⟩
theorem oneIf_0 {p : Prop} : oneIf p = 0 ↔ ¬ p := by
  by_cases h : p
  · rw [oneIf_t h]; exact ⟨fun z => absurd z (by decide), fun z => absurd h z⟩
  · rw [oneIf_f h]; exact ⟨fun _ => h, fun _ => rfl⟩
theorem or01 {v : Int} (h : v = 0 ∨ v = 1) : xor_ v 0 = v ∧ xor_ v 1 = 1 := by
  rcases h with rfl | rfl <;> decide
theorem t_X0_beats {a b : Int} {s : Sto} (ha : 0 ≤ a ∧ a < 8) (hb : 0 ≤ b ∧ b < 8) (r1 : rg (s 60 (a * 8 + b))) (r2 : rg (s 60 (b * 8 + a))) : ClI LY 1 MX0_beats [.inr 59, .inl a, .inl b] s (fun r s' => s' = s ∧ r = oneIf (s 60 (b * 8 + a) < s 60 (a * 8 + b))) := by
  refine ClI.introZ (by decide) rfl (Nat.le_of_ble_eq_true rfl) (fun X C r => ?_)
  refine kb_X0_beats_0 C r ⟨0, _, by decide, t_X0_supportOf (by omega), ?_⟩
  rintro x y ⟨hy, hx⟩
  rw [hy]
  refine ⟨0, _, by decide, t_X0_supportOf (by omega), ?_⟩
  rintro x' y' ⟨hy', hx'⟩
  rw [hy', hx, hx']
  exact ⟨⟨r1, r2⟩, fun z => ⟨rfl, (oneIf_f (by omega)).symm⟩, fun z => ⟨rfl, (oneIf_t z).symm⟩⟩
set_option maxHeartbeats 4000000 in
theorem t_X0_lettersInCircles {K : Int} {s : Sto} {E : Int → Int → Prop} (hK : 2 ≤ K ∧ K ≤ 8) (hr : ∀ a b : Int, 0 ≤ a → a < K → 0 ≤ b → b < K → rg (s 60 (a * 8 + b))) (hE : ∀ a b : Int, E a b ↔ (0 ≤ a ∧ a < K) ∧ (0 ≤ b ∧ b < K) ∧ s 60 (b * 8 + a) < s 60 (a * 8 + b)) : ClI LY 2 MX0_lettersInCircles [.inr 59, .inl K] s (fun r s' => (∀ c : Nat, c ≠ 61 → s' c = s c) ∧ r = cntI (fun a => TC E a a) K.toNat) := by
  have tcb : ∀ a b : Int, TC E a b → (0 ≤ a ∧ a < K) ∧ (0 ≤ b ∧ b < K) := by
    intro a b h
    exact h (fun x => (0 ≤ a ∧ a < K) ∧ (0 ≤ x ∧ x < K)) (fun c e => by have := (hE _ _).mp e; exact ⟨this.1, this.2.1⟩) (fun x y g e => ⟨g.1, ((hE _ _).mp e).2.1⟩)
  refine ClI.intro (by decide) rfl (Nat.le_of_ble_eq_true rfl) (fun X C r => ?_)
  refine kb_X0_lettersInCircles_0 C r ?_
  have rK : rg K := ⟨by omega, by omega⟩
  -- the end
  have l137 : ∀ S : Sto, ((∀ c : Nat, c ≠ 61 → S c = s c) ∧ ∀ x y : Int, 0 ≤ x → x < K → 0 ≤ y → y < K → S 61 (x * 8 + y) = oneIf (TC E x y)) → G LY X 137 [rv 59, iv K, iv 0, iv 0, none] [] S := by
    rintro S ⟨k1, k2⟩
    have key : G LY X 137 [rv 59, iv K, iv (cntI (fun a => TC E a a) (0 : Int).toNat), iv 0, none] [] S := by
      refine downI (P := fun a => G LY X 137 [rv 59, iv K, iv (cntI (fun a => TC E a a) a.toNat), iv a, none] [] S) (a := 0) (b := K) (by omega) ?_ ?_
      · exact kb_X0_lettersInCircles_137 C r ⟨⟨rK, rK⟩, fun _ => ⟨k1, rfl⟩, fun z => absurd z (by omega)⟩
      · intro a a0 a1 ih
        rw [cntI_s _ a0] at ih
        refine kb_X0_lettersInCircles_137 C r ?_
        rw [k2 a a a0 a1 a0 a1]
        have b1 := oneIf_bd (TC E a a)
        refine ⟨⟨⟨by omega, by omega⟩, rK⟩, fun z => absurd z (by omega), fun _ => ⟨⟨by omega, by omega⟩, ⟨by omega, by omega⟩, fun z => ?_, fun z => ?_⟩⟩
        · rw [z] at ih; exact ih
        · rw [show oneIf (TC E a a) = 1 by omega] at ih; exact ih
    exact key
  -- Warshall
  have l45 : ∀ (S : Sto) (R : Int → Int → Prop), ((∀ c : Nat, c ≠ 61 → S c = s c) ∧ (∀ x y : Int, 0 ≤ x → x < K → 0 ≤ y → y < K → S 61 (x * 8 + y) = oneIf (R x y)) ∧ (∀ x y : Int, E x y → R x y) ∧ (∀ x y : Int, R x y → TC E x y) ∧ ∀ c a b : Int, 0 ≤ c → c < 0 → R a c → R c b → R a b) → G LY X 45 [rv 59, iv K, iv 0, none, none] [] S := by
    refine downI (P := fun k => ∀ (S : Sto) (R : Int → Int → Prop), ((∀ c : Nat, c ≠ 61 → S c = s c) ∧ (∀ x y : Int, 0 ≤ x → x < K → 0 ≤ y → y < K → S 61 (x * 8 + y) = oneIf (R x y)) ∧ (∀ x y : Int, E x y → R x y) ∧ (∀ x y : Int, R x y → TC E x y) ∧ ∀ c a b : Int, 0 ≤ c → c < k → R a c → R c b → R a b) → G LY X 45 [rv 59, iv K, iv k, none, none] [] S) (a := 0) (b := K) (by omega) ?_ ?_
    · rintro S R ⟨k1, k2, k3, k4, k5⟩
      refine kb_X0_lettersInCircles_45 C r ⟨⟨rK, rK⟩, fun _ => l137 S ⟨k1, fun x y x0 x1 y0 y1 => ?_⟩, fun z => absurd z (by omega)⟩
      rw [k2 x y x0 x1 y0 y1]
      refine oneIf_iff ⟨k4 x y, fun h => h.least (k3 x) (fun u v h1 h2 => ?_)⟩
      have := (tcb _ _ (k4 _ _ h1)).2
      exact k5 u x v this.1 this.2 h1 (k3 _ _ h2)
    · rintro k k0 k1' ih S R ⟨k1, k2, k3, k4, k5⟩
      refine kb_X0_lettersInCircles_45 C r ⟨⟨⟨by omega, by omega⟩, rK⟩, fun z => absurd z (by omega), fun _ => ?_⟩
      have w1 : ∀ x : Int, wst R k x k ↔ R x k := fun x => ⟨fun h => by rcases h with h | h; exact h; exact h.1, Or.inl⟩
      have w2 : ∀ y : Int, wst R k k y ↔ R k y := fun y => ⟨fun h => by rcases h with h | h; exact h; exact h.2, Or.inl⟩
      have l52 : ∀ S : Sto, ((∀ c : Nat, c ≠ 61 → S c = s c) ∧ ∀ x y : Int, 0 ≤ x → x < K → 0 ≤ y → y < K → S 61 (x * 8 + y) = oneIf (if x < 0 then wst R k x y else R x y)) → G LY X 52 [rv 59, iv K, iv k, iv 0, none] [] S := by
        refine downI (P := fun a => ∀ S : Sto, ((∀ c : Nat, c ≠ 61 → S c = s c) ∧ ∀ x y : Int, 0 ≤ x → x < K → 0 ≤ y → y < K → S 61 (x * 8 + y) = oneIf (if x < a then wst R k x y else R x y)) → G LY X 52 [rv 59, iv K, iv k, iv a, none] [] S) (a := 0) (b := K) (by omega) ?_ ?_
        · rintro S ⟨j1, j2⟩
          refine kb_X0_lettersInCircles_52 C r ⟨⟨rK, rK⟩, fun _ => ih S (wst R k) ⟨j1, fun x y x0 x1 y0 y1 => by rw [j2 x y x0 x1 y0 y1, if_pos x1], fun x y h => Or.inl (k3 x y h), fun x y h => ?_, wst_tr k5⟩, fun z => absurd z (by omega)⟩
          rcases h with h | h
          · exact k4 x y h
          · exact (k4 _ _ h.1).trans (k4 _ _ h.2)
        · rintro a a0 a1 ih2 S ⟨j1, j2⟩
          refine kb_X0_lettersInCircles_52 C r ⟨⟨⟨by omega, by omega⟩, rK⟩, fun z => absurd z (by omega), fun _ => ?_⟩
          have l60 : ∀ S : Sto, ((∀ c : Nat, c ≠ 61 → S c = s c) ∧ ∀ x y : Int, 0 ≤ x → x < K → 0 ≤ y → y < K → S 61 (x * 8 + y) = oneIf (if x < a ∨ (x = a ∧ y < 0) then wst R k x y else R x y)) → G LY X 60 [rv 59, iv K, iv k, iv a, iv 0] [] S := by
            refine downI (P := fun b => ∀ S : Sto, ((∀ c : Nat, c ≠ 61 → S c = s c) ∧ ∀ x y : Int, 0 ≤ x → x < K → 0 ≤ y → y < K → S 61 (x * 8 + y) = oneIf (if x < a ∨ (x = a ∧ y < b) then wst R k x y else R x y)) → G LY X 60 [rv 59, iv K, iv k, iv a, iv b] [] S) (a := 0) (b := K) (by omega) ?_ ?_
            · rintro S ⟨j1, j2⟩
              refine kb_X0_lettersInCircles_60 C r ⟨⟨rK, rK⟩, fun _ => ih2 S ⟨j1, fun x y x0 x1 y0 y1 => ?_⟩, fun z => absurd z (by omega)⟩
              rw [j2 x y x0 x1 y0 y1]
              by_cases q : x < a + 1
              · rw [if_pos q, if_pos (by omega)]
              · rw [if_neg q, if_neg (by omega)]
            · rintro b b0 b1 ih3 S ⟨j1, j2⟩
              have ab : S 61 (a * 8 + b) = oneIf (R a b) := by rw [j2 a b a0 a1 b0 b1, if_neg (by omega)]
              have ak : S 61 (a * 8 + k) = oneIf (R a k) := by
                rw [j2 a k a0 a1 k0 k1']
                by_cases q : a < a ∨ (a = a ∧ k < b)
                · rw [if_pos q]; exact oneIf_iff (w1 a)
                · rw [if_neg q]
              have kb : S 61 (k * 8 + b) = oneIf (R k b) := by
                rw [j2 k b k0 k1' b0 b1]
                by_cases q : k < a ∨ (k = a ∧ b < b)
                · rw [if_pos q]; exact oneIf_iff (w2 b)
                · rw [if_neg q]
              have nx : ∀ v : Int, v = oneIf (wst R k a b) → G LY X 60 [rv 59, iv K, iv k, iv a, iv (b + 1)] [] (up S 61 (a * 8 + b) v) := fun v hv => by
                refine ih3 _ ⟨fun c hc => by rw [up_row hc, j1 c hc], fun x y x0 x1 y0 y1 => ?_⟩
                rw [up_if]
                by_cases e : x = a ∧ y = b
                · rw [if_pos (by omega), if_pos (by omega), hv, e.1, e.2]
                · rw [if_neg (by omega), j2 x y x0 x1 y0 y1]
                  by_cases q : x < a ∨ (x = a ∧ y < b)
                  · rw [if_pos q, if_pos (by omega)]
                  · rw [if_neg q, if_neg (by omega)]
              have o1 := oneIf_bd (R a b)
              have o2 := oneIf_bd (R a k)
              have o3 := oneIf_bd (R k b)
              have ox := or01 (v := oneIf (R a b)) (by omega)
              refine kb_X0_lettersInCircles_60 C r ?_
              rw [ab, ak, kb, ox.1, ox.2]
              refine ⟨⟨⟨by omega, by omega⟩, rK⟩, fun z => absurd z (by omega), fun _ => ⟨⟨by omega, by omega⟩, ⟨by omega, by omega⟩, ⟨by omega, by omega⟩, fun z => ⟨⟨by omega, by omega⟩, by omega, ?_⟩, fun z => ⟨⟨by omega, by omega⟩, ⟨by omega, by omega⟩, fun z2 => ⟨⟨by omega, by omega⟩, by omega, ?_⟩, fun z2 => ⟨⟨by omega, by omega⟩, by omega, ?_⟩⟩⟩⟩
              · rintro y rfl
                refine nx _ (oneIf_iff ⟨Or.inl, fun h => ?_⟩)
                rcases h with h | h
                · exact h
                · exact absurd h.1 (oneIf_0.mp z)
              · rintro y rfl
                refine nx _ (oneIf_iff ⟨Or.inl, fun h => ?_⟩)
                rcases h with h | h
                · exact h
                · exact absurd h.2 (oneIf_0.mp z2)
              · rintro y rfl
                exact nx _ (oneIf_t (Or.inr ⟨oneIf_1.mp (by omega), oneIf_1.mp (by omega)⟩)).symm
          refine l60 S ⟨j1, fun x y x0 x1 y0 y1 => ?_⟩
          rw [j2 x y x0 x1 y0 y1]
          by_cases q : x < a
          · rw [if_pos q, if_pos (by omega)]
          · rw [if_neg q, if_neg (by omega)]
      exact l52 S ⟨k1, fun x y x0 x1 y0 y1 => by rw [k2 x y x0 x1 y0 y1, if_neg (by omega)]⟩
  -- who beats whom
  have l2 : ∀ S : Sto, ((∀ c : Nat, c ≠ 61 → S c = s c) ∧ ∀ x y : Int, 0 ≤ x → x < 0 → 0 ≤ y → y < K → S 61 (x * 8 + y) = oneIf (E x y)) → G LY X 2 [rv 59, iv K, iv 0, none, none] [] S := by
    refine downI (P := fun a => ∀ S : Sto, ((∀ c : Nat, c ≠ 61 → S c = s c) ∧ ∀ x y : Int, 0 ≤ x → x < a → 0 ≤ y → y < K → S 61 (x * 8 + y) = oneIf (E x y)) → G LY X 2 [rv 59, iv K, iv a, none, none] [] S) (a := 0) (b := K) (by omega) ?_ ?_
    · rintro S ⟨j1, j2⟩
      exact kb_X0_lettersInCircles_2 C r ⟨⟨rK, rK⟩, fun _ => l45 S E ⟨j1, j2, fun _ _ h => h, fun _ _ h => TC.base h, fun c a b c0 c1 => absurd c1 (by omega)⟩, fun z => absurd z (by omega)⟩
    · rintro a a0 a1 ih S ⟨j1, j2⟩
      refine kb_X0_lettersInCircles_2 C r ⟨⟨⟨by omega, by omega⟩, rK⟩, fun z => absurd z (by omega), fun _ => ?_⟩
      have l9 : ∀ S : Sto, ((∀ c : Nat, c ≠ 61 → S c = s c) ∧ ∀ x y : Int, 0 ≤ x → x < K → 0 ≤ y → y < K → x < a ∨ (x = a ∧ y < 0) → S 61 (x * 8 + y) = oneIf (E x y)) → G LY X 9 [rv 59, iv K, iv a, iv 0, none] [] S := by
        refine downI (P := fun b => ∀ S : Sto, ((∀ c : Nat, c ≠ 61 → S c = s c) ∧ ∀ x y : Int, 0 ≤ x → x < K → 0 ≤ y → y < K → x < a ∨ (x = a ∧ y < b) → S 61 (x * 8 + y) = oneIf (E x y)) → G LY X 9 [rv 59, iv K, iv a, iv b, none] [] S) (a := 0) (b := K) (by omega) ?_ ?_
        · rintro S ⟨j1, j2⟩
          exact kb_X0_lettersInCircles_9 C r ⟨⟨rK, rK⟩, fun _ => ih S ⟨j1, fun x y x0 x1 y0 y1 => j2 x y x0 (by omega) y0 y1 (by omega)⟩, fun z => absurd z (by omega)⟩
        · rintro b b0 b1 ih2 S ⟨j1, j2⟩
          have e60 : S 60 = s 60 := j1 60 (by decide)
          refine kb_X0_lettersInCircles_9 C r ⟨⟨⟨by omega, by omega⟩, rK⟩, fun z => absurd z (by omega), fun _ => ⟨1, _, by decide, t_X0_beats (s := S) (by omega) (by omega) (by rw [e60]; exact hr a b a0 a1 b0 b1) (by rw [e60]; exact hr b a b0 b1 a0 a1), ?_⟩⟩
          rintro v y ⟨hy, hv⟩
          rw [hy]
          rw [e60] at hv
          have bb := oneIf_bd (s 60 (b * 8 + a) < s 60 (a * 8 + b))
          refine ⟨⟨by omega, by omega⟩, by omega, ?_⟩
          rintro y' hy'
          refine ih2 y' ⟨fun c hc => by rw [hy', up_row hc, j1 c hc], fun x y x0 x1 y0 y1 q => ?_⟩
          rw [hy', up_if]
          by_cases e : x = a ∧ y = b
          · rw [if_pos (by omega), hv, e.1, e.2]
            exact oneIf_iff ⟨fun z => (hE a b).mpr ⟨⟨a0, a1⟩, ⟨b0, b1⟩, z⟩, fun z => ((hE a b).mp z).2.2⟩
          · rw [if_neg (by omega)]
            exact j2 x y x0 x1 y0 y1 (by omega)
      exact l9 S ⟨j1, fun x y x0 x1 y0 y1 q => j2 x y x0 (by omega) y0 y1⟩
  exact l2 s ⟨fun _ _ => rfl, fun x y x0 x1 => absurd x1 (by omega)⟩
