theorem ClV.mono {ly : List Sh} {d : Nat} {M : Mt} {args : List Vl} {s : Sto} {Q Q' : Sto → Prop} (h : ClV ly d M args s Q) (hq : ∀ s', Q s' → Q' s') : ClV ly d M args s Q' := by
  intro l D cI cZ ad sz
  have h1 := h l D cI cZ ad sz
  intro p e ha hc hk s0 m args0 below h2 h3 h4 h5
  obtain ⟨t, o, g1, g2, g3, ⟨⟨u, k1, k3, k4⟩, k5⟩, g5⟩ := h1 p e ha hc hk s0 m args0 below h2 h3 h4 h5
  exact ⟨t, o, g1, g2, g3, ⟨⟨u, k1, hq u k3, k4⟩, k5⟩, g5⟩
/-! WHAT A PLACE GETS, in the class -/
def pyS (a : Int → Int) (n x : Int) (k : Nat) : Int := psm (fun j => a (4 * j)) (fun j => a (4 * j + 1)) (fun j => a (4 * j + 2)) (fun j => a (4 * j + 3)) n x k
theorem pyS_s (a : Int → Int) (n x : Int) {k : Int} (hk : 0 ≤ k) : pyS a n x (k + 1).toNat = pyS a n x k.toNat + gV (a (4 * k)) (a (4 * k + 1)) (a (4 * k + 2)) (a (4 * k + 3)) n x := by
  rw [show (k + 1).toNat = k.toNat + 1 by omega]
  show _ + gV (a (4 * (k.toNat : Nat))) (a (4 * (k.toNat : Nat) + 1)) (a (4 * (k.toNat : Nat) + 2)) (a (4 * (k.toNat : Nat) + 3)) n x = _
  rw [Int.toNat_of_nonneg hk]
  rfl
set_option maxHeartbeats 2000000 in
theorem t_X7_shareB {f l : Int} {s : Sto} (hf : -99 ≤ f ∧ f ≤ 99) (hl : 0 ≤ l ∧ l ≤ 1980) : ClI LY 1 MX7_share [.inl f, .inl l] s (fun r s' => s' = s ∧ r = if 0 < f then max 0 (f - l) else min 0 (f + l)) := by
  refine ClI.intro (by decide) rfl (Nat.le_of_ble_eq_true rfl) (fun X C r => ?_)
  refine kb_X7_share_0 C r (by omega) ?_
  refine ⟨⟨by omega, by omega⟩, fun q => ⟨⟨by omega, by omega⟩, rfl, by rw [if_neg (by omega)]⟩, fun q => ⟨⟨by omega, by omega⟩, rfl, by rw [if_pos q]⟩⟩
set_option maxHeartbeats 2000000 in
theorem t_X7_payPlaces {s : Sto} (hn : 0 ≤ s 5 0 ∧ s 5 0 ≤ 20) (hS : ∀ j : Int, 0 ≤ j → j < 6 → (s 10 (4 * j) = 0 ∨ s 10 (4 * j) = 1) ∧ (-99 ≤ s 10 (4 * j + 1) ∧ s 10 (4 * j + 1) ≤ 99) ∧ (0 ≤ s 10 (4 * j + 2) ∧ s 10 (4 * j + 2) ≤ 99) ∧ (0 ≤ s 10 (4 * j + 3) ∧ s 10 (4 * j + 3) ≤ 20)) : ClV LY 2 MX7_payPlaces [.inr 46, .inr 3] s (fun s' => (∀ c : Nat, c ≠ 51 → s' c = s c) ∧ ∀ x : Int, 0 ≤ x → x < s 5 0 → s' 51 x = pyS (s 10) (s 5 0) x 6) := by
  refine ClV.intro (by decide) rfl (Nat.le_of_ble_eq_true rfl) (fun X C r => ?_)
  refine kb_X7_payPlaces_0 C r ?_
  generalize hN : s 5 0 = n at *
  suffices H : ∀ S : Sto, ((∀ c : Nat, c ≠ 51 → S c = s c) ∧ ∀ x : Int, 0 ≤ x → x < 0 → S 51 x = 0) → G LY X 10 [rv 46, rv 3, iv n, iv 0, none, none] [] S from H s ⟨fun _ _ => rfl, fun j g1 g2 => absurd g2 (by omega)⟩
  refine downI (P := fun i => ∀ S : Sto, ((∀ c : Nat, c ≠ 51 → S c = s c) ∧ ∀ x : Int, 0 ≤ x → x < i → S 51 x = 0) → G LY X 10 [rv 46, rv 3, iv n, iv i, none, none] [] S) (a := 0) (b := n) hn.1 ?_ ?_
  · rintro S ⟨k1, k2⟩
    refine kb_X7_payPlaces_10 C r ⟨⟨⟨by omega, by omega⟩, ⟨by omega, by omega⟩⟩, fun _ => ?_, fun z => absurd z (by omega)⟩
    suffices H2 : ∀ S : Sto, ((∀ c : Nat, c ≠ 51 → S c = s c) ∧ ∀ x : Int, 0 ≤ x → x < n → S 51 x = pyS (s 10) n x (0 : Int).toNat) → G LY X 30 [rv 46, rv 3, iv n, iv (4 * 0), none, none] [] S from H2 S ⟨k1, k2⟩
    refine downI (P := fun k => ∀ S : Sto, ((∀ c : Nat, c ≠ 51 → S c = s c) ∧ ∀ x : Int, 0 ≤ x → x < n → S 51 x = pyS (s 10) n x k.toNat) → G LY X 30 [rv 46, rv 3, iv n, iv (4 * k), none, none] [] S) (a := 0) (b := 6) (by decide) ?_ ?_
    · rintro S ⟨k1, k2⟩
      exact kb_X7_payPlaces_30 C r ⟨by decide, fun _ => ⟨k1, k2⟩, fun z => absurd z (by decide)⟩
    · rintro k h0 h6 ih S ⟨k1, k2⟩
      have hj := hS k h0 h6
      have e10 : S 10 = s 10 := k1 10 (by decide)
      have fin : ∀ S : Sto, ((∀ c : Nat, c ≠ 51 → S c = s c) ∧ ∀ x : Int, 0 ≤ x → x < n → S 51 x = pyS (s 10) n x k.toNat + if sdI (s 10 (4 * k)) n x < min n (s 10 (4 * k + 3)) then gV (s 10 (4 * k)) (s 10 (4 * k + 1)) (s 10 (4 * k + 2)) (s 10 (4 * k + 3)) n x else 0) → G LY X 30 [rv 46, rv 3, iv n, iv (4 * k + 4), none, none] [] S := by
        rintro S ⟨m1, m2⟩
        rw [show 4 * k + 4 = 4 * (k + 1) by omega]
        refine ih S ⟨m1, fun x x1 x2 => ?_⟩
        rw [m2 x x1 x2, pyS_s _ _ _ h0]
        by_cases q : sdI (s 10 (4 * k)) n x < min n (s 10 (4 * k + 3))
        · rw [if_pos q]
        · rw [if_neg q]
          have hx : sdI (s 10 (4 * k)) n x < n := by unfold sdI; split <;> omega
          unfold gV
          rw [if_neg (by omega)]
      have inner : ∀ b : Int, ((b = 0 ∧ s 10 (4 * k) = 0) ∨ (b = 1 ∧ s 10 (4 * k) = 1)) → G LY X 61 [rv 46, rv 3, iv n, iv (4 * k), iv b, iv 0] [] S := by
        intro b hb
        suffices H3 : ∀ S : Sto, ((∀ c : Nat, c ≠ 51 → S c = s c) ∧ ∀ x : Int, 0 ≤ x → x < n → S 51 x = pyS (s 10) n x k.toNat + if sdI (s 10 (4 * k)) n x < 0 then gV (s 10 (4 * k)) (s 10 (4 * k + 1)) (s 10 (4 * k + 2)) (s 10 (4 * k + 3)) n x else 0) → G LY X 61 [rv 46, rv 3, iv n, iv (4 * k), iv b, iv 0] [] S from H3 S ⟨k1, fun x x1 x2 => by
          rw [k2 x x1 x2, if_neg (by unfold sdI; split <;> omega)]; omega⟩
        refine downI (P := fun i => ∀ S : Sto, ((∀ c : Nat, c ≠ 51 → S c = s c) ∧ ∀ x : Int, 0 ≤ x → x < n → S 51 x = pyS (s 10) n x k.toNat + if sdI (s 10 (4 * k)) n x < i then gV (s 10 (4 * k)) (s 10 (4 * k + 1)) (s 10 (4 * k + 2)) (s 10 (4 * k + 3)) n x else 0) → G LY X 61 [rv 46, rv 3, iv n, iv (4 * k), iv b, iv i] [] S) (a := 0) (b := min n (s 10 (4 * k + 3))) (by omega) ?_ ?_
        · rintro S ⟨m1, m2⟩
          have e10 : S 10 = s 10 := m1 10 (by decide)
          refine kb_X7_payPlaces_61 C r ⟨⟨⟨by omega, by omega⟩, ⟨by omega, by omega⟩⟩, fun _ => fin S ⟨m1, m2⟩, fun z => ⟨⟨by omega, by omega⟩, ?_⟩⟩
          rw [e10]
          exact ⟨⟨⟨by omega, by omega⟩, ⟨by omega, by omega⟩⟩, fun _ => fin S ⟨m1, m2⟩, fun z2 => absurd z2 (by omega)⟩
        · rintro i i0 i1 ihi S ⟨m1, m2⟩
          have e10 : S 10 = s 10 := m1 10 (by decide)
          have sh := t_X7_shareB (f := s 10 (4 * k + 1)) (l := i * s 10 (4 * k + 2)) (s := S) hj.2.1 (mul_bd ⟨i0, by omega⟩ hj.2.2.1)
          have go : ∀ x : Int, 0 ≤ x → x < n → sdI (s 10 (4 * k)) n x = i → ∀ g : Int, (g = if 0 < s 10 (4 * k + 1) then max 0 (s 10 (4 * k + 1) - i * s 10 (4 * k + 2)) else min 0 (s 10 (4 * k + 1) + i * s 10 (4 * k + 2))) → G LY X 61 [rv 46, rv 3, iv n, iv (4 * k), iv b, iv (i + 1)] [] (up S 51 x (S 51 x + g)) := by
            intro x x1 x2 hx g hg
            refine ihi _ ⟨fun c c1 => by rw [up_row c1, m1 c c1], fun y y1 y2 => ?_⟩
            rw [up_if]
            by_cases q : y = x
            · have hgv : gV (s 10 (4 * k)) (s 10 (4 * k + 1)) (s 10 (4 * k + 2)) (s 10 (4 * k + 3)) n x = g := by
                unfold gV
                rw [hx, if_pos (show i < s 10 (4 * k + 3) by omega), hg]
              rw [if_pos q, m2 x x1 x2, if_neg (by omega), q, if_pos (by omega), hgv, Int.add_zero]
            · rw [if_neg q, m2 y y1 y2]
              have hne : sdI (s 10 (4 * k)) n y ≠ i := by
                rw [← hx]
                unfold sdI
                split <;> omega
              by_cases q2 : sdI (s 10 (4 * k)) n y < i
              · rw [if_pos q2, if_pos (by omega)]
              · rw [if_neg q2, if_neg (by omega)]
          refine kb_X7_payPlaces_61 C r ⟨⟨⟨by omega, by omega⟩, ⟨by omega, by omega⟩⟩, fun z => absurd z (by omega), fun z => ⟨⟨by omega, by omega⟩, ?_⟩⟩
          rw [e10]
          refine ⟨⟨⟨by omega, by omega⟩, ⟨by omega, by omega⟩⟩, fun z2 => absurd z2 (by omega), fun z2 => ⟨⟨by omega, by omega⟩, fun z3 => ⟨⟨by omega, by omega⟩, ⟨by omega, by omega⟩, ⟨by omega, by omega⟩, 1, _, by decide, sh, ?_⟩, fun z3 => ⟨⟨by omega, by omega⟩, ⟨by omega, by omega⟩, ⟨by omega, by omega⟩, 1, _, by decide, sh, ?_⟩⟩⟩
          · rintro g t1 ⟨ht, hg⟩
            refine ⟨⟨by omega, by omega⟩, ?_⟩
            rintro t2 rfl
            rw [ht]
            exact go i i0 (by omega) (by unfold sdI; rw [if_pos (by omega)]) g hg
          · rintro g t1 ⟨ht, hg⟩
            refine ⟨⟨by omega, by omega⟩, ?_⟩
            rintro t2 rfl
            rw [ht]
            exact go (n - 1 - i) (by omega) (by omega) (by unfold sdI; rw [if_neg (by omega)]; omega) g hg
      refine kb_X7_payPlaces_30 C r ⟨⟨by omega, by omega⟩, fun z => absurd z (by omega), fun _ => ⟨⟨by omega, by omega⟩, ?_⟩⟩
      rw [e10]
      exact ⟨⟨by omega, by omega⟩, fun z => inner 0 (by omega), fun z => inner 1 (by omega)⟩
  · rintro i i0 i1 ih S ⟨k1, k2⟩
    refine kb_X7_payPlaces_10 C r ⟨⟨⟨by omega, by omega⟩, ⟨by omega, by omega⟩⟩, fun z => absurd z (by omega), fun _ => ⟨⟨by omega, by omega⟩, ?_⟩⟩
    rintro t rfl
    refine ih _ ⟨fun c c1 => by rw [up_row c1, k1 c c1], fun x x1 x2 => ?_⟩
    rw [up_if]
    by_cases q : x = i
    · rw [if_pos q]
    · rw [if_neg q, k2 x x1 (by omega)]
/-! THE QUEUE, as both have it -/
theorem RowR.onto {row : Int → Int} {n : Nat} {ah : Int → Int → Prop} (h : RowR row n (srtL ah n)) {p : Int} (h0 : 0 ≤ p) (h1 : p < n) : ∃ i : Int, 0 ≤ i ∧ i < n ∧ row i = p := by
  obtain ⟨j, hj, e⟩ := List.getElem_of_mem ((srtL_mem (ah := ah) n p).mpr ⟨h0, h1⟩)
  have hl : j < n := by rw [srtL_len] at hj; exact hj
  refine ⟨(n : Int) - 1 - j, by omega, by omega, ?_⟩
  rw [h.2 _ (by omega) (by omega), show ((n : Int) - 1 - ((n : Int) - 1 - j)).toNat = j by omega, List.getD_eq_getElem?_getD, List.getElem?_eq_getElem hj]
  exact e
theorem sfx_congr {rk rk' f f' : Int → Int} {n : Int} : ∀ m : Nat, (m : Int) ≤ n → (∀ k : Int, 0 ≤ k → k < n → rk (f k) = rk' (f' k)) → sfx rk f n m = sfx rk' f' n m
  | 0, _, _ => rfl
  | m + 1, hm, h => by
    show (if rk (f (n - (m + 1 : Nat))) = -1 then sfx rk f n m else rk (f (n - (m + 1 : Nat))) :: sfx rk f n m) = (if rk' (f' (n - (m + 1 : Nat))) = -1 then sfx rk' f' n m else rk' (f' (n - (m + 1 : Nat))) :: sfx rk' f' n m)
    rw [sfx_congr m (by omega) h, h _ (by omega) (by omega)]
/-- the QUEUE of the store s by the places pl -/
abbrev sqS (s : Sto) (pl : Int → Int) (p : Int) : List Int := sfx (rkF (s 75 9) (s 82 0) pl) (fun i => s 77 (6 * p + i)) (s 76 p) (s 76 p).toNat
noncomputable def quS (s : Sto) (pl : Int → Int) : List Int := srtL (AHR (sqS s pl) (s 82 1) (s 79) (s 80)) (s 75 4).toNat
/-- what outlasts a call, as the QUEUE wants it -/
theorem Inv.nms [Inhabited YT] {s : Sto} (h : Inv s) : (0 ≤ s 75 4 ∧ s 75 4 ≤ 20) ∧ (∀ p : Int, 0 ≤ p → p < s 75 4 → (0 ≤ s 76 p ∧ s 76 p ≤ 6) ∧ ∀ i : Int, 0 ≤ i → i < s 76 p → 0 ≤ s 77 (6 * p + i) ∧ s 77 (6 * p + i) < 26) ∧ (∀ p : Int, 0 ≤ p → p < s 75 4 → rg (s 79 p) ∧ rg (s 80 p)) ∧ (0 ≤ s 82 0 ∧ s 82 0 ≤ 2) ∧ (0 ≤ s 82 1 ∧ s 82 1 ≤ 2) := by
  obtain ⟨a1, a2, a3, a4, a5, a6, a7, a8, a9, a10, a11, a12, a13, a14, a15⟩ := h.2.1
  have e6 : s 5 0 = s 75 4 := a6.1
  have b6 : 0 ≤ s 5 0 ∧ s 5 0 ≤ 20 := a6.2
  refine ⟨by omega, fun p p1 p2 => ?_, fun p p1 p2 => ?_, ?_, ?_⟩
  · have g := a7 p p1 (by show p < s 5 0; omega)
    rw [Int.zero_add] at g
    exact ⟨by have := g.1; omega, g.2.1⟩
  · obtain ⟨g1, g2, g3⟩ := a8 p p1 (by show p < s 5 0; omega)
    rw [g2.1] at g2
    rw [g3.1] at g3
    exact ⟨⟨by omega, by omega⟩, g3.2⟩
  · have := a5 0 (by decide) (by decide)
    rw [this.1] at this
    exact this.2
  · have := a5 1 (by decide) (by decide)
    rw [this.1] at this
    exact this.2
theorem quS_uniq [Inhabited YT] {s : Sto} (h : Inv s) {o : Int} {od pl pl' : Int → Int} (hO : OdR (s 75 9) o od) (h1 : PlR (s 75 9) od pl) (h2 : PlR (s 75 9) od pl') : (∀ p : Int, 0 ≤ p → p < s 75 4 → sqS s pl p = sqS s pl' p) ∧ quS s pl = quS s pl' := by
  obtain ⟨n1, n2, n3, n4, n5⟩ := h.nms
  have e : ∀ p : Int, 0 ≤ p → p < s 75 4 → sqS s pl p = sqS s pl' p := by
    intro p p1 p2
    have g := n2 p p1 p2
    refine sfx_congr _ (by omega) (fun k k1 k2 => ?_)
    show rkF (s 75 9) (s 82 0) pl (s 77 (6 * p + k)) = rkF (s 75 9) (s 82 0) pl' (s 77 (6 * p + k))
    unfold rkF
    by_cases q : s 77 (6 * p + k) < s 75 9
    · rw [if_pos q, if_pos q, h1.uniq h2 hO (g.2 k k1 k2).1 q]
    · rw [if_neg q, if_neg q]
  refine ⟨e, srtL_congr _ (fun p q p1 p2 q1 q2 => ?_)⟩
  unfold AHR
  rw [e p p1 (by omega), e q q1 (by omega)]
theorem t_line [Inhabited YT] {s : Sto} (h : Inv s) {o : Int} {od : Int → Int} (hO : OdR (s 75 9) o od) : ClV LY 2 MX7_lineUp [.inr 46, .inr 3, .inl o] s (fun s' => (∀ c : Nat, c ≠ 47 → c ≠ 48 → c ≠ 49 → c ≠ 50 → s' c = s c) ∧ ∃ pl : Int → Int, PlR (s 75 9) od pl ∧ (∀ l : Int, 0 ≤ l → l < 26 → s' 47 l = rkF (s 75 9) (s 82 0) pl l) ∧ (∀ p : Int, 0 ≤ p → p < s 75 4 → s' 48 p = keyN 6 (sqS s pl p)) ∧ RowR (s' 49) (s 75 4) (quS s pl) ∧ ∀ i : Int, 0 ≤ i → i < s 75 4 → s' 50 (s' 49 i) = i) := by
  obtain ⟨n1, n2, n3, n4, n5⟩ := h.nms
  obtain ⟨a1, a2, a3, a4, a5, a6, a7, a8, a9, a10, a11, a12, a13, a14, a15⟩ := h.2.1
  have e1 : s 3 0 = s 75 9 := a1.1
  have e6 : s 5 0 = s 75 4 := a6.1
  have e40 : s 4 0 = s 82 0 := (a5 0 (by decide) (by decide)).1
  have e41 : s 4 1 = s 82 1 := (a5 1 (by decide) (by decide)).1
  have pe : ∀ p : Int, 0 ≤ p → p < s 75 4 → s 8 p = s 79 p ∧ s 9 p = s 80 p := fun p p1 p2 => by
    obtain ⟨g1, g2, g3⟩ := a8 p p1 (by show p < s 5 0; omega)
    exact ⟨g2.1, g3.1⟩
  refine (t_X7_lineUp (o := o) (od := od) (nn := s 76) (ff := s 77) (by rw [e1]; exact hO) (by rw [e40]; exact n4) (by rw [e41]; exact n5) (by rw [e6]; exact n1) a7 (fun p p1 p2 => by rw [(pe p p1 (by omega)).1, (pe p p1 (by omega)).2]; exact n3 p p1 (by omega))).mono ?_
  rintro s' ⟨g1, pl, g2, g3, g4, g5, g6⟩
  rw [e1] at g2 g3 g4 g5
  rw [e6] at g4 g5 g6
  rw [e40] at g3 g4 g5
  refine ⟨g1, pl, g2, g3, fun p p1 p2 => ?_, ?_, g6⟩
  · rw [g4 p p1 p2]
    show keyN 6 (sfx _ (fun i => s 77 (6 * (0 + p) + i)) (s 76 (0 + p)) (s 76 (0 + p)).toNat) = _
    rw [Int.zero_add]
  · have : srtL (AHR (sqG (s 75 9) (s 82 0) pl (s 76) (s 77)) (s 4 1) (s 8) (s 9)) (s 75 4).toNat = quS s pl := by
      refine srtL_congr _ (fun p q p1 p2 q1 q2 => ?_)
      unfold AHR tieR
      rw [e41, (pe p p1 (by omega)).1, (pe p p1 (by omega)).2, (pe q q1 (by omega)).1, (pe q q1 (by omega)).2]
      show ltL (sfx _ (fun i => s 77 (6 * (0 + p) + i)) (s 76 (0 + p)) (s 76 (0 + p)).toNat) (sfx _ (fun i => s 77 (6 * (0 + q) + i)) (s 76 (0 + q)) (s 76 (0 + q)).toNat) ∨ (sfx _ (fun i => s 77 (6 * (0 + p) + i)) (s 76 (0 + p)) (s 76 (0 + p)).toNat) = (sfx _ (fun i => s 77 (6 * (0 + q) + i)) (s 76 (0 + q)) (s 76 (0 + q)).toNat) ∧ _ ↔ _
      rw [Int.zero_add, Int.zero_add]
    rw [← this]
    exact g5
