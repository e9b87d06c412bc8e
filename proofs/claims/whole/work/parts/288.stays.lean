/-! WHO STAYS, in the class -/
def QW (t : Sto) (oq : Int → Int) (f : Int → Int) : Prop := ∃ pl : Int → Int, PlR (t 75 9) oq pl ∧ RowR f (t 75 4) (quS t pl)
theorem QW.pm {t : Sto} {oq f : Int → Int} (hn : 0 ≤ t 75 4) (h : QW t oq f) : PM f (t 75 4) := by
  obtain ⟨pl, _, h⟩ := h
  have h' : RowR f ((t 75 4).toNat : Nat) (quS t pl) := by rw [Int.toNat_of_nonneg hn]; exact h
  refine ⟨fun i i0 i1 => ?_, fun i j i0 i1 j0 j1 e => RowR.inj h' i0 (by omega) j0 (by omega) e, fun p p0 p1 => ?_⟩
  · have := RowR.bd h' i0 (by omega); omega
  · obtain ⟨i, a, b, c⟩ := RowR.onto h' (p := p) p0 (by omega)
    exact ⟨i, a, by omega, c⟩
theorem QW.uniq {t : Sto} {o : Int} {oq f f' : Int → Int} (hm : NMS t) (hO : OdR (t 75 9) o oq) (h : QW t oq f) (h' : QW t oq f') : ∀ i : Int, 0 ≤ i → i < t 75 4 → f' i = f i := by
  obtain ⟨pl, a, b⟩ := h
  obtain ⟨pl', a', b'⟩ := h'
  intro i i0 i1
  rw [b.2 i i0 i1, b'.2 i i0 i1, (quS_uniqN hm hO a' a).2]
theorem DPc.congr {q f : Int → Int} {n k : Int} {A : Nat} {L L' : Int → Int} (h : DPc q f n A L k) (e : L' k = L k) : DPc q f n A L' k := by
  unfold DPc
  rw [e]
  exact h
set_option maxHeartbeats 4000000 in
theorem t_X3_mostInOrder {q f : Int → Int} {n : Int} {A : Nat} {s : Sto} (hq : PM q n) (n20 : 0 ≤ n ∧ n ≤ 20) (h73 : ∀ i : Int, 0 ≤ i → i < n → s 73 i = q i) (h50 : ∀ p : Int, 0 ≤ p → p < n → s 50 p = f p) (hf : ∀ p : Int, 0 ≤ p → p < n → rg (f p)) (hA : A < 2 ^ 20) : ClI LY 1 MX3_mostInOrder [.inr 69, .inr 46, .inl n, .inl (A : Int)] s (fun r s' => (∀ c : Nat, c ≠ 74 → s' c = s c) ∧ (0 ≤ r ∧ r ≤ n) ∧ (∃ M : Nat, CH q f n M ∧ (∀ x : Nat, M.testBit x = true → A.testBit x = true) ∧ (pcF M 20 : Int) = r) ∧ ∀ M : Nat, CH q f n M → (∀ x : Nat, M.testBit x = true → A.testBit x = true) → (pcF M 20 : Int) ≤ r) := by
  have rn : rg n := ⟨by omega, by omega⟩
  refine ClI.intro (by decide) rfl (Nat.le_of_ble_eq_true rfl) (fun X C r => ?_)
  refine kb_X3_mostInOrder_0 C r ?_
  have key : ∀ (S : Sto) (m : Int), (∀ c : Nat, c ≠ 74 → S c = s c) → (∀ j : Int, 0 ≤ j → j < 0 → DPc q f n A (S 74) j) → (0 ≤ m ∧ m ≤ 0) → (∀ j : Int, 0 ≤ j → j < 0 → S 74 j ≤ m) → (m = 0 ∨ ∃ j : Int, 0 ≤ j ∧ j < 0 ∧ S 74 j = m) → G LY X 6 [rv 69, rv 46, iv n, iv (A : Int), iv m, iv 0, none] [] S := by
    refine downI (P := fun k => ∀ (S : Sto) (m : Int), (∀ c : Nat, c ≠ 74 → S c = s c) → (∀ j : Int, 0 ≤ j → j < k → DPc q f n A (S 74) j) → (0 ≤ m ∧ m ≤ k) → (∀ j : Int, 0 ≤ j → j < k → S 74 j ≤ m) → (m = 0 ∨ ∃ j : Int, 0 ≤ j ∧ j < k ∧ S 74 j = m) → G LY X 6 [rv 69, rv 46, iv n, iv (A : Int), iv m, iv k, none] [] S) (a := 0) (b := n) n20.1 ?_ ?_
    · intro S m k1 k2 k3 k4 k5
      refine kb_X3_mostInOrder_6 C r ⟨⟨rn, rn⟩, fun _ => ⟨k1, k3, ?_, fun M c1 c2 => ?_⟩, fun z => absurd z (by omega)⟩
      · by_cases z : m = 0
        · refine ⟨0, CH.zero, fun x hx => ?_, by rw [pc_0, z]; rfl⟩
          rw [Nat.zero_testBit] at hx
          exact absurd hx (by decide)
        · obtain ⟨j, j0, j1, j2⟩ := k5.resolve_left z
          rcases k2 j j0 j1 with g | ⟨_, _, ⟨M, m1, _, m3, m4⟩, _⟩
          · have := g.2; omega
          · exact ⟨M, m1, m3, by omega⟩
      · by_cases z : M = 0
        · rw [z, pc_0]; omega
        · obtain ⟨j, j0, j1, j2⟩ := LA.ex hq z c1.1
          have := k4 j j0 j1
          rcases k2 j j0 j1 with g | ⟨_, _, _, g4⟩
          · have a := c2 _ j2.1
            rw [g.1] at a
            exact absurd a (by decide)
          · have := g4 M c1 j2 c2
            omega
    · intro k k0 kn ih S m k1 k2 k3 k4 k5
      have qb := hq.1 k k0 kn
      refine kb_X3_mostInOrder_6 C r ⟨⟨⟨by omega, by omega⟩, rn⟩, fun z => absurd z (by omega), fun _ => ⟨⟨by omega, by omega⟩, ?_⟩⟩
      rintro s1 h1
      have e1 : ∀ c : Nat, c ≠ 74 → s1 c = s c := fun c hc => by rw [h1, up_row hc, k1 c hc]
      have e74 : ∀ j : Int, 0 ≤ j → j < k → s1 74 j = S 74 j := fun j _ j1 => by rw [h1, up_idx (by omega)]
      have e73 : s1 73 k = q k := by rw [e1 73 (by decide), h73 k k0 kn]
      have dp1 : ∀ j : Int, 0 ≤ j → j < k → DPc q f n A (s1 74) j := fun j j0 j1 => (k2 j j0 j1).congr (e74 j j0 j1)
      have tb := bit_iff (n := A) (i := q k) (by omega) (by omega)
      rw [e73]
      refine ⟨⟨by omega, by omega⟩, fun z => ?_, fun z => ?_⟩
      · have zf : A.testBit (q k).toNat = false := by
          cases hb : A.testBit (q k).toNat with
          | false => rfl
          | true => exact absurd (tb.mpr hb) z
        have s1k : s1 74 k = 0 := by rw [h1, up_at]
        refine ih s1 m e1 (fun j j0 j1 => ?_) (by omega) (fun j j0 j1 => ?_) ?_
        · by_cases e : j = k
          · rw [e]; exact Or.inl ⟨zf, s1k⟩
          · exact dp1 j j0 (by omega)
        · by_cases e : j = k
          · rw [e, s1k]; exact k3.1
          · rw [e74 j j0 (by omega)]; exact k4 j j0 (by omega)
        · rcases k5 with y | ⟨j, j0, j1, j2⟩
          · exact Or.inl y
          · exact Or.inr ⟨j, j0, by omega, by rw [e74 j j0 j1]; exact j2⟩
      · have zt := tb.mp z
        have inner : ∀ R : Sto, (∀ c : Nat, c ≠ 74 → R c = s c) → (∀ j : Int, 0 ≤ j → j < k → R 74 j = s1 74 j) → (0 ≤ R 74 k ∧ R 74 k ≤ k) → (∀ j : Int, 0 ≤ j → j < 0 → f (q j) < f (q k) → s1 74 j ≤ R 74 k) → (R 74 k = 0 ∨ ∃ j : Int, 0 ≤ j ∧ j < k ∧ f (q j) < f (q k) ∧ s1 74 j = R 74 k) → G LY X 38 [rv 69, rv 46, iv n, iv (A : Int), iv m, iv k, iv 0] [] R := by
          refine downI (P := fun i => ∀ R : Sto, (∀ c : Nat, c ≠ 74 → R c = s c) → (∀ j : Int, 0 ≤ j → j < k → R 74 j = s1 74 j) → (0 ≤ R 74 k ∧ R 74 k ≤ k) → (∀ j : Int, 0 ≤ j → j < i → f (q j) < f (q k) → s1 74 j ≤ R 74 k) → (R 74 k = 0 ∨ ∃ j : Int, 0 ≤ j ∧ j < k ∧ f (q j) < f (q k) ∧ s1 74 j = R 74 k) → G LY X 38 [rv 69, rv 46, iv n, iv (A : Int), iv m, iv k, iv i] [] R) (a := 0) (b := k) k0 ?_ ?_
          · intro R r1 r2 r3 r4 r5
            refine kb_X3_mostInOrder_38 C r (by decide) ⟨⟨⟨by omega, by omega⟩, ⟨by omega, by omega⟩⟩, fun _ => ⟨⟨by omega, by omega⟩, ⟨by omega, by omega⟩, ?_⟩, fun z => absurd z (by omega)⟩
            rintro s2 h2
            have s2k : s2 74 k = R 74 k + 1 := by rw [h2, up_at]
            have s2j : ∀ j : Int, 0 ≤ j → j < k → s2 74 j = s1 74 j := fun j j0 j1 => by rw [h2, up_idx (by omega), r2 j j0 j1]
            rw [s2k]
            refine ⟨⟨by omega, by omega⟩, ⟨⟨by omega, by omega⟩, ⟨by omega, by omega⟩⟩, ?_⟩
            refine ih s2 _ (fun c hc => by rw [h2, up_row hc, r1 c hc]) (fun j j0 j1 => ?_) (by omega) (fun j j0 j1 => ?_) ?_
            · by_cases e : j = k
              · rw [e]
                exact DPc.step hq n20.2 ⟨k0, kn⟩ dp1 zt r3 r4 r5 s2k
              · exact (dp1 j j0 (by omega)).congr (s2j j j0 (by omega))
            · by_cases e : j = k
              · rw [e, s2k]; omega
              · have := k4 j j0 (by omega)
                rw [s2j j j0 (by omega), e74 j j0 (by omega)]; omega
            · rcases Int.le_total m (R 74 k + 1) with y | y
              · exact Or.inr ⟨k, k0, by omega, by rw [s2k]; omega⟩
              · rcases k5 with y2 | ⟨j, j0, j1, j2⟩
                · omega
                · exact Or.inr ⟨j, j0, by omega, by rw [s2j j j0 j1, e74 j j0 j1, j2]; omega⟩
          · intro i i0 ik ih2 R r1 r2 r3 r4 r5
            have ib := hq.1 i i0 (by omega)
            have a73 : R 73 i = q i := by rw [r1 73 (by decide), h73 i i0 (by omega)]
            have b73 : R 73 k = q k := by rw [r1 73 (by decide), h73 k k0 kn]
            have a50 : R 50 (q i) = f (q i) := by rw [r1 50 (by decide), h50 _ ib.1 ib.2]
            have b50 : R 50 (q k) = f (q k) := by rw [r1 50 (by decide), h50 _ qb.1 qb.2]
            have bi := (dp1 i i0 ik).bd i0
            refine kb_X3_mostInOrder_38 C r (by decide) ?_
            rw [a73, b73, a50, b50, r2 i i0 ik]
            refine ⟨⟨⟨by omega, by omega⟩, ⟨by omega, by omega⟩⟩, fun z => absurd z (by omega), fun _ => ⟨⟨by omega, by omega⟩, ⟨by omega, by omega⟩, ⟨by omega, by omega⟩, ⟨by omega, by omega⟩, ⟨hf _ ib.1 ib.2, hf _ qb.1 qb.2⟩, fun z => ?_, fun z => ⟨⟨by omega, by omega⟩, ⟨by omega, by omega⟩, ⟨⟨by omega, by omega⟩, ⟨by omega, by omega⟩⟩, ⟨by omega, by omega⟩, ?_⟩⟩⟩
            · refine ih2 R r1 r2 r3 (fun j j0 j1 hz => ?_) r5
              by_cases e : j = i
              · rw [e] at hz; omega
              · exact r4 j j0 (by omega) hz
            · rintro s2 h2
              have s2k : s2 74 k = max (R 74 k) (s1 74 i) := by rw [h2, up_at]
              refine ih2 s2 (fun c hc => by rw [h2, up_row hc, r1 c hc]) (fun j j0 j1 => by rw [h2, up_idx (by omega), r2 j j0 j1]) (by omega) (fun j j0 j1 hz => ?_) ?_
              · by_cases e : j = i
                · rw [e]; omega
                · have := r4 j j0 (by omega) hz; omega
              · rw [s2k]
                rcases Int.le_total (R 74 k) (s1 74 i) with y | y
                · exact Or.inr ⟨i, i0, by omega, z, by omega⟩
                · rw [show max (R 74 k) (s1 74 i) = R 74 k by omega]
                  exact r5
        have s1k : s1 74 k = 0 := by rw [h1, up_at]
        exact inner s1 e1 (fun _ _ _ => rfl) (by omega) (fun j j0 j1 => absurd j1 (by omega)) (Or.inl s1k)
  exact key s 0 (fun _ _ => rfl) (fun j j0 j1 => absurd j1 (by omega)) (by omega) (fun j j0 j1 => absurd j1 (by omega)) (Or.inl rfl)
/-- the least there is -/
theorem MS.ex {q f : Int → Int} {n r : Int} (h : ∃ M : Nat, CH q f n M ∧ (pcF M 20 : Int) = r) (hb : ∀ M : Nat, CH q f n M → (pcF M 20 : Int) ≤ r) : ∃ M : Nat, MS q f n M ∧ (pcF M 20 : Int) = r := by
  have key : ∀ b M : Nat, M ≤ b → CH q f n M → (pcF M 20 : Int) = r → ∃ M : Nat, (CH q f n M ∧ (pcF M 20 : Int) = r) ∧ ∀ N : Nat, CH q f n N → (pcF N 20 : Int) = r → M ≤ N := by
    intro b
    induction b with
    | zero => intro M hM h1 h2; exact ⟨M, ⟨h1, h2⟩, fun N _ _ => by omega⟩
    | succ b ih =>
      intro M hM h1 h2
      by_cases z : ∃ N : Nat, N ≤ b ∧ CH q f n N ∧ (pcF N 20 : Int) = r
      · obtain ⟨N, a, c, d⟩ := z
        exact ih N a c d
      · refine ⟨M, ⟨h1, h2⟩, fun N n1 n2 => ?_⟩
        rcases Nat.lt_or_ge b N with y | y
        · omega
        · exact absurd ⟨N, y, n1, n2⟩ z
  obtain ⟨M, h1, h2⟩ := h
  obtain ⟨N, ⟨a, b⟩, c⟩ := key M M (Nat.le_refl _) h1 h2
  exact ⟨N, ⟨a, fun K hK => ⟨by have := hb K hK; omega, fun e => c K hK (by omega)⟩⟩, b⟩
set_option maxHeartbeats 4000000 in
theorem t_whoStays {u t : Sto} {od oq : Int → Int} {o : Int} (h : LR u t od) (hN : NamesR (u 5 0) (u 6) (t 76) (t 77) 0) (hO : OdR (t 75 9) o oq) : ClI LY 3 MX3_whoStays [.inr 69, .inr 3, .inr 46, .inl o] u (fun r s' => (∀ c : Nat, ¬ (47 ≤ c ∧ c ≤ 50) → c ≠ 73 → c ≠ 74 → s' c = u c) ∧ ∃ (qa qb fb : Int → Int) (M : Nat), QW t od qa ∧ QW t oq qb ∧ (∀ i : Int, 0 ≤ i → i < t 75 4 → fb (qb i) = i) ∧ MS qa fb (t 75 4) M ∧ M < 2 ^ 20 ∧ r = M) := by
  have n1 := h.nms.1
  have e5 : u 5 0 = t 75 4 := h.1.2.1.1
  refine ClI.intro (by decide) rfl (Nat.le_of_ble_eq_true rfl) (fun X C r => ?_)
  refine kb_X3_whoStays_0 C r (by decide) ⟨2, _, by decide, t_lineL (o := u 3 2) (oq := od) h hN h.2.1, ?_⟩
  rintro a ⟨a1, pl, a2, _, _, a5, _⟩
  rw [e5]
  refine ⟨⟨⟨by omega, by omega, by omega⟩, by omega, by omega⟩, ?_⟩
  rintro b hb
  have eb : ∀ c : Nat, ¬ (47 ≤ c ∧ c ≤ 50) → c ≠ 73 → b c = u c := fun c c1 c2 => by rw [hb, cpy_row c2, a1 c (by omega) (by omega) (by omega) (by omega)]
  have b73 : ∀ i : Int, 0 ≤ i → i < t 75 4 → b 73 i = a 49 i := fun i i0 i1 => by rw [hb, cpy_in (by omega), show 0 + (i - 0) = i by omega]
  have lrb : LR b t od := h.congr (fun c c1 c2 => eb c (by omega) (by omega))
  refine ⟨2, _, by decide, t_lineL (o := o) (oq := oq) lrb (by rw [eb 5 (by decide) (by decide), eb 6 (by decide) (by decide)]; exact hN) hO, ?_⟩
  rintro w ⟨w1, pl', w2, _, _, w5, w6⟩
  have QA : QW t od (a 49) := ⟨pl, a2, a5⟩
  have QB : QW t oq (w 49) := ⟨pl', w2, w5⟩
  have PA := QA.pm n1.1
  have PB := QB.pm n1.1
  have w73 : ∀ i : Int, 0 ≤ i → i < t 75 4 → w 73 i = a 49 i := fun i i0 i1 => by rw [w1 73 (by decide) (by decide) (by decide) (by decide), b73 i i0 i1]
  have w50 : ∀ p : Int, 0 ≤ p → p < t 75 4 → rg (w 50 p) := fun p p0 p1 => by
    obtain ⟨i, i0, i1, i2⟩ := PB.2.2 p p0 p1
    have := w6 i i0 i1
    rw [i2] at this
    rw [this]
    exact ⟨by omega, by omega⟩
  have two : 2 ^ (t 75 4).toNat ≤ 2 ^ 20 := Nat.pow_le_pow_right (by decide) (by omega)
  have p0 : 0 < 2 ^ (t 75 4).toNat := Nat.pow_pos (by decide)
  have sh1 : xshl 1 (t 75 4) - 1 = ((2 ^ (t 75 4).toNat - 1 : Nat) : Int) := by
    have := xshl_nat (n := 1) (b := (t 75 4).toNat) (by omega) (by omega)
    rw [show ((1 : Nat) : Int) = 1 from rfl, Int.toNat_of_nonneg (by omega), Nat.one_mul] at this
    rw [this]
    omega
  have all : ∀ M : Nat, CH (a 49) (w 50) (t 75 4) M → ∀ x : Nat, M.testBit x = true → (2 ^ (t 75 4).toNat - 1).testBit x = true := fun M c1 x hx => by
    rw [Nat.testBit_two_pow_sub_one, decide_eq_true_eq]
    exact bit_lo c1.1 hx
  rw [sh1]
  refine ⟨1, _, by decide, t_X3_mostInOrder (q := a 49) (f := w 50) PA n1 w73 (fun _ _ _ => rfl) w50 (by omega), ?_⟩
  rintro m y ⟨y1, y2, ⟨M0, m1, _, m3⟩, y4⟩
  obtain ⟨M, ms, mp⟩ := MS.ex ⟨M0, m1, m3⟩ (fun M c => y4 M c (all M c))
  have Mlt : M < 2 ^ 20 := Nat.lt_of_lt_of_le ms.1.1 two
  -- those with great numbers go first
  have key : ∀ (S : Sto) (A : Nat), (∀ c : Nat, c ≠ 74 → S c = w c) → (∀ x : Nat, A.testBit x = true ↔ (x : Int) < t 75 4 ∧ ((x : Int) ≤ t 75 4 - 1 ∨ M.testBit x = true)) → A < 2 ^ 20 → G LY X 64 [rv 69, rv 3, rv 46, iv o, iv (t 75 4), iv (A : Int), iv m, iv (t 75 4 - 1), none] [] S := by
    have go : ∀ (k : Nat) (S : Sto) (A : Nat), (k : Int) ≤ t 75 4 → (∀ c : Nat, c ≠ 74 → S c = w c) → (∀ x : Nat, A.testBit x = true ↔ (x : Int) < t 75 4 ∧ ((x : Int) ≤ (k : Int) - 1 ∨ M.testBit x = true)) → A < 2 ^ 20 → G LY X 64 [rv 69, rv 3, rv 46, iv o, iv (t 75 4), iv (A : Int), iv m, iv ((k : Int) - 1), none] [] S := by
      intro k
      induction k with
      | zero =>
        intro S A _ k1 k2 k3
        have eA : A = M := by
          apply Nat.eq_of_testBit_eq
          intro x
          rw [Bool.eq_iff_iff, k2]
          constructor
          · rintro ⟨_, z | z⟩
            · omega
            · exact z
          · intro z
            have := bit_lo ms.1.1 z
            exact ⟨by omega, Or.inr z⟩
        refine kb_X3_whoStays_64 C r ⟨⟨by omega, by omega⟩, fun _ => ⟨fun c c1 c2 c3 => ?_, a 49, w 49, w 50, M, QA, QB, w6, ms, Mlt, by rw [eA]⟩, fun z => absurd z (by omega)⟩
        rw [k1 c c3, w1 c (by omega) (by omega) (by omega) (by omega), eb c c1 c2]
      | succ k ih =>
        intro S A hk k1 k2 k3
        have ek : ((k + 1 : Nat) : Int) - 1 = (k : Int) := by omega
        rw [ek] at k2 ⊢
        obtain ⟨B, b1, b2, b3⟩ := xclrN (M := A) (p := k) k3 (by omega)
        refine kb_X3_whoStays_64 C r ⟨⟨by omega, by omega⟩, fun z => absurd z (by omega), fun _ => ?_⟩
        rw [b1]
        refine ⟨1, _, by decide, t_X3_mostInOrder (q := a 49) (f := w 50) PA n1 (fun i i0 i1 => by rw [k1 73 (by decide)]; exact w73 i i0 i1) (fun p _ _ => by rw [k1 50 (by decide)]) w50 (by omega), ?_⟩
        rintro v x ⟨x1, x2, ⟨M1, q1, q2, q3⟩, x4⟩
        have kx : ∀ c : Nat, c ≠ 74 → x c = w c := fun c hc => by rw [x1 c hc, k1 c hc]
        refine ⟨⟨⟨by omega, by omega⟩, ⟨by omega, by omega⟩⟩, fun z => ?_, fun z => ?_⟩
        · refine ih x A (by omega) kx (fun j => ?_) k3
          rw [k2]
          constructor
          · rintro ⟨g1, g2⟩
            refine ⟨g1, ?_⟩
            rcases g2 with g2 | g2
            · by_cases e : j = k
              · -- it must stay
                refine Or.inr ?_
                rw [e]
                cases hb : M.testBit k with
                | true => rfl
                | false =>
                  have := x4 M ms.1 (fun i hi => (b3 i).mpr ⟨(k2 i).mpr ⟨by have := bit_lo ms.1.1 hi; omega, Or.inr hi⟩, fun e => by rw [e, hb] at hi; exact absurd hi (by decide)⟩)
                  have := y4 M1 q1 (all M1 q1)
                  omega
              · exact Or.inl (by omega)
            · exact Or.inr g2
          · rintro ⟨g1, g2⟩
            refine ⟨g1, g2.imp (fun g => by omega) id⟩
        · refine ih x B (by omega) kx (fun j => ?_) (by omega)
          have nk : M.testBit k = false := by
            cases hb : M.testBit k with
            | false => rfl
            | true =>
              have sl : M1 < M := by
                refine sub_lt (p := k) ?_ hb (fun j hj hj1 => ?_) 20 (fun j hj => by rw [bit_big (Nat.lt_of_lt_of_le q1.1 two) (by omega), bit_big Mlt (by omega)])
                · cases hc : M1.testBit k with
                  | false => rfl
                  | true => exact absurd rfl ((b3 k).mp (q2 k hc)).2
                · have := (k2 j).mp ((b3 j).mp (q2 j hj1)).1
                  exact this.2.resolve_left (by omega)
              have := (ms.2 M1 q1).2 (by omega)
              omega
          rw [b3, k2]
          constructor
          · rintro ⟨⟨g1, g2⟩, g3⟩
            exact ⟨g1, g2.imp (fun g => by omega) id⟩
          · rintro ⟨g1, g2⟩
            refine ⟨⟨g1, g2.imp (fun g => by omega) id⟩, fun e => ?_⟩
            rcases g2 with g2 | g2
            · omega
            · rw [e, nk] at g2; exact absurd g2 (by decide)
    intro S A k1 k2 k3
    have := go (t 75 4).toNat S A (by omega) k1 (by rw [Int.toNat_of_nonneg n1.1]; exact k2) k3
    rw [Int.toNat_of_nonneg n1.1] at this
    exact this
  refine key y _ y1 (fun x => ?_) (by omega)
  rw [Nat.testBit_two_pow_sub_one, decide_eq_true_eq]
  constructor
  · intro z; exact ⟨by omega, Or.inl (by omega)⟩
  · rintro ⟨z, _⟩; omega
