/-! VOTES: what is FOR one LETTER over another -/
def atF (f : Int → Int) (l : Int) : Nat → Int
  | 0 => 0
  | k + 1 => if f k = l then (k : Int) else atF f l k
theorem atF_s (f : Int → Int) (l : Int) {k : Int} (hk : 0 ≤ k) : atF f l (k + 1).toNat = if f k = l then k else atF f l k.toNat := by
  obtain ⟨n, rfl⟩ := Int.eq_ofNat_of_zero_le hk
  rfl
theorem atF_bd (f : Int → Int) (l : Int) : ∀ k : Nat, 0 ≤ atF f l k ∧ atF f l k ≤ k
  | 0 => by show (0 : Int) ≤ 0 ∧ (0 : Int) ≤ ((0 : Nat) : Int); decide
  | k + 1 => by
    have ih := atF_bd f l k
    show 0 ≤ (if f k = l then (k : Int) else atF f l k) ∧ (if f k = l then (k : Int) else atF f l k) ≤ ((k + 1 : Nat) : Int)
    by_cases q : f k = l
    · rw [if_pos q]; omega
    · rw [if_neg q]; omega
theorem OdR.at_ {K o : Int} {f : Int → Int} (h : OdR K o f) {i : Int} (h0 : 0 ≤ i) (h1 : i < K) : atF f (f i) K.toNat = i := by
  have key : ∀ k : Nat, i < k → (k : Int) ≤ K → atF f (f i) k = i := by
    intro k
    induction k with
    | zero => intro q; omega
    | succ k ih =>
      intro q1 q2
      show (if f k = f i then (k : Int) else atF f (f i) k) = i
      by_cases q : f k = f i
      · rw [if_pos q]
        exact h.2.2.1 _ _ (by omega) (by omega) h0 h1 q
      · rw [if_neg q]
        exact ih (by
          have : (k : Int) ≠ i := fun e => q (by rw [e])
          omega) (by omega)
  exact key K.toNat (by omega) (by omega)
theorem OdR.at' {K o : Int} {f : Int → Int} (h : OdR K o f) {l : Int} (h0 : 0 ≤ l) (h1 : l < K) : (0 ≤ atF f l K.toNat ∧ atF f l K.toNat < K) ∧ f (atF f l K.toNat) = l := by
  obtain ⟨i, i0, i1, rfl⟩ := h.onto h0 h1
  rw [h.at_ i0 i1]
  exact ⟨⟨i0, i1⟩, rfl⟩
def ovF (P : Int → Int → Int) (w : Int → Int) (a b : Int) : Nat → Int
  | 0 => 0
  | v + 1 => ovF P w a b v + if P v a < P v b then w v else 0
theorem ovF_s (P : Int → Int → Int) (w : Int → Int) (a b : Int) {v : Int} (hv : 0 ≤ v) : ovF P w a b (v + 1).toNat = ovF P w a b v.toNat + if P v a < P v b then w v else 0 := by
  obtain ⟨n, rfl⟩ := Int.eq_ofNat_of_zero_le hv
  rfl
theorem ovF_bd {P : Int → Int → Int} {w : Int → Int} {n : Int} (hw : ∀ v : Int, 0 ≤ v → v < n → 1 ≤ w v ∧ w v ≤ 9) (a b : Int) : ∀ k : Nat, (k : Int) ≤ n → 0 ≤ ovF P w a b k ∧ ovF P w a b k ≤ 9 * k
  | 0, _ => by show (0 : Int) ≤ 0 ∧ (0 : Int) ≤ 9 * ((0 : Nat) : Int); decide
  | k + 1, hk => by
    have ih := ovF_bd (P := P) hw a b k (by omega)
    have b1 := hw k (by omega) (by omega)
    show 0 ≤ ovF P w a b k + (if P k a < P k b then w k else 0) ∧ ovF P w a b k + (if P k a < P k b then w k else 0) ≤ 9 * ((k + 1 : Nat) : Int)
    by_cases q : P k a < P k b
    · rw [if_pos q]; omega
    · rw [if_neg q]; omega
theorem ovF_congr {P P' : Int → Int → Int} {w w' : Int → Int} {a b n : Int} (hP : ∀ v : Int, 0 ≤ v → v < n → P' v a = P v a ∧ P' v b = P v b) (hw : ∀ v : Int, 0 ≤ v → v < n → w' v = w v) : ∀ k : Nat, (k : Int) ≤ n → ovF P' w' a b k = ovF P w a b k
  | 0, _ => rfl
  | k + 1, hk => by
    show ovF P' w' a b k + (if P' k a < P' k b then w' k else 0) = ovF P w a b k + (if P k a < P k b then w k else 0)
    rw [ovF_congr hP hw k (by omega), (hP k (by omega) (by omega)).1, (hP k (by omega) (by omega)).2, hw k (by omega) (by omega)]
set_option maxHeartbeats 4000000 in
theorem t_X0_count {s : Sto} {K n : Int} {f : Int → Int → Int} (hK : s 3 0 = K) (hn : s 3 11 = n) (hK8 : 2 ≤ K ∧ K ≤ 8) (hn12 : 0 ≤ n ∧ n ≤ 12) (hV : ∀ v : Int, 0 ≤ v → v < n → OdR K (s 14 v) (f v)) : ClV LY 1 MX0_count [.inr 59, .inr 3] s (fun s' => (∀ c : Nat, c ≠ 60 → s' c = s c) ∧ ∀ a b : Int, 0 ≤ a → a < 8 → 0 ≤ b → b < 8 → s' 60 (a * 8 + b) = if a < K ∧ b < K then ovF (fun v l => atF (f v) l K.toNat) (s 15) a b n.toNat else 0) := by
  refine ClV.intro (by decide) rfl (Nat.le_of_ble_eq_true rfl) (fun X C r => ?_)
  refine kb_X0_count_0 C r ?_
  generalize hP : (fun v l => atF (f v) l K.toNat) = P
  have Pe : ∀ v l : Int, P v l = atF (f v) l K.toNat := fun v l => by rw [← hP]
  have l26 : ∀ S : Sto, ((∀ c : Nat, c ≠ 60 → S c = s c) ∧ ∀ a b : Int, 0 ≤ a → a < 8 → 0 ≤ b → b < 8 → S 60 (a * 8 + b) = if a < K ∧ b < K then ovF P (s 15) a b (0 : Int).toNat else 0) → G LY X 26 [rv 59, rv 3, iv 0, none, none, none, none] [] S := by
    refine downI (P := fun v => ∀ S : Sto, ((∀ c : Nat, c ≠ 60 → S c = s c) ∧ ∀ a b : Int, 0 ≤ a → a < 8 → 0 ≤ b → b < 8 → S 60 (a * 8 + b) = if a < K ∧ b < K then ovF P (s 15) a b v.toNat else 0) → G LY X 26 [rv 59, rv 3, iv v, none, none, none, none] [] S) (a := 0) (b := n) hn12.1 ?_ ?_
    · rintro S ⟨k1, k2⟩
      refine kb_X0_count_26 C r ?_
      rw [k1 3 (by decide), hn]
      exact ⟨⟨⟨by omega, by omega⟩, ⟨by omega, by omega⟩⟩, fun _ => ⟨k1, by rw [hP]; exact k2⟩, fun z => absurd z (by omega)⟩
    · rintro v v0 v1 ih S ⟨k1, k2⟩
      have od := hV v v0 v1
      have pa : ∀ l : Int, 0 ≤ l → l < K → (0 ≤ P v l ∧ P v l < K) ∧ f v (P v l) = l := fun l l0 l1 => by rw [Pe]; exact od.at' l0 l1
      have pi : ∀ i : Int, 0 ≤ i → i < K → P v (f v i) = i := fun i i0 i1 => by rw [Pe]; exact od.at_ i0 i1
      refine kb_X0_count_26 C r ?_
      rw [k1 3 (by decide), hn]
      refine ⟨⟨⟨by omega, by omega⟩, ⟨by omega, by omega⟩⟩, fun z => absurd z (by omega), fun _ => ?_⟩
      have l36 : ∀ S : Sto, ((∀ c : Nat, c ≠ 60 → S c = s c) ∧ ∀ a b : Int, 0 ≤ a → a < 8 → 0 ≤ b → b < 8 → S 60 (a * 8 + b) = if a < K ∧ b < K then ovF P (s 15) a b v.toNat + (if P v a < P v b ∧ P v a < 0 then s 15 v else 0) else 0) → G LY X 36 [rv 59, rv 3, iv v, iv 0, none, none, none] [] S := by
        refine downI (P := fun i => ∀ S : Sto, ((∀ c : Nat, c ≠ 60 → S c = s c) ∧ ∀ a b : Int, 0 ≤ a → a < 8 → 0 ≤ b → b < 8 → S 60 (a * 8 + b) = if a < K ∧ b < K then ovF P (s 15) a b v.toNat + (if P v a < P v b ∧ P v a < i then s 15 v else 0) else 0) → G LY X 36 [rv 59, rv 3, iv v, iv i, none, none, none] [] S) (a := 0) (b := K) (by omega) ?_ ?_
        · rintro S ⟨k1, k2⟩
          refine kb_X0_count_36 C r ?_
          rw [k1 3 (by decide), hK]
          refine ⟨⟨⟨by omega, by omega⟩, ⟨by omega, by omega⟩⟩, fun _ => ih S ⟨k1, fun a b a0 a1 b0 b1 => ?_⟩, fun z => absurd z (by omega)⟩
          rw [k2 a b a0 a1 b0 b1, ovF_s _ _ _ _ v0]
          by_cases q : a < K ∧ b < K
          · rw [if_pos q, if_pos q]
            have := (pa a a0 q.1).1
            by_cases q2 : P v a < P v b
            · rw [if_pos ⟨q2, by omega⟩, if_pos q2]
            · rw [if_neg (fun z => q2 z.1), if_neg q2]
          · rw [if_neg q, if_neg q]
        · rintro i i0 i1 ih2 S ⟨k1, k2⟩
          have fi := od.2.1 i i0 i1
          refine kb_X0_count_36 C r ?_
          rw [k1 3 (by decide), hK, k1 14 (by decide)]
          refine ⟨⟨⟨by omega, by omega⟩, ⟨by omega, by omega⟩⟩, fun z => absurd z (by omega), fun _ => ⟨⟨by omega, by omega⟩, 0, _, by decide, t_X5_orderLetter, ?_⟩⟩
          rintro le S' ⟨hS', hle⟩
          rw [od.letter ⟨i0, i1⟩] at hle
          rw [hS', hle]
          have l65 : ∀ S : Sto, ((∀ c : Nat, c ≠ 60 → S c = s c) ∧ ∀ a b : Int, 0 ≤ a → a < 8 → 0 ≤ b → b < 8 → S 60 (a * 8 + b) = if a < K ∧ b < K then ovF P (s 15) a b v.toNat + (if P v a < P v b ∧ (P v a < i ∨ (P v a = i ∧ P v b < i + 1)) then s 15 v else 0) else 0) → G LY X 65 [rv 59, rv 3, iv v, iv i, iv (f v i), iv (i + 1), none] [] S := by
            refine downI (P := fun j => ∀ S : Sto, ((∀ c : Nat, c ≠ 60 → S c = s c) ∧ ∀ a b : Int, 0 ≤ a → a < 8 → 0 ≤ b → b < 8 → S 60 (a * 8 + b) = if a < K ∧ b < K then ovF P (s 15) a b v.toNat + (if P v a < P v b ∧ (P v a < i ∨ (P v a = i ∧ P v b < j)) then s 15 v else 0) else 0) → G LY X 65 [rv 59, rv 3, iv v, iv i, iv (f v i), iv j, none] [] S) (a := i + 1) (b := K) (by omega) ?_ ?_
            · rintro S ⟨k1, k2⟩
              refine kb_X0_count_65 C r ?_
              rw [k1 3 (by decide), hK]
              refine ⟨⟨⟨by omega, by omega⟩, ⟨by omega, by omega⟩⟩, fun _ => ih2 S ⟨k1, fun a b a0 a1 b0 b1 => ?_⟩, fun z => absurd z (by omega)⟩
              rw [k2 a b a0 a1 b0 b1]
              by_cases q : a < K ∧ b < K
              · rw [if_pos q, if_pos q]
                have p1 := (pa a a0 q.1).1
                have p2 := (pa b b0 q.2).1
                by_cases q2 : P v a < P v b ∧ P v a < i + 1
                · rw [if_pos q2, if_pos ⟨q2.1, by omega⟩]
                · rw [if_neg q2, if_neg (by omega)]
              · rw [if_neg q, if_neg q]
            · rintro j j0 j1 ih3 S ⟨k1, k2⟩
              have fj := od.2.1 j (by omega) j1
              refine kb_X0_count_65 C r ?_
              rw [k1 3 (by decide), hK, k1 14 (by decide)]
              refine ⟨⟨⟨by omega, by omega⟩, ⟨by omega, by omega⟩⟩, fun z => absurd z (by omega), fun _ => ⟨⟨by omega, by omega⟩, 0, _, by decide, t_X5_orderLetter, ?_⟩⟩
              rintro lf S' ⟨hS', hlf⟩
              rw [od.letter ⟨by omega, j1⟩] at hlf
              rw [hS', hlf]
              refine ⟨⟨by omega, by omega⟩, ⟨by omega, by omega⟩, ⟨by omega, by omega⟩, ?_⟩
              rw [k1 15 (by decide)]
              rintro y hy
              refine ih3 y ⟨fun c hc => by rw [hy, up_row hc, k1 c hc], fun a b a0 a1 b0 b1 => ?_⟩
              rw [hy, up_if]
              by_cases e : a = f v i ∧ b = f v j
              · have ea : P v a = i := by rw [e.1]; exact pi i i0 i1
                have eb : P v b = j := by rw [e.2]; exact pi j (by omega) j1
                rw [if_pos (by omega), if_pos (by omega), k2 (f v i) (f v j) (by omega) (by omega) (by omega) (by omega), if_pos (by omega), ← e.1, ← e.2, if_neg (by omega), if_pos (by omega)]
                omega
              · rw [if_neg (by omega), k2 a b a0 a1 b0 b1]
                by_cases q : a < K ∧ b < K
                · rw [if_pos q, if_pos q]
                  have p1 := pa a a0 q.1
                  have p2 := pa b b0 q.2
                  have ne : ¬ (P v a = i ∧ P v b = j) := fun z => e ⟨by rw [← p1.2, z.1], by rw [← p2.2, z.2]⟩
                  by_cases q2 : P v a < P v b ∧ (P v a < i ∨ (P v a = i ∧ P v b < j))
                  · rw [if_pos q2, if_pos (by omega)]
                  · rw [if_neg q2, if_neg (by omega)]
                · rw [if_neg q, if_neg q]
          refine l65 S ⟨k1, fun a b a0 a1 b0 b1 => ?_⟩
          rw [k2 a b a0 a1 b0 b1]
          by_cases q : a < K ∧ b < K
          · rw [if_pos q, if_pos q]
            by_cases q2 : P v a < P v b ∧ P v a < i
            · rw [if_pos q2, if_pos (by omega)]
            · rw [if_neg q2, if_neg (by omega)]
          · rw [if_neg q, if_neg q]
      refine l36 S ⟨k1, fun a b a0 a1 b0 b1 => ?_⟩
      rw [k2 a b a0 a1 b0 b1]
      by_cases q : a < K ∧ b < K
      · rw [if_pos q, if_pos q]
        have := (pa a a0 q.1).1
        rw [if_neg (by omega)]
        omega
      · rw [if_neg q, if_neg q]
  have l2 : ∀ S : Sto, ((∀ c : Nat, c ≠ 60 → S c = s c) ∧ ∀ j : Int, 0 ≤ j → j < 0 → S 60 j = 0) → G LY X 2 [rv 59, rv 3, iv 0, none, none, none, none] [] S := by
    refine downI (P := fun i => ∀ S : Sto, ((∀ c : Nat, c ≠ 60 → S c = s c) ∧ ∀ j : Int, 0 ≤ j → j < i → S 60 j = 0) → G LY X 2 [rv 59, rv 3, iv i, none, none, none, none] [] S) (a := 0) (b := 64) (by decide) ?_ ?_
    · rintro S ⟨k1, k2⟩
      refine kb_X0_count_2 C r ⟨by decide, fun _ => l26 S ⟨k1, fun a b a0 a1 b0 b1 => ?_⟩, fun z => absurd z (by decide)⟩
      rw [k2 _ (by omega) (by omega)]
      by_cases q : a < K ∧ b < K
      · rw [if_pos q]; rfl
      · rw [if_neg q]
    · rintro i i0 i1 ih S ⟨k1, k2⟩
      refine kb_X0_count_2 C r ⟨⟨by omega, by omega⟩, fun z => absurd z (by omega), fun _ => ⟨⟨by omega, by omega⟩, ?_⟩⟩
      rintro y hy
      refine ih y ⟨fun c hc => by rw [hy, up_row hc, k1 c hc], fun j j0 j1 => ?_⟩
      rw [hy, up_if]
      by_cases e : j = i
      · rw [if_pos e]
      · rw [if_neg e]; exact k2 j j0 (by omega)
  exact l2 s ⟨fun _ _ => rfl, fun j j0 j1 => absurd j1 (by omega)⟩
