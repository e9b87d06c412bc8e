/-! THE QUEUE: both sides sort by insertion, by one relation -/
noncomputable def insL (ah : Int → Int → Prop) (p : Int) : List Int → List Int
  | [] => [p]
  | x :: r => @ite _ (ah p x) (Classical.propDecidable _) (x :: insL ah p r) (p :: x :: r)
/-- the list of PEOPLE 0 .. n - 1, the last first -/
noncomputable def srtL (ah : Int → Int → Prop) : Nat → List Int
  | 0 => []
  | n + 1 => insL ah n (srtL ah n)
theorem insL_t {ah : Int → Int → Prop} {p x : Int} {r : List Int} (h : ah p x) : insL ah p (x :: r) = x :: insL ah p r := @if_pos (ah p x) (Classical.propDecidable _) h (List Int) (x :: insL ah p r) (p :: x :: r)
theorem insL_f {ah : Int → Int → Prop} {p x : Int} {r : List Int} (h : ¬ ah p x) : insL ah p (x :: r) = p :: x :: r := @if_neg (ah p x) (Classical.propDecidable _) h (List Int) (x :: insL ah p r) (p :: x :: r)
theorem insL_mem {ah : Int → Int → Prop} {p : Int} : ∀ (l : List Int) (x : Int), x ∈ insL ah p l ↔ x = p ∨ x ∈ l
  | [], x => by simp [insL]
  | y :: l, x => by
    by_cases h : ah p y
    · rw [insL_t h, List.mem_cons, insL_mem l x, List.mem_cons]
      constructor
      · rintro (q | q | q)
        · exact Or.inr (Or.inl q)
        · exact Or.inl q
        · exact Or.inr (Or.inr q)
      · rintro (q | q | q)
        · exact Or.inr (Or.inl q)
        · exact Or.inl q
        · exact Or.inr (Or.inr q)
    · rw [insL_f h, List.mem_cons]
theorem insL_len {ah : Int → Int → Prop} {p : Int} : ∀ l : List Int, (insL ah p l).length = l.length + 1
  | [] => rfl
  | y :: l => by
    by_cases h : ah p y
    · rw [insL_t h, List.length_cons, insL_len l, List.length_cons]
    · rw [insL_f h, List.length_cons]
theorem insL_nd {ah : Int → Int → Prop} {p : Int} : ∀ l : List Int, p ∉ l → l.Pairwise (· ≠ ·) → (insL ah p l).Pairwise (· ≠ ·)
  | [], _, _ => by simp [insL]
  | y :: l, h1, h2 => by
    rw [List.pairwise_cons] at h2
    by_cases h : ah p y
    · rw [insL_t h, List.pairwise_cons]
      refine ⟨fun x hx => ?_, insL_nd l (fun q => h1 (List.mem_cons_of_mem _ q)) h2.2⟩
      rcases (insL_mem l x).mp hx with rfl | hx
      · intro e; exact h1 (by rw [e]; exact List.mem_cons_self)
      · exact h2.1 x hx
    · rw [insL_f h, List.pairwise_cons]
      refine ⟨fun x hx e => h1 (by rw [e]; exact hx), ?_⟩
      rw [List.pairwise_cons]
      exact h2
theorem srtL_mem {ah : Int → Int → Prop} : ∀ (n : Nat) (x : Int), x ∈ srtL ah n ↔ 0 ≤ x ∧ x < n
  | 0, x => by
    show x ∈ [] ↔ _
    constructor
    · intro q; cases q
    · intro q; omega
  | n + 1, x => by
    show x ∈ insL ah n (srtL ah n) ↔ _
    rw [insL_mem, srtL_mem n x]
    omega
theorem srtL_len {ah : Int → Int → Prop} : ∀ n : Nat, (srtL ah n).length = n
  | 0 => rfl
  | n + 1 => by
    show (insL ah n (srtL ah n)).length = n + 1
    rw [insL_len, srtL_len n]
theorem srtL_nd {ah : Int → Int → Prop} : ∀ n : Nat, (srtL ah n).Pairwise (· ≠ ·)
  | 0 => List.Pairwise.nil
  | n + 1 => insL_nd _ (fun q => by have := (srtL_mem n _).mp q; omega) (srtL_nd n)
theorem insL_congr {ah ah' : Int → Int → Prop} {p : Int} : ∀ l : List Int, (∀ x ∈ l, ah p x ↔ ah' p x) → insL ah p l = insL ah' p l
  | [], _ => rfl
  | y :: l, h => by
    have hy := h y List.mem_cons_self
    by_cases q : ah p y
    · rw [insL_t q, insL_t (hy.mp q), insL_congr l (fun x hx => h x (List.mem_cons_of_mem _ hx))]
    · rw [insL_f q, insL_f (fun z => q (hy.mpr z))]
theorem srtL_congr {ah ah' : Int → Int → Prop} : ∀ n : Nat, (∀ p q : Int, 0 ≤ p → p < n → 0 ≤ q → q < n → (ah p q ↔ ah' p q)) → srtL ah n = srtL ah' n
  | 0, _ => rfl
  | n + 1, h => by
    show insL ah n (srtL ah n) = insL ah' n (srtL ah' n)
    rw [srtL_congr n (fun p q a b c d => h p q a (by omega) c (by omega)), insL_congr _ (fun x hx => ?_)]
    have := (srtL_mem n x).mp hx
    exact h n x (by omega) (by omega) (by omega) (by omega)
/-- a row of n places that holds a list, the last first -/
def RowR (row : Int → Int) (n : Int) (l : List Int) : Prop := (l.length : Int) = n ∧ ∀ i : Int, 0 ≤ i → i < n → row i = l.getD (n - 1 - i).toNat 0
theorem RowR.bd {row : Int → Int} {n : Nat} {ah : Int → Int → Prop} (h : RowR row n (srtL ah n)) {i : Int} (h0 : 0 ≤ i) (h1 : i < n) : 0 ≤ row i ∧ row i < n := by
  rw [h.2 i h0 h1]
  have hl : ((n : Int) - 1 - i).toNat < (srtL ah n).length := by rw [srtL_len]; omega
  rw [List.getD_eq_getElem?_getD, List.getElem?_eq_getElem hl]
  exact (srtL_mem n _).mp (List.getElem_mem hl)
theorem RowR.inj {row : Int → Int} {n : Nat} {ah : Int → Int → Prop} (h : RowR row n (srtL ah n)) {i j : Int} (h0 : 0 ≤ i) (h1 : i < n) (h2 : 0 ≤ j) (h3 : j < n) (e : row i = row j) : i = j := by
  have key : ∀ a b : Nat, a < b → b < n → (srtL ah n).getD a 0 ≠ (srtL ah n).getD b 0 := by
    intro a b hab hb
    have h4 : a < (srtL ah n).length := by rw [srtL_len]; omega
    have h5 : b < (srtL ah n).length := by rw [srtL_len]; omega
    rw [List.getD_eq_getElem?_getD, List.getD_eq_getElem?_getD, List.getElem?_eq_getElem h4, List.getElem?_eq_getElem h5]
    exact (List.pairwise_iff_getElem.mp (srtL_nd n)) a b h4 h5 hab
  rw [h.2 i h0 h1, h.2 j h2 h3] at e
  rcases Nat.lt_trichotomy ((n : Int) - 1 - i).toNat ((n : Int) - 1 - j).toNat with q | q | q
  · exact absurd e (key _ _ q (by omega))
  · omega
  · exact absurd e.symm (key _ _ q (by omega))
/-- while p is being put in: X has been passed, Y is still ahead, place a is free -/
def MidR (row : Int → Int) (p a : Int) (L X Y : List Int) : Prop := L = X ++ Y ∧ (Y.length : Int) = a ∧ (X.length : Int) = p - a ∧ (∀ i : Int, 0 ≤ i → i < a → row i = Y.getD (a - 1 - i).toNat 0) ∧ ∀ i : Int, a < i → i ≤ p → row i = X.getD (p - i).toNat 0
theorem MidR.begin {row : Int → Int} {p : Int} {L : List Int} (h : RowR row p L) : MidR row p p L [] L := ⟨rfl, h.1, by simp, h.2, fun i g1 g2 => absurd g2 (by omega)⟩
theorem MidR.pass {row row' : Int → Int} {p a : Int} {L X Y : List Int} {y : Int} (h : MidR row p a L X (y :: Y)) (e : ∀ i : Int, row' i = if i = a then y else row i) (ha : a ≤ p) : MidR row' p (a - 1) L (X ++ [y]) Y := by
  obtain ⟨h1, h2, h3, h4, h5⟩ := h
  simp only [List.length_cons] at h2
  refine ⟨by rw [h1]; simp, by omega, by simp; omega, fun i g1 g2 => ?_, fun i g1 g2 => ?_⟩
  · rw [e, if_neg (by omega), h4 i g1 (by omega), show (a - 1 - i).toNat = (a - 1 - 1 - i).toNat + 1 by omega]
    rfl
  · rw [e]
    by_cases q : i = a
    · rw [if_pos q, q, List.getD_eq_getElem?_getD, show (p - a).toNat = X.length by omega]
      simp
    · rw [if_neg q, h5 i (by omega) g2, List.getD_eq_getElem?_getD, List.getD_eq_getElem?_getD, List.getElem?_append_left (by omega)]
theorem MidR.fin {row row' : Int → Int} {p a : Int} {L X Y : List Int} (h : MidR row p a L X Y) (ha : a ≤ p) (h0 : 0 ≤ a) (e : ∀ i : Int, row' i = if i = a then p else row i) : RowR row' (p + 1) (X ++ (p :: Y)) := by
  obtain ⟨h1, h2, h3, h4, h5⟩ := h
  refine ⟨by simp; omega, fun i g1 g2 => ?_⟩
  rw [e, List.getD_eq_getElem?_getD]
  by_cases q : i = a
  · rw [if_pos q, q, show (p + 1 - 1 - a).toNat = X.length by omega, List.getElem?_append_right (Nat.le_refl _)]
    simp
  · rw [if_neg q]
    by_cases q2 : i < a
    · rw [h4 i g1 q2, List.getElem?_append_right (by omega), List.getD_eq_getElem?_getD, show (p + 1 - 1 - i).toNat - X.length = (a - 1 - i).toNat + 1 by omega]
      rfl
    · rw [h5 i (by omega) (by omega), List.getElem?_append_left (by omega), List.getD_eq_getElem?_getD, show (p + 1 - 1 - i).toNat = (p - i).toNat by omega]
/-- AHEAD, with ties -/
def AHR (sq : Int → List Int) (w : Int) (ag co : Int → Int) (p q : Int) : Prop := ltL (sq p) (sq q) ∨ (sq p = sq q ∧ tieR w ag co p q)
theorem srt_snoc {ah : Int → Int → Prop} {p : Int} (hp : 0 ≤ p) : srtL ah (p + 1).toNat = insL ah p (srtL ah p.toNat) := by
  rw [show (p + 1).toNat = p.toNat + 1 by omega]
  show insL ah ((p.toNat : Nat) : Int) (srtL ah p.toNat) = _
  rw [Int.toNat_of_nonneg hp]
set_option maxHeartbeats 2000000 in
theorem t_X12_queues {o : Int} {oo : Int} {s : Sto} (hb : s 75 22 = 0 ∨ s 75 22 = 1) (ho : 0 ≤ o ∧ o < 21) (hO : OdR (s 75 9) oo (fun i => begS s 81 (8 * o + i))) (hn : 0 ≤ s 75 4 ∧ s 75 4 ≤ 20) (hN : ∀ p : Int, 0 ≤ p → p < s 75 4 → (0 ≤ s 76 p ∧ s 76 p ≤ 6) ∧ ∀ i : Int, 0 ≤ i → i < s 76 p → 0 ≤ s 77 (6 * p + i) ∧ s 77 (6 * p + i) < 26) (hw : 0 ≤ s 82 0 ∧ s 82 0 ≤ 2) (hw1 : 0 ≤ s 82 1 ∧ s 82 1 ≤ 2) (hA : ∀ p : Int, 0 ≤ p → p < s 75 4 → rg (s 79 p) ∧ rg (s 80 p)) : ClV LY 3 MX12_queues [.inr 75, .inl o] s (fun s' => (∀ c : Nat, c ≠ 101 → c ≠ 102 → s' c = begS s c) ∧ PlR (s 75 9) (fun i => begS s 81 (8 * o + i)) (s' 101) ∧ RowR (s' 102) (s 75 4) (srtL (AHR (fun p => sfx (rkF (s 75 9) (s 82 0) (s' 101)) (fun i => s 77 (6 * p + i)) (s 76 p) (s 76 p).toNat) (s 82 1) (s 79) (s 80)) (s 75 4).toNat)) := by
  refine ClV.intro (by decide) rfl (Nat.le_of_ble_eq_true rfl) (fun X C r => ?_)
  refine kb_X12_queues_0 C r ?_
  refine ⟨1, _, by decide, t_X12_takesPlaces hb ho hO, ?_⟩
  rintro u ⟨hu, hP⟩
  have eu : ∀ c : Nat, c ≠ 75 → c ≠ 81 → c ≠ 101 → u c = s c := fun c g1 g2 g3 => by rw [hu c g3, begS_row g1 g2]
  have eu75 : ∀ i : Int, i ≠ 22 → u 75 i = s 75 i := fun i g => by rw [hu 75 (by decide), begS_75 g]
  have hpl : ∀ l : Int, 0 ≤ l → l < s 75 9 → 0 ≤ u 101 l ∧ u 101 l < s 75 9 := fun l g1 g2 => hP.bd hO g1 g2
  generalize hAH : AHR (fun p => sfx (rkF (s 75 9) (s 82 0) (u 101)) (fun i => s 77 (6 * p + i)) (s 76 p) (s 76 p).toNat) (s 82 1) (s 79) (s 80) = ah
  have ask : ∀ (S : Sto), (∀ c : Nat, c ≠ 102 → S c = u c) → ∀ p q : Int, 0 ≤ p → p < s 75 4 → 0 ≤ q → q < s 75 4 → ClI LY 2 MX12_isAhead [.inr 75, .inl p, .inl q] S (fun r s' => s' = S ∧ (r = 0 ∨ r = 1) ∧ (r = 1 ↔ ah p q)) := by
    intro S hS p q p1 p2 q1 q2
    have e : ∀ c : Nat, c ≠ 75 → c ≠ 81 → c ≠ 101 → c ≠ 102 → S c = s c := fun c g1 g2 g3 g4 => by rw [hS c g4, eu c g1 g2 g3]
    have e75 : S 75 9 = s 75 9 := by rw [hS 75 (by decide), eu75 9 (by decide)]
    have e101 : S 101 = u 101 := hS 101 (by decide)
    have e76 := e 76 (by decide) (by decide) (by decide) (by decide)
    have e77 := e 77 (by decide) (by decide) (by decide) (by decide)
    have e79 := e 79 (by decide) (by decide) (by decide) (by decide)
    have e80 := e 80 (by decide) (by decide) (by decide) (by decide)
    have e82 := e 82 (by decide) (by decide) (by decide) (by decide)
    have gp := hN p p1 p2
    have gq := hN q q1 q2
    have ap := hA p p1 p2
    have aq := hA q q1 q2
    have hc := t_X12_isAhead (p := p) (q := q) (s := S) (by omega) (by omega) (by rw [e76]; exact gp.1) (by rw [e76]; exact gq.1) (by rw [e76, e77]; exact gp.2) (by rw [e76, e77]; exact gq.2) (by rw [e75]; exact hO.1) (by rw [e82]; exact hw) (by rw [e82]; exact hw1) (by rw [e75, e101]; exact hpl) (by rw [e79]; exact ⟨ap.1, aq.1⟩) (by rw [e80]; exact ⟨ap.2, aq.2⟩)
    refine hc.mono ?_
    rintro r1 s1 ⟨g1, g2, g3⟩
    refine ⟨g1, g2, ?_⟩
    rw [g3, ← hAH]
    unfold sqM
    rw [e75, e76, e77, e79, e80, e82, e101]
    exact Iff.rfl
  suffices H : ∀ S : Sto, ((∀ c : Nat, c ≠ 102 → S c = u c) ∧ RowR (S 102) 0 (srtL ah (0 : Int).toNat)) → G LY X 7 [rv 75, iv o, iv 0, none] [] S from H u ⟨fun _ _ => rfl, rfl, fun i g1 g2 => absurd g2 (by omega)⟩
  refine downI (P := fun p => ∀ S : Sto, ((∀ c : Nat, c ≠ 102 → S c = u c) ∧ RowR (S 102) p (srtL ah p.toNat)) → G LY X 7 [rv 75, iv o, iv p, none] [] S) (a := 0) (b := s 75 4) hn.1 ?_ ?_
  · rintro S ⟨k1, k2⟩
    have e4 : S 75 4 = s 75 4 := by rw [k1 75 (by decide), eu75 4 (by decide)]
    refine kb_X12_queues_7 C r ⟨⟨⟨by omega, by omega⟩, by rw [e4]; exact ⟨by omega, by omega⟩⟩, fun _ => ⟨fun c g1 g2 => by rw [k1 c g2, hu c g1], by rw [k1 101 (by decide)]; exact hP, ?_⟩, fun z => absurd z (by omega)⟩
    rw [k1 101 (by decide), hAH]
    exact k2
  · rintro p p1 p2 ih S ⟨k1, k2⟩
    have e4 : S 75 4 = s 75 4 := by rw [k1 75 (by decide), eu75 4 (by decide)]
    refine kb_X12_queues_7 C r ⟨⟨⟨by omega, by omega⟩, by rw [e4]; exact ⟨by omega, by omega⟩⟩, fun z => absurd z (by omega), fun _ => ?_⟩
    have hfin : ∀ (S2 : Sto) (a : Int) (X_1 Y : List Int), (∀ c : Nat, c ≠ 102 → S2 c = u c) → 0 ≤ a → a ≤ p → MidR (S2 102) p a (srtL ah p.toNat) X_1 Y → srtL ah (p + 1).toNat = X_1 ++ (p :: Y) → G LY X 7 [rv 75, iv o, iv (p + 1), none] [] (up S2 102 a p) := by
      intro S2 a X_1 Y g1 g2 g3 g4 g5
      refine ih _ ⟨fun c g => by rw [up_row g, g1 c g], ?_⟩
      rw [g5]
      exact g4.fin g3 g2 (fun i => up_if _ _ _ _ _)
    suffices H2 : ∀ (a : Int), 0 ≤ a → a ≤ p → ∀ (S2 : Sto) (X_1 Y : List Int), (∀ c : Nat, c ≠ 102 → S2 c = u c) → MidR (S2 102) p a (srtL ah p.toNat) X_1 Y → srtL ah (p + 1).toNat = X_1 ++ insL ah p Y → G LY X 17 [rv 75, iv o, iv p, iv a] [] S2 from H2 p p1 (Int.le_refl _) S [] _ k1 (MidR.begin k2) (srt_snoc p1)
    intro a ha0
    obtain ⟨m, rfl⟩ := Int.eq_ofNat_of_zero_le ha0
    induction m with
    | zero =>
      intro ha S2 X_1 Y g1 g4 g5
      have hY : Y = [] := by
        have := g4.2.1
        cases Y with
        | nil => rfl
        | cons y Y => simp at this; omega
      subst hY
      refine kb_X12_queues_17 C r ⟨by decide, fun _ => ⟨by decide, ?_⟩, fun z => absurd z (by decide)⟩
      rintro t1 rfl
      exact hfin S2 0 X_1 [] g1 (by decide) (by omega) g4 g5
    | succ m ihm =>
      intro ha S2 X_1 Y g1 g4 g5
      cases Y with
      | nil => have := g4.2.1; simp at this; omega
      | cons y Y =>
        have hy : S2 102 (((m + 1 : Nat) : Int) - 1) = y := by
          rw [g4.2.2.2.1 _ (by omega) (by omega), show (((m + 1 : Nat) : Int) - 1 - (((m + 1 : Nat) : Int) - 1)).toNat = 0 by omega]
          rfl
        have hyb : 0 ≤ y ∧ y < p := by
          have : y ∈ srtL ah p.toNat := by rw [g4.1]; simp
          have := (srtL_mem _ _).mp this
          omega
        refine kb_X12_queues_17 C r ⟨⟨by omega, by omega⟩, fun z => absurd z (by omega), fun _ => ⟨⟨by omega, by omega⟩, ?_⟩⟩
        rw [hy]
        refine ⟨2, _, by decide, ask S2 g1 p y p1 p2 hyb.1 (by omega), ?_⟩
        rintro r2 t2 ⟨ht, q1, q2⟩
        rw [ht]
        refine ⟨by omega, fun z => ⟨⟨by omega, by omega⟩, ?_⟩, fun z => ⟨⟨by omega, by omega⟩, ⟨by omega, by omega⟩, ?_⟩⟩
        · rintro t3 rfl
          rw [insL_f (fun y => by have := q2.mpr y; omega)] at g5
          exact hfin S2 _ X_1 (y :: Y) g1 (by omega) ha g4 g5
        · rw [hy]
          rintro t3 rfl
          rw [insL_t (q2.mp (by omega))] at g5
          have := ihm (by omega) (by omega) (up S2 102 ((m + 1 : Nat) : Int) y) (X_1 ++ [y]) Y (fun c g => by rw [up_row g, g1 c g]) (by
            have := g4.pass (row' := up S2 102 ((m + 1 : Nat) : Int) y 102) (fun i => up_if _ _ _ _ _) ha
            rw [show ((m + 1 : Nat) : Int) - 1 = (m : Int) by omega] at this
            exact this) (by rw [g5]; simp)
          rw [show ((m + 1 : Nat) : Int) - 1 = (m : Int) by omega]
          exact this
