/-! CONTRACTS: who is AHEAD, in the class and in the reference -/
set_option maxHeartbeats 2000000 in
theorem t_X7_rankLetters {o : Int} {od : Int → Int} {s : Sto} (hO : OdR (s 3 0) o od) (hL : 0 ≤ s 4 0 ∧ s 4 0 ≤ 2) : ClV LY 1 MX7_rankLetters [.inr 46, .inr 3, .inl o] s (fun s' => (∀ c : Nat, c ≠ 47 → s' c = s c) ∧ ∃ pl : Int → Int, PlR (s 3 0) od pl ∧ ∀ l : Int, 0 ≤ l → l < 26 → s' 47 l = rkF (s 3 0) (s 4 0) pl l) := by
  refine ClV.intro (by decide) rfl (Nat.le_of_ble_eq_true rfl) (fun X C r => ?_)
  refine kb_X7_rankLetters_0 C r ?_
  have hK := hO.1
  generalize hKe : s 3 0 = K at hO hK
  generalize hLe : s 4 0 = w at hL
  suffices H : ∀ S : Sto, ((∀ c : Nat, c ≠ 47 → S c = s c) ∧ ∀ l : Int, K ≤ l → l < K → S 47 l = if w = 2 then -1 else if w = 1 then l + 1 - K else l + 1) → G LY X 13 [rv 46, rv 3, iv o, iv w, iv K, none] [] S from H s ⟨fun _ _ => rfl, fun l g1 g2 => absurd g2 (by omega)⟩
  refine downI (P := fun j => ∀ S : Sto, ((∀ c : Nat, c ≠ 47 → S c = s c) ∧ ∀ l : Int, K ≤ l → l < j → S 47 l = if w = 2 then -1 else if w = 1 then l + 1 - K else l + 1) → G LY X 13 [rv 46, rv 3, iv o, iv w, iv j, none] [] S) (a := K) (b := 26) (by omega) ?_ ?_
  · rintro S ⟨h1, h2⟩
    have e3 : S 3 0 = K := by rw [h1 3 (by decide), hKe]
    have H81 : ∀ ah : Int, ah = (if w = 1 then 26 - K else 0) → G LY X 81 [rv 46, rv 3, iv o, iv w, iv ah, iv 0] [] S := by
      intro ah hah
      suffices H : ∀ S2 : Sto, ((∀ c : Nat, c ≠ 47 → S2 c = s c) ∧ (∀ l : Int, K ≤ l → l < 26 → S2 47 l = S 47 l) ∧ ∀ i : Int, 0 ≤ i → i < 0 → S2 47 (od i) = ah + i + 1) → G LY X 81 [rv 46, rv 3, iv o, iv w, iv ah, iv 0] [] S2 from H S ⟨h1, fun _ _ _ => rfl, fun i g1 g2 => absurd g2 (by omega)⟩
      refine downI (P := fun j => ∀ S2 : Sto, ((∀ c : Nat, c ≠ 47 → S2 c = s c) ∧ (∀ l : Int, K ≤ l → l < 26 → S2 47 l = S 47 l) ∧ ∀ i : Int, 0 ≤ i → i < j → S2 47 (od i) = ah + i + 1) → G LY X 81 [rv 46, rv 3, iv o, iv w, iv ah, iv j] [] S2) (a := 0) (b := K) (by omega) ?_ ?_
      · rintro S2 ⟨k1, k2, k3⟩
        have e3 : S2 3 0 = K := by rw [k1 3 (by decide), hKe]
        refine kb_X7_rankLetters_81 C r ⟨⟨⟨by omega, by omega⟩, by rw [e3]; exact ⟨by omega, by omega⟩⟩, fun _ => ⟨k1, fun l => S2 47 l - ah - 1, fun i g1 g2 => ?_, fun l g1 g2 => ?_⟩, fun q => absurd q (by omega)⟩
        · rw [hKe] at g2
          show S2 47 (od i) - ah - 1 = i
          rw [k3 i g1 g2]; omega
        · rw [hKe, hLe]
          unfold rkF
          by_cases q : l < K
          · rw [if_pos q, ← hah]
            show S2 47 l = ah + (S2 47 l - ah - 1) + 1
            omega
          · rw [if_neg q, k2 l (by omega) g2, h2 l (by omega) g2]
      · rintro j j1 j2 ih S2 ⟨k1, k2, k3⟩
        have e3 : S2 3 0 = K := by rw [k1 3 (by decide), hKe]
        have hj := hO.2.1 j j1 j2
        refine kb_X7_rankLetters_81 C r ⟨⟨⟨by omega, by omega⟩, by rw [e3]; exact ⟨by omega, by omega⟩⟩, fun q => absurd q (by omega), fun _ => ?_⟩
        rw [e3]
        refine ⟨0, _, by decide, t_X5_orderLetter, ?_⟩
        rintro r1 s1 ⟨hs1, e1⟩
        rw [hO.letter ⟨j1, j2⟩] at e1
        subst e1
        refine ⟨⟨by omega, by omega⟩, ?_⟩
        rintro s2 rfl
        rw [hs1]
        refine ih _ ⟨fun c g => by rw [up_row g, k1 c g], fun l g1 g2 => by rw [up_idx (by omega), k2 l g1 g2], fun i g1 g2 => ?_⟩
        rw [up_if]
        by_cases q : i = j
        · rw [q, if_pos rfl]
        · rw [if_neg (fun z => q (hO.2.2.1 i j g1 (by omega) j1 j2 z)), k3 i g1 (by omega)]
    refine kb_X7_rankLetters_13 C r ⟨by decide, fun _ => ⟨⟨by omega, by omega⟩, fun q => H81 0 (by rw [if_neg q]), fun q => ?_⟩, fun q => absurd q (by decide)⟩
    rw [e3]
    exact H81 _ (by rw [if_pos q])
  · rintro j j1 j2 ih S ⟨h1, h2⟩
    have e3 : S 3 0 = K := by rw [h1 3 (by decide), hKe]
    have fin : ∀ v : Int, v = (if w = 2 then -1 else if w = 1 then j + 1 - K else j + 1) → G LY X 13 [rv 46, rv 3, iv o, iv w, iv (j + 1), none] [] (up S 47 j v) := by
      intro v hv
      refine ih _ ⟨fun c g => by rw [up_row g, h1 c g], fun l g1 g2 => ?_⟩
      rw [up_if]
      by_cases q : l = j
      · rw [if_pos q, hv, q]
      · rw [if_neg q]; exact h2 l g1 (by omega)
    refine kb_X7_rankLetters_13 C r ⟨⟨by omega, by omega⟩, fun q => absurd q (by omega), fun _ => ⟨⟨by omega, by omega⟩, fun q => ⟨⟨by omega, by omega⟩, fun q2 => ⟨⟨by omega, by omega⟩, ?_⟩, fun q2 => ⟨⟨by omega, by omega⟩, ?_⟩⟩, fun q => ⟨⟨by omega, by omega⟩, ?_⟩⟩⟩
    · rintro s1 rfl
      exact fin _ (by rw [if_neg q, if_neg q2]; omega)
    · rintro s1 rfl
      rw [e3]
      exact fin _ (by rw [if_neg q, if_pos q2])
    · rintro s1 rfl
      exact fin _ (by rw [if_pos q])
theorem rk_bd {K law : Int} {pl : Int → Int} {l : Int} (hK : 2 ≤ K ∧ K ≤ 8) (hp : l < K → 0 ≤ pl l ∧ pl l < K) (h0 : 0 ≤ l ∧ l < 26) : rkF K law pl l = -1 ∨ (1 ≤ rkF K law pl l ∧ rkF K law pl l < 32) := by
  unfold rkF
  by_cases q : l < K
  · rw [if_pos q]
    have := hp q
    split <;> omega
  · rw [if_neg q]
    split
    · exact Or.inl rfl
    · split <;> omega
theorem sfx_s {rk f : Int → Int} {n k : Int} (h0 : 0 ≤ k) (h : k < n) : sfx rk f n (n - k).toNat = if rk (f k) = -1 then sfx rk f n (n - (k + 1)).toNat else rk (f k) :: sfx rk f n (n - (k + 1)).toNat := by
  rw [show (n - k).toNat = (n - (k + 1)).toNat + 1 by omega]
  show (if rk (f (n - ((n - (k + 1)).toNat + 1 : Nat))) = -1 then _ else _) = _
  rw [show n - (((n - (k + 1)).toNat + 1 : Nat) : Int) = k by omega]
theorem sfx_0 {rk f : Int → Int} {n k : Int} (h : n ≤ k) : sfx rk f n (n - k).toNat = [] := by
  rw [show (n - k).toNat = 0 by omega]; rfl
theorem sfx_dgs {rk f : Int → Int} {n : Int} (h : ∀ k : Int, 0 ≤ k → k < n → rk (f k) = -1 ∨ (1 ≤ rk (f k) ∧ rk (f k) < 32)) : ∀ m : Nat, (m : Int) ≤ n → dgs (sfx rk f n m) ∧ (sfx rk f n m).length ≤ m := by
  intro m
  induction m with
  | zero => intro _; exact ⟨fun a ha => absurd ha List.not_mem_nil, Nat.le_refl 0⟩
  | succ m ih =>
    intro hm
    have g := ih (by omega)
    have hk := h (n - (m + 1 : Nat)) (by omega) (by omega)
    show dgs (if _ then _ else _) ∧ (if rk (f (n - (m + 1 : Nat))) = -1 then sfx rk f n m else rk (f (n - (m + 1 : Nat))) :: sfx rk f n m).length ≤ m + 1
    by_cases q : rk (f (n - (m + 1 : Nat))) = -1
    · rw [if_pos q]; exact ⟨g.1, by omega⟩
    · rw [if_neg q]
      refine ⟨fun a ha => ?_, by simp; omega⟩
      rcases List.mem_cons.mp ha with rfl | ha
      · omega
      · exact g.1 a ha
set_option maxHeartbeats 2000000 in
theorem t_X7_keyOf {p n : Int} {f rk : Int → Int} {s : Sto} (hN : NmR p n f) (hr : ∀ l : Int, 0 ≤ l → l < 26 → s 47 l = rk l ∧ (rk l = -1 ∨ (1 ≤ rk l ∧ rk l < 32))) : ClI LY 1 MX7_keyOf [.inr 46, .inl p] s (fun r s' => s' = s ∧ r = keyN 6 (sfx rk f n n.toNat)) := by
  refine ClI.intro (by decide) rfl (Nat.le_of_ble_eq_true rfl) (fun X C r => ?_)
  refine kb_X7_keyOf_0 C r ?_
  have hn := hN.1
  suffices H : ∀ P : List Int, (sfx rk f n n.toNat = P ++ sfx rk f n (n - 0).toNat ∧ dgs P ∧ (P.length : Int) ≤ 0) → G LY X 7 [rv 46, iv p, iv (keyN 6 P), iv P.length, iv 0, none] [] s by
    exact H [] ⟨by rw [show (n - 0).toNat = n.toNat by omega]; rfl, fun a ha => absurd ha List.not_mem_nil, by decide⟩
  refine downI (P := fun k => ∀ P : List Int, (sfx rk f n n.toNat = P ++ sfx rk f n (n - k).toNat ∧ dgs P ∧ (P.length : Int) ≤ k) → G LY X 7 [rv 46, iv p, iv (keyN 6 P), iv P.length, iv k, none] [] s) (a := 0) (b := 6) (by decide) ?_ ?_
  · rintro P ⟨h1, h2, h3⟩
    refine kb_X7_keyOf_7 C r ⟨by decide, fun _ => ⟨rfl, ?_⟩, fun q => absurd q (by decide)⟩
    rw [h1, sfx_0 (by omega), List.append_nil]
  · rintro k k1 k2 ih P ⟨h1, h2, h3⟩
    refine kb_X7_keyOf_7 C r ⟨⟨by omega, by omega⟩, fun q => absurd q (by omega), fun _ => ?_⟩
    refine ⟨0, _, by decide, t_X5_nameLetter, ?_⟩
    rintro r1 s1 ⟨hs, e1⟩
    subst hs
    rw [hN.letter ⟨k1, k2⟩] at e1
    by_cases q : k < n
    · rw [if_pos q] at e1
      have hf := hN.2.1 k k1 q
      obtain ⟨g1, g2⟩ := hr (f k) hf.1 hf.2
      have hs := sfx_s (rk := rk) (f := f) k1 q
      subst e1
      refine ⟨⟨by omega, by omega⟩, fun z => absurd z (by omega), fun _ => ⟨⟨by omega, by omega⟩, fun z => absurd z (by omega), fun _ => ⟨hf, ?_⟩⟩⟩
      rw [g1]
      refine ⟨⟨by omega, by omega⟩, fun z => ?_, fun z => ⟨hf, ?_⟩⟩
      · rw [if_pos z] at hs
        exact ih P ⟨by rw [h1, hs], h2, by omega⟩
      · rw [if_neg z] at hs
        refine ⟨0, _, by decide, t_X5_nameGroup, ?_⟩
        rintro r2 s2 ⟨hs2, rfl⟩
        subst hs2
        rw [key_step h2 (by omega) (by omega)]
        have := ih (P ++ [rk (f k)]) ⟨by rw [h1, hs, List.append_assoc]; rfl, fun a ha => by
          rcases List.mem_append.mp ha with ha | ha
          · exact h2 a ha
          · rw [List.mem_singleton] at ha; omega, by simp; omega⟩
        simp only [List.length_append, List.length_cons, List.length_nil] at this
        exact this
    · rw [if_neg q] at e1
      subst e1
      refine ⟨by decide, fun _ => ih P ⟨by rw [h1, sfx_0 (by omega), sfx_0 (by omega)], h2, by omega⟩, fun z => absurd z (by decide)⟩
/-- the LAW OF TIES -/
def tieR (w : Int) (ag co : Int → Int) (p q : Int) : Prop := (w = 0 ∧ p < q) ∨ (w = 1 ∧ (ag q < ag p ∨ (ag p = ag q ∧ p < q))) ∨ (w = 2 ∧ (co q < co p ∨ (co p = co q ∧ p < q)))
set_option maxHeartbeats 2000000 in
theorem t_X7_isAhead {p q : Int} {s : Sto} (hp : 0 ≤ p ∧ p < 20) (hq : 0 ≤ q ∧ q < 20) (hk : rg (s 48 p) ∧ rg (s 48 q)) (hw : 0 ≤ s 4 1 ∧ s 4 1 ≤ 2) (ha : rg (s 8 p) ∧ rg (s 8 q)) (hc : rg (s 9 p) ∧ rg (s 9 q)) : ClI LY 0 MX7_isAhead [.inr 46, .inr 3, .inl p, .inl q] s (fun r s' => s' = s ∧ (r = 0 ∨ r = 1) ∧ (r = 1 ↔ s 48 p < s 48 q ∨ (s 48 p = s 48 q ∧ tieR (s 4 1) (s 8) (s 9) p q))) := by
  refine ClI.introZ (by decide) rfl (Nat.le_of_ble_eq_true rfl) (fun X C r => ?_)
  refine kb_X7_isAhead_0 C r ?_
  unfold tieR
  have k1 := hk.1
  have k2 := hk.2
  clear hk
  generalize s 48 p = a1 at k1 ⊢
  generalize s 48 q = a2 at k2 ⊢
  generalize s 8 p = b1 at ha ⊢
  generalize s 8 q = b2 at ha ⊢
  generalize s 9 p = c1 at hc ⊢
  generalize s 9 q = c2 at hc ⊢
  generalize s 4 1 = w at hw ⊢
  (repeat' (first | exact rfl | refine ⟨?_, ?_⟩ | intro _)) <;> (first | rfl | omega)
set_option maxHeartbeats 2000000 in
theorem t_X12_takesPlaces {q : Int} {s : Sto} {o : Int} (hb : s 75 22 = 0 ∨ s 75 22 = 1) (hq : 0 ≤ q ∧ q < 21) (hO : OdR (s 75 9) o (fun i => begS s 81 (8 * q + i))) : ClV LY 1 MX12_takesPlaces [.inr 75, .inl q] s (fun s' => (∀ c : Nat, c ≠ 101 → s' c = begS s c) ∧ PlR (s 75 9) (fun i => begS s 81 (8 * q + i)) (s' 101)) := by
  refine ClV.intro (by decide) rfl (Nat.le_of_ble_eq_true rfl) (fun X C r => ?_)
  refine kb_X12_takesPlaces_0 C r ?_
  refine ⟨0, _, by decide, t_X12_begins hb, ?_⟩
  rintro s1 rfl
  have e9 : begS s 75 9 = s 75 9 := begS_75 (by decide)
  have hK := hO.1
  generalize hue : begS s = u at hO e9 ⊢
  generalize hKe : s 75 9 = K at hO hK e9
  suffices H : ∀ S : Sto, ((∀ c : Nat, c ≠ 101 → S c = u c) ∧ ∀ i : Int, 0 ≤ i → i < 0 → S 101 (u 81 (8 * q + i)) = i) → G LY X 6 [rv 75, iv q, iv 0] [] S from H u ⟨fun _ _ => rfl, fun i g1 g2 => absurd g2 (by omega)⟩
  refine downI (P := fun j => ∀ S : Sto, ((∀ c : Nat, c ≠ 101 → S c = u c) ∧ ∀ i : Int, 0 ≤ i → i < j → S 101 (u 81 (8 * q + i)) = i) → G LY X 6 [rv 75, iv q, iv j] [] S) (a := 0) (b := K) (by omega) ?_ ?_
  · rintro S ⟨h1, h2⟩
    have e : S 75 9 = K := by rw [h1 75 (by decide), e9]
    refine kb_X12_takesPlaces_6 C r ⟨⟨⟨by omega, by omega⟩, by rw [e]; exact ⟨by omega, by omega⟩⟩, fun _ => ⟨by rw [hue]; exact h1, ?_⟩, fun z => absurd z (by omega)⟩
    rw [hKe, hue]
    exact h2
  · rintro j j1 j2 ih S ⟨h1, h2⟩
    have e : S 75 9 = K := by rw [h1 75 (by decide), e9]
    have e81 : S 81 (8 * q + j) = u 81 (8 * q + j) := by rw [h1 81 (by decide)]
    have hj : 0 ≤ u 81 (8 * q + j) ∧ u 81 (8 * q + j) < K := hO.2.1 j j1 j2
    refine kb_X12_takesPlaces_6 C r ⟨⟨⟨by omega, by omega⟩, by rw [e]; exact ⟨by omega, by omega⟩⟩, fun z => absurd z (by omega), fun _ => ⟨⟨by omega, by omega⟩, by rw [e81]; exact ⟨by omega, by omega⟩, ?_⟩⟩
    rintro s1 rfl
    rw [e81]
    refine ih _ ⟨fun c g => by rw [up_row g, h1 c g], fun i g1 g2 => ?_⟩
    rw [up_if]
    by_cases z : i = j
    · rw [z, if_pos rfl]
    · rw [if_neg (fun y => z (hO.2.2.1 i j g1 (by omega) j1 j2 y)), h2 i g1 (by omega)]
set_option maxHeartbeats 2000000 in
theorem t_X12_nextOf {p k : Int} {rk : Int → Int} {s : Sto} (hp : 0 ≤ p ∧ p < 51) (hk : 0 ≤ k ∧ k ≤ 7) (hn : 0 ≤ s 76 p ∧ s 76 p ≤ 6) (hf : ∀ i : Int, 0 ≤ i → i < s 76 p → 0 ≤ s 77 (6 * p + i) ∧ s 77 (6 * p + i) < 26) (hK : rg (s 75 9)) (hw : rg (s 82 0)) (hr : ∀ l : Int, 0 ≤ l → l < 26 → ((s 75 9 ≤ l ∧ s 82 0 = 2) ↔ rk l = -1)) : ClI LY 1 MX12_nextOf [.inr 75, .inl p, .inl k] s (fun r s' => s' = s ∧ k ≤ r ∧ r ≤ 7 ∧ sfx rk (fun i => s 77 (6 * p + i)) (s 76 p) (s 76 p - k).toNat = sfx rk (fun i => s 77 (6 * p + i)) (s 76 p) (s 76 p - r).toNat ∧ (r < s 76 p → rk (s 77 (6 * p + r)) ≠ -1)) := by
  refine ClI.intro (by decide) rfl (Nat.le_of_ble_eq_true rfl) (fun X C r => ?_)
  refine kb_X12_nextOf_0 C r ?_
  by_cases hkn : k < s 76 p
  · suffices H : ∀ j : Int, k ≤ j → j ≤ s 76 p → sfx rk (fun i => s 77 (6 * p + i)) (s 76 p) (s 76 p - k).toNat = sfx rk (fun i => s 77 (6 * p + i)) (s 76 p) (s 76 p - j).toNat → G LY X 2 [rv 75, iv p, iv k, iv j] [] s from H k (by omega) (by omega) rfl
    intro j hj0 hj1
    refine downI (P := fun j => k ≤ j → sfx rk (fun i => s 77 (6 * p + i)) (s 76 p) (s 76 p - k).toNat = sfx rk (fun i => s 77 (6 * p + i)) (s 76 p) (s 76 p - j).toNat → G LY X 2 [rv 75, iv p, iv k, iv j] [] s) (a := j) (b := s 76 p) hj1 ?_ ?_ hj0
    · intro g0 g1
      exact kb_X12_nextOf_2 C r ⟨hp, ⟨⟨by omega, by omega⟩, ⟨by omega, by omega⟩⟩, fun _ => ⟨rfl, by omega, by omega, g1, fun z => absurd z (by omega)⟩, fun z => absurd z (by omega)⟩
    · intro i i1 i2 ih g0 g1
      have hi := hf i (by omega) i2
      refine kb_X12_nextOf_2 C r ⟨hp, ⟨⟨by omega, by omega⟩, ⟨by omega, by omega⟩⟩, fun z => absurd z (by omega), fun _ => ⟨⟨by omega, by omega⟩, ?_⟩⟩
      refine ⟨0, _, by decide, t_X12_isLeftOut ⟨by omega, by omega⟩ hK hw, ?_⟩
      rintro r1 s1 ⟨hs, h1, h2⟩
      subst hs
      have hrk := hr _ hi.1 hi.2
      have hs := sfx_s (rk := rk) (f := fun i => s1 77 (6 * p + i)) (n := s1 76 p) (k := i) (by omega) i2
      refine ⟨by omega, fun z => ⟨rfl, by omega, by omega, g1, fun _ y => ?_⟩, fun z => ih (by omega) ?_⟩
      · have := hrk.mpr y; omega
      · rw [g1, hs, if_pos (hrk.mp (h2.mp (by omega)))]
  · refine kb_X12_nextOf_2 C r ⟨hp, ⟨⟨by omega, by omega⟩, ⟨by omega, by omega⟩⟩, fun _ => ⟨rfl, by omega, by omega, rfl, fun z => absurd z (by omega)⟩, fun z => absurd z (by omega)⟩
/-- where a letter stands, and its rank, go alike -/
theorem stand_iff {K law : Int} {pl : Int → Int} {a b : Int} (hK : 2 ≤ K ∧ K ≤ 8) (hp : ∀ l : Int, 0 ≤ l → l < K → 0 ≤ pl l ∧ pl l < K) (ha : 0 ≤ a ∧ a < 26) (hb : 0 ≤ b ∧ b < 26) (na : rkF K law pl a ≠ -1) (nb : rkF K law pl b ≠ -1) : ((if a < K then pl a else if law = 1 then a - 100 else 100 + a) < (if b < K then pl b else if law = 1 then b - 100 else 100 + b) ↔ rkF K law pl a < rkF K law pl b) ∧ ((if a < K then pl a else if law = 1 then a - 100 else 100 + a) = (if b < K then pl b else if law = 1 then b - 100 else 100 + b) ↔ rkF K law pl a = rkF K law pl b) := by
  unfold rkF at *
  by_cases qa : a < K
  · have ga := hp a ha.1 qa
    rw [if_pos qa] at na
    rw [if_pos qa, if_pos qa]
    by_cases qb : b < K
    · have gb := hp b hb.1 qb
      rw [if_pos qb, if_pos qb]
      generalize (if law = 1 then 26 - K else 0) = z0
      constructor <;> constructor <;> intro z <;> omega
    · rw [if_neg qb] at nb
      rw [if_neg qb, if_neg qb]
      by_cases w1 : law = 1
      · have w2 : ¬ law = 2 := by omega
        rw [if_pos w1, if_neg w2, if_pos w1, if_pos w1]
        constructor <;> constructor <;> intro z <;> omega
      · rw [if_neg w1]
        by_cases w2 : law = 2
        · rw [if_pos w2] at nb; exact absurd rfl nb
        · rw [if_neg w2, if_neg w1, if_neg w1]
          constructor <;> constructor <;> intro z <;> omega
  · rw [if_neg qa] at na
    rw [if_neg qa, if_neg qa]
    by_cases w2 : law = 2
    · rw [if_pos w2] at na; exact absurd rfl na
    · by_cases qb : b < K
      · have gb := hp b hb.1 qb
        rw [if_pos qb, if_pos qb, if_neg w2]
        by_cases w1 : law = 1
        · rw [if_pos w1, if_pos w1, if_pos w1]
          constructor <;> constructor <;> intro z <;> omega
        · rw [if_neg w1, if_neg w1, if_neg w1]
          constructor <;> constructor <;> intro z <;> omega
      · rw [if_neg qb, if_neg qb, if_neg w2, if_neg w2]
        by_cases w1 : law = 1
        · rw [if_pos w1, if_pos w1, if_pos w1, if_pos w1]
          constructor <;> constructor <;> intro z <;> omega
        · rw [if_neg w1, if_neg w1, if_neg w1, if_neg w1]
          constructor <;> constructor <;> intro z <;> omega
theorem rk_out {K law : Int} {pl : Int → Int} (hp : ∀ l : Int, 0 ≤ l → l < K → 0 ≤ pl l ∧ pl l < K) (hK : 2 ≤ K ∧ K ≤ 8) {l : Int} (h0 : 0 ≤ l) : (K ≤ l ∧ law = 2) ↔ rkF K law pl l = -1 := by
  unfold rkF
  by_cases q : l < K
  · have := hp l h0 q
    rw [if_pos q]
    constructor
    · intro z; omega
    · intro z; split at z <;> omega
  · rw [if_neg q]
    by_cases w2 : law = 2
    · rw [if_pos w2]; exact ⟨fun _ => rfl, fun _ => ⟨by omega, w2⟩⟩
    · rw [if_neg w2]
      constructor
      · intro z; exact absurd z.2 w2
      · intro z; split at z <;> omega
/-- the ranks of row p's NAME in the reference -/
abbrev sqM (s : Sto) (p : Int) : List Int := sfx (rkF (s 75 9) (s 82 0) (s 101)) (fun i => s 77 (6 * p + i)) (s 76 p) (s 76 p).toNat
set_option maxHeartbeats 2000000 in
theorem t_X12_isAhead {p q : Int} {s : Sto} (hp : 0 ≤ p ∧ p < 20) (hq : 0 ≤ q ∧ q < 20) (hnp : 0 ≤ s 76 p ∧ s 76 p ≤ 6) (hnq : 0 ≤ s 76 q ∧ s 76 q ≤ 6) (hfp : ∀ i : Int, 0 ≤ i → i < s 76 p → 0 ≤ s 77 (6 * p + i) ∧ s 77 (6 * p + i) < 26) (hfq : ∀ i : Int, 0 ≤ i → i < s 76 q → 0 ≤ s 77 (6 * q + i) ∧ s 77 (6 * q + i) < 26) (hK : 2 ≤ s 75 9 ∧ s 75 9 ≤ 8) (hw : 0 ≤ s 82 0 ∧ s 82 0 ≤ 2) (hw1 : 0 ≤ s 82 1 ∧ s 82 1 ≤ 2) (hpl : ∀ l : Int, 0 ≤ l → l < s 75 9 → 0 ≤ s 101 l ∧ s 101 l < s 75 9) (ha : rg (s 79 p) ∧ rg (s 79 q)) (hc : rg (s 80 p) ∧ rg (s 80 q)) : ClI LY 2 MX12_isAhead [.inr 75, .inl p, .inl q] s (fun r s' => s' = s ∧ (r = 0 ∨ r = 1) ∧ (r = 1 ↔ ltL (sqM s p) (sqM s q) ∨ (sqM s p = sqM s q ∧ tieR (s 82 1) (s 79) (s 80) p q))) := by
  refine ClI.introZ (by decide) rfl (Nat.le_of_ble_eq_true rfl) (fun X C r => ?_)
  refine kb_X12_isAhead_0 C r ?_
  have hout : ∀ l : Int, 0 ≤ l → l < 26 → ((s 75 9 ≤ l ∧ s 82 0 = 2) ↔ rkF (s 75 9) (s 82 0) (s 101) l = -1) := fun l g _ => rk_out hpl hK g
  have hrg : ∀ l : Int, 0 ≤ l → l < 26 → rg (if l < s 75 9 then s 101 l else if s 82 0 = 1 then l - 100 else 100 + l) := by
    intro l g1 g2
    by_cases z : l < s 75 9
    · rw [if_pos z]; have := hpl l g1 z; exact ⟨by omega, by omega⟩
    · rw [if_neg z]; split <;> exact ⟨by omega, by omega⟩
  refine ⟨1, _, by decide, t_X12_nextOf (rk := rkF (s 75 9) (s 82 0) (s 101)) (by omega) (by decide) hnp hfp ⟨by omega, by omega⟩ ⟨by omega, by omega⟩ hout, ?_⟩
  rintro i0 s1 ⟨hs, i1, i2, i3, i4⟩
  subst hs
  refine ⟨1, _, by decide, t_X12_nextOf (rk := rkF (s1 75 9) (s1 82 0) (s1 101)) (by omega) (by decide) hnq hfq ⟨by omega, by omega⟩ ⟨by omega, by omega⟩ hout, ?_⟩
  rintro j0 s2 ⟨hs, j1, j2, j3, j4⟩
  subst hs
  rw [show s2 76 p - 0 = s2 76 p by omega] at i3
  rw [show s2 76 q - 0 = s2 76 q by omega] at j3
  have H114 : ∀ i j : Int, 0 ≤ i → i ≤ 7 → 0 ≤ j → j ≤ 7 → ¬ (i < s2 76 p ∧ j < s2 76 q) → (i < s2 76 p → rkF (s2 75 9) (s2 82 0) (s2 101) (s2 77 (6 * p + i)) ≠ -1) → (j < s2 76 q → rkF (s2 75 9) (s2 82 0) (s2 101) (s2 77 (6 * q + j)) ≠ -1) → ((ltL (sqM s2 p) (sqM s2 q) ↔ ltL (sfx (rkF (s2 75 9) (s2 82 0) (s2 101)) (fun i => s2 77 (6 * p + i)) (s2 76 p) (s2 76 p - i).toNat) (sfx (rkF (s2 75 9) (s2 82 0) (s2 101)) (fun i => s2 77 (6 * q + i)) (s2 76 q) (s2 76 q - j).toNat)) ∧ (sqM s2 p = sqM s2 q ↔ (sfx (rkF (s2 75 9) (s2 82 0) (s2 101)) (fun i => s2 77 (6 * p + i)) (s2 76 p) (s2 76 p - i).toNat) = (sfx (rkF (s2 75 9) (s2 82 0) (s2 101)) (fun i => s2 77 (6 * q + i)) (s2 76 q) (s2 76 q - j).toNat))) → G LY X 114 [rv 75, iv p, iv q, iv i, iv j, none, none] [] s2 := by
    intro i j g1 g2 g3 g4 hn g5 g6 g7
    by_cases hi : i < s2 76 p
    · have sp := sfx_s (rk := rkF (s2 75 9) (s2 82 0) (s2 101)) (f := fun i => s2 77 (6 * p + i)) (n := s2 76 p) g1 hi
      rw [if_neg (g5 hi)] at sp
      have sq := sfx_0 (rk := rkF (s2 75 9) (s2 82 0) (s2 101)) (f := fun i => s2 77 (6 * q + i)) (n := s2 76 q) (k := j) (by omega)
      rw [sp, sq] at g7
      refine kb_X12_isAhead_114 C r ⟨by omega, ⟨⟨by omega, by omega⟩, ⟨by omega, by omega⟩⟩, fun _ => ⟨by omega, ⟨⟨by omega, by omega⟩, ⟨by omega, by omega⟩⟩, fun _ => ⟨rfl, Or.inl rfl, ?_⟩, fun z => absurd z (by omega)⟩, fun z => absurd z (by omega)⟩
      constructor
      · intro z; omega
      · intro z
        rcases z with z | z
        · have := g7.1.mp z
          simp [ltL] at this
        · have := g7.2.mp z.1
          cases this
    · have sp := sfx_0 (rk := rkF (s2 75 9) (s2 82 0) (s2 101)) (f := fun i => s2 77 (6 * p + i)) (n := s2 76 p) (k := i) (by omega)
      by_cases hj : j < s2 76 q
      · have sq := sfx_s (rk := rkF (s2 75 9) (s2 82 0) (s2 101)) (f := fun i => s2 77 (6 * q + i)) (n := s2 76 q) g3 hj
        rw [if_neg (g6 hj)] at sq
        rw [sp, sq] at g7
        refine kb_X12_isAhead_114 C r ⟨by omega, ⟨⟨by omega, by omega⟩, ⟨by omega, by omega⟩⟩, fun z => absurd z hi, fun _ => ⟨by omega, ⟨⟨by omega, by omega⟩, ⟨by omega, by omega⟩⟩, fun z => absurd z (by omega), fun _ => ⟨by omega, ⟨⟨by omega, by omega⟩, ⟨by omega, by omega⟩⟩, fun z => absurd z (by omega), fun _ => ⟨rfl, Or.inr rfl, ?_⟩⟩⟩⟩
        exact ⟨fun _ => Or.inl (g7.1.mpr (by simp [ltL])), fun _ => rfl⟩
      · have sq := sfx_0 (rk := rkF (s2 75 9) (s2 82 0) (s2 101)) (f := fun i => s2 77 (6 * q + i)) (n := s2 76 q) (k := j) (by omega)
        rw [sp, sq] at g7
        have hA : ¬ ltL (sqM s2 p) (sqM s2 q) := fun z => by have := g7.1.mp z; simp [ltL] at this
        have hB : sqM s2 p = sqM s2 q := g7.2.mpr rfl
        have r' : RetZ LY X MX12_isAhead.2.1 (fun r s' => s' = s2 ∧ (r = 0 ∨ r = 1) ∧ (r = 1 ↔ tieR (s2 82 1) (s2 79) (s2 80) p q)) := by
          intro pc L a t hd h01 hq
          refine r pc L a t hd h01 ⟨hq.1, hq.2.1, ?_⟩
          rw [hq.2.2]
          exact ⟨fun z => Or.inr ⟨hB, z⟩, fun z => z.elim (fun y => absurd y hA) (fun y => y.2)⟩
        unfold tieR at r'
        refine kb_X12_isAhead_114 C r' ?_
        clear r r' g5 g6 g7 hA hB sp sq hpl hout hrg i3 j3 i4 j4
        generalize s2 76 p = np at *
        generalize s2 76 q = nq at *
        generalize s2 79 p = b1 at *
        generalize s2 79 q = b2 at *
        generalize s2 80 p = c1 at *
        generalize s2 80 q = c2 at *
        generalize s2 82 1 = w at *
        (repeat' (first | exact rfl | refine ⟨?_, ?_⟩ | intro _)) <;> (first | rfl | omega)
  have main : ∀ (m : Nat) (i j : Int), (s2 76 p - i).toNat ≤ m → 0 ≤ i → i ≤ 7 → 0 ≤ j → j ≤ 7 → (i < s2 76 p → rkF (s2 75 9) (s2 82 0) (s2 101) (s2 77 (6 * p + i)) ≠ -1) → (j < s2 76 q → rkF (s2 75 9) (s2 82 0) (s2 101) (s2 77 (6 * q + j)) ≠ -1) → ((ltL (sqM s2 p) (sqM s2 q) ↔ ltL (sfx (rkF (s2 75 9) (s2 82 0) (s2 101)) (fun i => s2 77 (6 * p + i)) (s2 76 p) (s2 76 p - i).toNat) (sfx (rkF (s2 75 9) (s2 82 0) (s2 101)) (fun i => s2 77 (6 * q + i)) (s2 76 q) (s2 76 q - j).toNat)) ∧ (sqM s2 p = sqM s2 q ↔ (sfx (rkF (s2 75 9) (s2 82 0) (s2 101)) (fun i => s2 77 (6 * p + i)) (s2 76 p) (s2 76 p - i).toNat) = (sfx (rkF (s2 75 9) (s2 82 0) (s2 101)) (fun i => s2 77 (6 * q + i)) (s2 76 q) (s2 76 q - j).toNat))) → G LY X 15 [rv 75, iv p, iv q, iv i, iv j, none, none] [] s2 := by
    intro m
    induction m with
    | zero =>
      intro i j hm g1 g2 g3 g4 g5 g6 g7
      exact kb_X12_isAhead_15 C r ⟨by omega, ⟨⟨by omega, by omega⟩, ⟨by omega, by omega⟩⟩, fun _ => H114 i j g1 g2 g3 g4 (by omega) g5 g6 g7, fun z => absurd z (by omega)⟩
    | succ m ih =>
      intro i j hm g1 g2 g3 g4 g5 g6 g7
      refine kb_X12_isAhead_15 C r ⟨by omega, ⟨⟨by omega, by omega⟩, ⟨by omega, by omega⟩⟩, fun _ => H114 i j g1 g2 g3 g4 (by omega) g5 g6 g7, fun hi => ⟨by omega, ⟨⟨by omega, by omega⟩, ⟨by omega, by omega⟩⟩, fun _ => H114 i j g1 g2 g3 g4 (by omega) g5 g6 g7, fun hj => ⟨⟨by omega, by omega⟩, ?_⟩⟩⟩
      have fi := hfp i g1 hi
      have fj := hfq j g3 hj
      have sp := sfx_s (rk := rkF (s2 75 9) (s2 82 0) (s2 101)) (f := fun i => s2 77 (6 * p + i)) (n := s2 76 p) g1 hi
      rw [if_neg (g5 hi)] at sp
      have sq := sfx_s (rk := rkF (s2 75 9) (s2 82 0) (s2 101)) (f := fun i => s2 77 (6 * q + i)) (n := s2 76 q) g3 hj
      rw [if_neg (g6 hj)] at sq
      rw [sp, sq] at g7
      have hst := stand_iff (law := s2 82 0) hK hpl fi fj (g5 hi) (g6 hj)
      refine ⟨0, _, by decide, t_X12_standsAt ⟨by omega, by omega⟩ fi.1 ⟨by omega, by omega⟩ hK.2 ⟨by omega, by omega⟩, ?_⟩
      rintro x1 t1 ⟨ht, e1⟩
      rw [ht]
      refine ⟨⟨by omega, by omega⟩, ?_⟩
      refine ⟨0, _, by decide, t_X12_standsAt ⟨by omega, by omega⟩ fj.1 ⟨by omega, by omega⟩ hK.2 ⟨by omega, by omega⟩, ?_⟩
      rintro x2 t2 ⟨ht2, e2⟩
      rw [ht2]
      rw [← e1, ← e2] at hst
      have rx1 : rg x1 := by rw [e1]; exact hrg _ fi.1 fi.2
      have rx2 : rg x2 := by rw [e2]; exact hrg _ fj.1 fj.2
      refine ⟨⟨rx1, rx2⟩, fun z => ?_, fun z => ⟨⟨rx1, rx2⟩, fun z2 => ⟨rfl, Or.inl rfl, ?_⟩, fun z2 => ⟨rfl, Or.inr rfl, ?_⟩⟩⟩
      · have hxy := hst.2.mp z
        refine ⟨1, _, by decide, t_X12_nextOf (rk := rkF (s2 75 9) (s2 82 0) (s2 101)) (by omega) (by omega) hnp hfp ⟨by omega, by omega⟩ ⟨by omega, by omega⟩ hout, ?_⟩
        rintro i' t3 ⟨ht3, k1, k2, k3, k4⟩
        rw [ht3]
        refine ⟨1, _, by decide, t_X12_nextOf (rk := rkF (s2 75 9) (s2 82 0) (s2 101)) (by omega) (by omega) hnq hfq ⟨by omega, by omega⟩ ⟨by omega, by omega⟩ hout, ?_⟩
        rintro j' t4 ⟨ht4, l1, l2, l3, l4⟩
        rw [ht4]
        refine ih i' j' (by omega) (by omega) k2 (by omega) l2 k4 l4 ⟨?_, ?_⟩
        · rw [g7.1, ← k3, ← l3]
          show (_ < _ ∨ (_ = _ ∧ ltL _ _)) ↔ _
          constructor
          · intro y
            rcases y with y | y
            · omega
            · exact y.2
          · intro y; exact Or.inr ⟨hxy, y⟩
        · rw [g7.2, ← k3, ← l3]
          constructor
          · intro y; exact (List.cons.inj y).2
          · intro y; rw [hxy, y]
      · constructor
        · intro y; omega
        · intro y
          rcases y with y | y
          · have := g7.1.mp y
            have h2 : rkF (s2 75 9) (s2 82 0) (s2 101) (s2 77 (6 * p + i)) < rkF (s2 75 9) (s2 82 0) (s2 101) (s2 77 (6 * q + j)) ∨ (rkF (s2 75 9) (s2 82 0) (s2 101) (s2 77 (6 * p + i)) = rkF (s2 75 9) (s2 82 0) (s2 101) (s2 77 (6 * q + j)) ∧ _) := this
            rcases h2 with h2 | h2
            · have := hst.1.mpr h2; omega
            · exact absurd (hst.2.mpr h2.1) z
          · have := (List.cons.inj (g7.2.mp y.1)).1
            exact absurd (hst.2.mpr this) z
      · exact ⟨fun _ => Or.inl (g7.1.mpr (Or.inl (hst.1.mp z2))), fun _ => rfl⟩
  exact main 10 i0 j0 (by omega) i1 i2 j1 j2 i4 j4 ⟨by show (ltL (sfx _ _ _ _) (sfx _ _ _ _) ↔ _); rw [i3, j3], by show (sfx _ _ _ _ = sfx _ _ _ _ ↔ _); rw [i3, j3]⟩
