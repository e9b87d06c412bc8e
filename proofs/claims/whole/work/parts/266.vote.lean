/-! VOTES: the ORDER that is found -/
/-- by points or by pairs: 0, 1; nearest: 2 -/
noncomputable def voF (ov : Int → Int → Int) (K rule i : Int) : Int := if rule = 2 then rwA ov K (2 ^ K.toNat - 1) i else omF (mrF ov K rule) K i
theorem ptF_congr {P P' : Int → Int → Int} {w : Int → Int} {K l n : Int} (hP : ∀ v : Int, 0 ≤ v → v < n → P' v l = P v l) : ∀ k : Nat, (k : Int) ≤ n → ptF P' w K l k = ptF P w K l k
  | 0, _ => rfl
  | k + 1, hk => by
    show ptF P' w K l k + w k * (K - 1 - P' k l) = ptF P w K l k + w k * (K - 1 - P k l)
    rw [ptF_congr hP k (by omega), hP k (by omega) (by omega)]
set_option maxHeartbeats 8000000 in
/-- the reference, where there are VOTERS; the LETTERS' places in the votes are each once there -/
theorem t_findsV {s : Sto} {K n rule : Int} (hb : s 75 22 = 0 ∨ s 75 22 = 1) (hK : s 75 9 = K) (hn : s 75 18 = n) (hK8 : 2 ≤ K ∧ K ≤ 8) (hn12 : 0 < n ∧ n ≤ 12) (hr : rg rule) (h59 : rg (s 75 59)) (ho : ∀ v i : Int, 0 ≤ v → v < n → 0 ≤ i → i < K → rg (s 81 (8 * (7 + v) + i))) (hw : ∀ v : Int, 0 ≤ v → v < n → 1 ≤ s 89 v ∧ s 89 v ≤ 9) (hP : ∀ v : Int, 0 ≤ v → v < n → PBj (pvS s v) K) : ClV LY 2 MX12_findsVote [.inr 75, .inl rule] s (fun s' => (∀ c : Nat, c ≠ 81 → c ≠ 101 → c ≠ 110 → c ≠ 111 → c ≠ 112 → s' c = begS s c) ∧ (∀ i : Int, ¬ (160 ≤ i ∧ i < 168) → s' 81 i = begS s 81 i) ∧ ∀ i : Int, 0 ≤ i → i < K → s' 81 (160 + i) = voF (fun a b => ovF (pvS s) (s 89) a b n.toNat) K rule i) := by
  have b75 : ∀ i : Int, i ≠ 22 → begS s 75 i = s 75 i := fun i hi => begS_75 hi
  have b81 : ∀ i : Int, 8 ≤ i → begS s 81 i = s 81 i := fun i hi => by
    rw [begS_at]
    by_cases q : s 75 22 = 0
    · rw [if_pos q, if_neg (by omega), if_neg (fun z => absurd z.1 (by decide))]
    · rw [if_neg q]
  -- places do not change as the ORDERS begin
  have pvE : ∀ (S : Sto) (v l : Int), (∀ i : Int, i ≠ 22 → S 75 i = s 75 i) → (∀ i : Int, 8 ≤ i → i < 160 → S 81 i = s 81 i) → 0 ≤ v → v < n → pvS S v l = pvS s v l := by
    intro S v l e1 e2 v0 v1
    have at_e : ∀ (l : Int) (k : Nat), (k : Int) ≤ K → atF (fun i => S 81 (8 * (7 + v) + i)) l k = atF (fun i => s 81 (8 * (7 + v) + i)) l k := by
      intro l k
      induction k with
      | zero => intro _; rfl
      | succ k ih =>
        intro hk
        show (if S 81 (8 * (7 + v) + k) = l then (k : Int) else atF (fun i => S 81 (8 * (7 + v) + i)) l k) = (if s 81 (8 * (7 + v) + k) = l then (k : Int) else atF (fun i => s 81 (8 * (7 + v) + i)) l k)
        rw [ih (by omega), e2 _ (by omega) (by omega)]
    unfold pvS plB
    rw [e1 58 (by decide), e1 59 (by decide), e1 9 (by decide), hK, at_e l _ (by omega), at_e (s 75 59) _ (by omega)]
  refine ClV.intro (by decide) rfl (Nat.le_of_ble_eq_true rfl) (fun X C r => ?_)
  refine kb_X12_findsVote_0 C r ⟨0, _, by decide, t_X12_begins hb, ?_⟩
  rintro u hu
  have u75 : ∀ i : Int, i ≠ 22 → u 75 i = s 75 i := fun i hi => by rw [hu, b75 i hi]
  have u81 : ∀ i : Int, 8 ≤ i → u 81 i = s 81 i := fun i hi => by rw [hu, b81 i hi]
  have uc : ∀ c : Nat, c ≠ 75 → c ≠ 81 → u c = s c := fun c c1 c2 => by rw [hu, begS_row c1 c2]
  rw [u75 18 (by decide), hn]
  refine ⟨⟨by omega, by omega⟩, fun _ => ⟨1, _, by decide, t_X12_findsOvers (s := u) (K := K) (n := n) (by rw [u75 9 (by decide)]; exact hK) (by rw [u75 18 (by decide)]; exact hn) hK8 ⟨by omega, hn12.2⟩ (by rw [u75 59 (by decide)]; exact h59) (fun v i v0 v1 i0 i1 => by rw [u81 _ (by omega)]; exact ho v i v0 v1 i0 i1), ?_⟩, fun z => absurd z (by omega)⟩
  rintro w ⟨w1, w2⟩
  have rK : rg K := ⟨by omega, by omega⟩
  -- the table
  have hov : OVM w K (fun a b => ovF (pvS s) (s 89) a b n.toNat) := fun x y x0 x1 y0 y1 => by
    have bd := ovF_bd (P := pvS s) (w := s 89) (n := n) hw x y n.toNat (by omega)
    refine ⟨?_, bd.1, by have := bd.2; show ovF (pvS s) (s 89) x y n.toNat ≤ 108; omega⟩
    rw [w2 x y x0 (by omega) y0 (by omega), if_pos ⟨x1, y1⟩]
    refine ovF_congr (n := n) (fun v v0 v1 => ⟨?_, ?_⟩) (fun v v0 v1 => by rw [uc 89 (by decide) (by decide)]) _ (by omega)
    · have := pvE u v x u75 (fun i i0 _ => u81 i i0) v0 v1
      unfold pvS at this ⊢
      rw [u75 9 (by decide), hK] at this
      rw [hK]
      exact this
    · have := pvE u v y u75 (fun i i0 _ => u81 i i0) v0 v1
      unfold pvS at this ⊢
      rw [u75 9 (by decide), hK] at this
      rw [hK]
      exact this
  have w75 : w 75 = u 75 := w1 75 (by decide) (by decide)
  have w81 : w 81 = u 81 := w1 81 (by decide) (by decide)
  have wc : ∀ c : Nat, c ≠ 101 → c ≠ 110 → w c = begS s c := fun c c1 c2 => by rw [w1 c c1 c2, hu]
  refine ⟨hr, fun z => ?_, fun z => ⟨1, _, by decide, t_X12_findsNearest (by rw [w75, u75 9 (by decide)]; exact hK) hK8 hov, ?_⟩⟩
  · -- by merit
    have vo : ∀ i : Int, voF (fun a b => ovF (pvS s) (s 89) a b n.toNat) K rule i = omF (mrF (fun a b => ovF (pvS s) (s 89) a b n.toNat) K rule) K i := fun i => if_neg z
    have merit : ∀ l : Int, 0 ≤ l → l < K → rule = 0 → ptF (pvS s) (s 89) K l n.toNat = mrF (fun a b => ovF (pvS s) (s 89) a b n.toNat) K rule l := fun l l0 l1 q => by
      unfold mrF
      rw [if_pos q]
      exact (ptF_eq (w := s 89) (n := n) (by omega) ⟨l0, l1⟩ hP n.toNat (by omega)).symm
    have pairs : ∀ l : Int, 0 ≤ l → l < K → rule ≠ 0 → cntI (fun o => w 110 (8 * o + l) < w 110 (8 * l + o)) K.toNat = mrF (fun a b => ovF (pvS s) (s 89) a b n.toNat) K rule l := fun l l0 l1 q => by
      unfold mrF
      rw [if_neg q]
      exact cntI_congr _ (fun o o0 o1 => by rw [(hov o l o0 (by omega) l0 l1).1, (hov l o l0 l1 o0 (by omega)).1])
    have mb : ∀ l : Int, 0 ≤ l → l < K → 0 ≤ mrF (fun a b => ovF (pvS s) (s 89) a b n.toNat) K rule l ∧ mrF (fun a b => ovF (pvS s) (s 89) a b n.toNat) K rule l ≤ 864 := fun l l0 l1 => mrF_bd hK8 (fun b b0 b1 => (hov l b l0 l1 b0 b1).2)
    have oro := omF_row (mr := mrF (fun a b => ovF (pvS s) (s 89) a b n.toNat) K rule) (K := K) (by omega)
    generalize hmr : mrF (fun a b => ovF (pvS s) (s 89) a b n.toNat) K rule = mr at *
    have main : ∀ S : Sto, ((∀ c : Nat, c ≠ 81 → c ≠ 111 → S c = w c) ∧ (∀ i : Int, ¬ (160 ≤ i ∧ i < 168) → S 81 i = w 81 i) ∧ (∀ x : Int, 0 ≤ x → x < 0 → S 111 x = mr x) ∧ RowR (fun i => S 81 (160 + i)) 0 (srtL (amR mr) (0 : Int).toNat)) → G LY X 35 [rv 75, iv rule, iv 0, none] [] S := by
      refine downI (P := fun p => ∀ S : Sto, ((∀ c : Nat, c ≠ 81 → c ≠ 111 → S c = w c) ∧ (∀ i : Int, ¬ (160 ≤ i ∧ i < 168) → S 81 i = w 81 i) ∧ (∀ x : Int, 0 ≤ x → x < p → S 111 x = mr x) ∧ RowR (fun i => S 81 (160 + i)) p (srtL (amR mr) p.toNat)) → G LY X 35 [rv 75, iv rule, iv p, none] [] S) (a := 0) (b := K) (by omega) ?_ ?_
      · rintro S ⟨k1, k2, k3, k4⟩
        refine kb_X12_findsVote_35 C r ?_
        rw [k1 75 (by decide) (by decide), w75, u75 9 (by decide), hK]
        refine ⟨⟨rK, rK⟩, fun _ => ⟨fun c c1 c2 c3 c4 c5 => by rw [k1 c c1 c4, wc c c2 c3], fun i hi => by rw [k2 i hi, w81, hu], fun i i0 i1 => ?_⟩, fun z => absurd z (by omega)⟩
        rw [vo]
        exact k4.2 i i0 i1
      · rintro p p1 p2 ih S ⟨k1, k2, k3, k4⟩
        have S75 : S 75 = u 75 := by rw [k1 75 (by decide) (by decide), w75]
        have S81v : ∀ i : Int, 8 ≤ i → i < 160 → S 81 i = s 81 i := fun i i0 i1 => by rw [k2 i (by omega), w81, u81 i i0]
        have S81o : ∀ v i : Int, 0 ≤ v → v < n → 0 ≤ i → i < K → rg (S 81 (8 * (7 + v) + i)) := fun v i v0 v1 i0 i1 => by rw [S81v _ (by omega) (by omega)]; exact ho v i v0 v1 i0 i1
        -- put in
        have go : ∀ T : Sto, T = up S 111 p (mr p) → G LY X 68 [rv 75, iv rule, iv p, iv p] [] T := by
          rintro T hT
          have t1 : ∀ c : Nat, c ≠ 81 → c ≠ 111 → T c = w c := fun c c1 c2 => by rw [hT, up_row c2, k1 c c1 c2]
          have t2 : ∀ i : Int, ¬ (160 ≤ i ∧ i < 168) → T 81 i = w 81 i := fun i hi => by rw [hT, up_row (by decide)]; exact k2 i hi
          have t3 : ∀ x : Int, 0 ≤ x → x < p + 1 → T 111 x = mr x := fun x x0 x1 => by
            rw [hT, up_if]
            by_cases e : x = p
            · rw [if_pos e, e]
            · rw [if_neg e]; exact k3 x x0 (by omega)
          have t4 : RowR (fun i => T 81 (160 + i)) p (srtL (amR mr) p.toNat) := by
            have e : T 81 = S 81 := by rw [hT, up_row (by decide)]
            rw [e]
            exact k4
          have hfin : ∀ (S2 : Sto) (a : Int) (X_1 Y : List Int), (∀ c : Nat, c ≠ 81 → S2 c = T c) → (∀ i : Int, ¬ (160 ≤ i ∧ i < 168) → S2 81 i = w 81 i) → 0 ≤ a → a ≤ p → MidR (fun i => S2 81 (160 + i)) p a (srtL (amR mr) p.toNat) X_1 Y → srtL (amR mr) (p + 1).toNat = X_1 ++ (p :: Y) → G LY X 35 [rv 75, iv rule, iv (p + 1), none] [] (up S2 81 (160 + a) p) := by
            intro S2 a X_1 Y g1 g1' g2 g3 g4 g5
            refine ih _ ⟨fun c c1 c2 => by rw [up_row c1, g1 c c1, t1 c c1 c2], fun i hi => by rw [up_idx (by omega)]; exact g1' i hi, fun x x0 x1 => by rw [up_row (by decide), g1 111 (by decide)]; exact t3 x x0 x1, ?_⟩
            rw [g5]
            refine g4.fin g3 g2 (fun i => ?_)
            show up S2 81 (160 + a) p 81 (160 + i) = if i = a then p else S2 81 (160 + i)
            rw [up_if]
            by_cases e : i = a
            · rw [if_pos (by omega), if_pos e]
            · rw [if_neg (by omega), if_neg e]
          suffices H2 : ∀ (a : Int), 0 ≤ a → a ≤ p → ∀ (S2 : Sto) (X_1 Y : List Int), (∀ c : Nat, c ≠ 81 → S2 c = T c) → (∀ i : Int, ¬ (160 ≤ i ∧ i < 168) → S2 81 i = w 81 i) → MidR (fun i => S2 81 (160 + i)) p a (srtL (amR mr) p.toNat) X_1 Y → srtL (amR mr) (p + 1).toNat = X_1 ++ insL (amR mr) p Y → G LY X 68 [rv 75, iv rule, iv p, iv a] [] S2 from H2 p p1 (Int.le_refl _) T [] _ (fun _ _ => rfl) t2 (MidR.begin t4) (srt_snoc p1)
          intro a ha0
          obtain ⟨m, rfl⟩ := Int.eq_ofNat_of_zero_le ha0
          induction m with
          | zero =>
            intro ha S2 X_1 Y g1 g1' g4 g5
            have hY : Y = [] := by
              have := g4.2.1
              cases Y with
              | nil => rfl
              | cons y Y => simp at this; omega
            subst hY
            refine kb_X12_findsVote_68 C r ⟨by decide, fun _ => ⟨by decide, ?_⟩, fun z => absurd z (by decide)⟩
            rintro t1 rfl
            exact hfin S2 0 X_1 [] g1 g1' (by decide) (by omega) g4 g5
          | succ m ihm =>
            intro ha S2 X_1 Y g1 g1' g4 g5
            cases Y with
            | nil => have := g4.2.1; simp at this; omega
            | cons y Y =>
              have hy : S2 81 (160 + ((m + 1 : Nat) : Int) - 1) = y := by
                have := g4.2.2.2.1 (((m + 1 : Nat) : Int) - 1) (by omega) (by omega)
                rw [show (((m + 1 : Nat) : Int) - 1 - (((m + 1 : Nat) : Int) - 1)).toNat = 0 by omega] at this
                rw [show 160 + ((m + 1 : Nat) : Int) - 1 = 160 + (((m + 1 : Nat) : Int) - 1) by omega]
                exact this
              have hyb : 0 ≤ y ∧ y < p := by
                have : y ∈ srtL (amR mr) p.toNat := by rw [g4.1]; simp
                have := (srtL_mem _ _).mp this
                omega
              have e1 : S2 111 y = mr y := by rw [g1 111 (by decide)]; exact t3 y hyb.1 (by omega)
              have e2 : S2 111 p = mr p := by rw [g1 111 (by decide)]; exact t3 p p1 (by omega)
              have m1 := mb y hyb.1 (by omega)
              have m2 := mb p p1 p2
              refine kb_X12_findsVote_68 C r ⟨⟨by omega, by omega⟩, fun z => absurd z (by omega), fun _ => ⟨⟨by omega, by omega⟩, ?_⟩⟩
              rw [hy, e1, e2]
              refine ⟨⟨by omega, by omega⟩, ⟨by omega, by omega⟩, ⟨⟨by omega, by omega⟩, ⟨by omega, by omega⟩⟩, fun z => ⟨⟨by omega, by omega⟩, ?_⟩, fun z => ⟨⟨by omega, by omega⟩, ⟨by omega, by omega⟩, ?_⟩⟩
              · rintro t3' rfl
                rw [insL_f (fun q => by have := amR_iff.mp q; omega)] at g5
                exact hfin S2 _ X_1 (y :: Y) g1 g1' (by omega) ha g4 g5
              · rintro t3' rfl
                rw [insL_t (amR_iff.mpr (Or.inl z))] at g5
                have := ihm (by omega) (by omega) (up S2 81 (160 + ((m + 1 : Nat) : Int)) y) (X_1 ++ [y]) Y (fun c g => by rw [up_row g, g1 c g]) (fun i hi => by rw [up_idx (by omega)]; exact g1' i hi) (by
                  have := g4.pass (row' := fun i => up S2 81 (160 + ((m + 1 : Nat) : Int)) y 81 (160 + i)) (fun i => by
                    show up S2 81 (160 + ((m + 1 : Nat) : Int)) y 81 (160 + i) = if i = ((m + 1 : Nat) : Int) then y else S2 81 (160 + i)
                    rw [up_if]
                    by_cases e : i = ((m + 1 : Nat) : Int)
                    · rw [if_pos (by omega), if_pos e]
                    · rw [if_neg (by omega), if_neg e]) ha
                  rw [show ((m + 1 : Nat) : Int) - 1 = (m : Int) by omega] at this
                  exact this) (by rw [g5]; simp)
                rw [show ((m + 1 : Nat) : Int) - 1 = (m : Int) by omega]
                exact this
        refine kb_X12_findsVote_35 C r ?_
        rw [S75, u75 9 (by decide), hK]
        refine ⟨⟨⟨by omega, by omega⟩, rK⟩, fun z => absurd z (by omega), fun _ => ⟨hr, fun z2 => ⟨0, _, by decide, t_X12_beatenBy (s := S) (K := K) (l := p) (by rw [S75, u75 9 (by decide)]; exact hK) hK8 ⟨p1, p2⟩ (fun a b a0 a1 b0 b1 => ?_), ?_⟩, fun z2 => ⟨1, _, by decide, t_X12_pointsOf (s := S) (K := K) (n := n) (l := p) (by rw [S75, u75 9 (by decide)]; exact hK) (by rw [S75, u75 18 (by decide)]; exact hn) hK8 ⟨by omega, hn12.2⟩ ⟨p1, p2⟩ (by rw [S75, u75 59 (by decide)]; exact h59) S81o, ?_⟩⟩⟩
        · rw [k1 110 (by decide) (by decide)]
          have := hov a b a0 a1 b0 b1
          exact ⟨by omega, by omega⟩
        · rintro x y ⟨hy, hx⟩
          rw [hy]
          refine ⟨⟨by omega, by omega⟩, ?_⟩
          rw [k1 110 (by decide) (by decide), pairs p p1 p2 z2] at hx
          rw [hx]
          rintro T hT
          exact go T hT
        · rintro x y ⟨hy, hx⟩
          rw [hy]
          refine ⟨⟨by omega, by omega⟩, ?_⟩
          have ep : ptF (pvS S) (S 89) K p n.toNat = ptF (pvS s) (s 89) K p n.toNat := by
            have e89 : S 89 = s 89 := by rw [k1 89 (by decide) (by decide), w1 89 (by decide) (by decide), uc 89 (by decide) (by decide)]
            rw [e89]
            exact ptF_congr (n := n) (fun v v0 v1 => pvE S v p (fun i hi => by rw [S75, u75 i hi]) S81v v0 v1) n.toNat (by omega)
          rw [ep, merit p p1 p2 z2] at hx
          rw [hx]
          rintro T hT
          exact go T hT
    exact main w ⟨fun _ _ _ => rfl, fun _ _ => rfl, fun x x0 x1 => absurd x1 (by omega), rfl, fun i g1 g2 => absurd g2 (by omega)⟩
  · -- the nearest
    rintro x ⟨x1, x2, x3⟩
    refine ⟨fun c c1 c2 c3 c4 c5 => by rw [x1 c c1 c5, wc c c2 c3], fun i hi => by rw [x2 i hi, w81, hu], fun i i0 i1 => ?_⟩
    rw [x3 i i0 i1]
    exact (if_pos z).symm
