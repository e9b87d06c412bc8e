theorem stS_75 (t : Sto) (od : Int → Int) (g m : Int) : ∀ k : Nat, stS t od g m k 75 = t 75
  | 0 => rfl
  | k + 1 => by
    show rnS (stS t od g m k) od g m.toNat 75 = t 75
    rw [rnS_75, stS_75 t od g m k]
theorem taS_bd (t : Sto) (od : Int → Int) (g m : Int) (hm : 0 ≤ m ∧ m ≤ 20) : ∀ k : Nat, 0 ≤ taS t od g m k ∧ taS t od g m k ≤ 20 * k
  | 0 => by
    show (0 : Int) ≤ 0 ∧ (0 : Int) ≤ 20 * ((0 : Nat) : Int)
    decide
  | k + 1 => by
    have ih := taS_bd t od g m hm k
    have b := rnN_bd (stS t od g m k) od g m.toNat
    show 0 ≤ taS t od g m k + rnN (stS t od g m k) od g m.toNat ∧ taS t od g m k + rnN (stS t od g m k) od g m.toNat ≤ 20 * ((k + 1 : Nat) : Int)
    omega
theorem smP_pk {T T' : Sto} {m : Int} {a b : Int → Int} (h : ∀ q : Int, 0 ≤ q → q < m → NmR (a q) (T 76 q) (fun i => T 77 (6 * q + i))) (h' : ∀ q : Int, 0 ≤ q → q < m → NmR (b q) (T' 76 q) (fun i => T' 77 (6 * q + i))) : (∀ q : Int, 0 ≤ q → q < m → a q = b q) ↔ smP T T' m := by
  refine ⟨fun e q q0 q1 => ((h q q0 q1).inj (h' q q0 q1)).mp (e q q0 q1), fun e q q0 q1 => ((h q q0 q1).inj (h' q q0 q1)).mpr (e q q0 q1)⟩
set_option maxHeartbeats 4000000 in
theorem t_X10_goThrough {s t : Sto} {od : Int → Int} {g : Int} (lr : LR s t od) (hN : NamesR (s 5 0) (s 6) (t 76) (t 77) 0) (hM : ∀ i : Int, 0 ≤ i → i < g → NmR (s 13 i) (t 76 (20 + i)) (fun k => t 77 (6 * (20 + i) + k))) (hg : s 3 9 = g ∧ 0 ≤ g ∧ g ≤ 10) : ClV LY 6 MX10_goThrough [.inr 56, .inr 3, .inr 46, .inr 52] s (fun s' => (∀ c : Nat, ¬ (47 ≤ c ∧ c ≤ 58) → s' c = s c) ∧ RestR t od g (t 75 4) (s' 56 2) (s' 56 3) (s' 56 4)) := by
  have n1 := lr.nms.1
  have e5 : s 5 0 = t 75 4 := lr.1.2.1.1
  refine ClV.intro (by decide) rfl (Nat.le_of_ble_eq_true rfl) (fun X C r => ?_)
  refine kb_X10_goThrough_0 C r (by omega) ⟨⟨⟨by decide, by decide, by omega⟩, by omega, by omega⟩, ?_⟩
  rintro a ha
  have ea : ∀ c : Nat, c ≠ 57 → a c = s c := fun c hc => by rw [ha, cpy_row hc]
  have lra : LR a t od := lr.congr (fun c c1 c2 => ea c (by omega))
  refine ⟨2, _, by decide, t_payL lra, ?_⟩
  rintro v ⟨v1, v2⟩
  have ev : ∀ c : Nat, c ≠ 57 → c ≠ 51 → v c = s c := fun c c1 c2 => by rw [v1 c c2, ea c c1]
  have lrv : LR v t od := lra.congr (fun c c1 c2 => v1 c (by omega))
  refine ⟨2, _, by decide, t_lineL (o := v 3 2) (oq := od) lrv (by rw [ev 5 (by decide) (by decide), ev 6 (by decide) (by decide)]; exact hN) lrv.2.1, ?_⟩
  rintro w ⟨w1, pl, w2, w3, w4, w5, w6⟩
  have ew : ∀ c : Nat, ¬ (47 ≤ c ∧ c ≤ 58) → w c = s c := fun c c1 => by rw [w1 c (by omega) (by omega) (by omega) (by omega), ev c (by omega) (by omega)]
  have w57 : ∀ q : Int, 0 ≤ q → q < t 75 4 → w 57 q = s 6 q := fun q q0 q1 => by
    rw [w1 57 (by decide) (by decide) (by decide) (by decide), v1 57 (by decide), ha, cpy_in (by omega), show 0 + (q - 0) = q by omega]
  have w7 : ∀ x : Int, 0 ≤ x → x < t 75 4 → w 51 x = psm (t 83) (t 84) (t 85) (t 86) (t 75 4) x 6 := fun x x0 x1 => by rw [w1 51 (by decide) (by decide) (by decide) (by decide), v2 x x0 x1]
  have lrw : LR w t od := lrv.congr (fun c c1 c2 => w1 c (by omega) (by omega) (by omega) (by omega))
  have crw : CR w t od g := by
    refine ⟨lrw, ⟨⟨lrw.1.2.1.1, (lrw.2.2.1 1 (by decide) (by decide)).1, fun x x0 x1 => ?_⟩, ⟨pl, w2, w3, w4⟩, w7⟩, fun q q0 q1 => ?_, ?_, ?_⟩
    · obtain ⟨g1, g2, g3⟩ := lrw.2.2.2.1 x x0 (by rw [lrw.1.2.1.1]; exact x1)
      exact ⟨g2.1, g3.1⟩
    · rw [w57 q q0 q1]
      have := hN q q0 (by omega)
      rw [Int.zero_add] at this
      exact this
    · rw [ew 13 (by decide)]; exact hM
    · rw [ew 3 (by decide)]; exact hg
  rintro b1 hb1 b2 hb2 b3 hb3
  rw [e5]
  have f56 : b3 56 2 = -1 ∧ b3 56 3 = 0 ∧ b3 56 4 = 0 := by
    rw [hb3, up_idx (by decide), up_idx (by decide), up_at, hb2, up_idx (by decide), up_at, hb1, up_at]
    exact ⟨rfl, rfl, rfl⟩
  have eb : ∀ c : Nat, c ≠ 56 → b3 c = w c := fun c hc => by rw [hb3, up_row hc, hb2, up_row hc, hb1, up_row hc]
  have key : ∀ S : Sto, ((∀ c : Nat, ¬ (47 ≤ c ∧ c ≤ 58) → S c = s c) ∧ CR S (stS t od g (t 75 4) 0) od g ∧ (S 56 2 = -1 ∧ S 56 3 = 0 ∧ S 56 4 = taS t od g (t 75 4) 0) ∧ (∀ b : Nat, b < 0 → ∀ q : Int, 0 ≤ q → q < t 75 4 → NmR (S 58 (b * 20 + q)) (stS t od g (t 75 4) b 76 q) (fun i => stS t od g (t 75 4) b 77 (6 * q + i))) ∧ goK t od g (t 75 4) 0) → G LY X 59 [rv 56, rv 3, rv 46, rv 52, iv (t 75 4), iv ((0 : Nat) : Int), none] [] S := by
    refine down (P := fun k => ∀ S : Sto, ((∀ c : Nat, ¬ (47 ≤ c ∧ c ≤ 58) → S c = s c) ∧ CR S (stS t od g (t 75 4) k) od g ∧ (S 56 2 = -1 ∧ S 56 3 = 0 ∧ S 56 4 = taS t od g (t 75 4) k) ∧ (∀ b : Nat, b < k → ∀ q : Int, 0 ≤ q → q < t 75 4 → NmR (S 58 (b * 20 + q)) (stS t od g (t 75 4) b 76 q) (fun i => stS t od g (t 75 4) b 77 (6 * q + i))) ∧ goK t od g (t 75 4) k) → G LY X 59 [rv 56, rv 3, rv 46, rv 52, iv (t 75 4), iv ((k : Nat) : Int), none] [] S) (N := 40) ?_ ?_
    · rintro S ⟨k1, k2, k3, k4, k5⟩
      refine kb_X10_goThrough_59 C r (by omega) ⟨by decide, fun _ => ⟨k1, Or.inr (Or.inr ⟨k5, k3.1, k3.2.1, k3.2.2⟩)⟩, fun z => absurd z (by decide)⟩
    · rintro k hk ih S ⟨k1, k2, k3, k4, k5⟩
      refine kb_X10_goThrough_59 C r (by omega) ⟨⟨by omega, by omega⟩, fun z => absurd z (by omega), fun _ => ⟨⟨⟨by decide, by omega, by omega⟩, by omega, by omega⟩, ?_⟩⟩
      rintro x hx
      have ex : ∀ c : Nat, c ≠ 58 → x c = S c := fun c hc => by rw [hx, cpy_row hc]
      have crx : CR x (stS t od g (t 75 4) k) od g := k2.congr (fun c c1 => ex c (by omega))
      have s75 : stS t od g (t 75 4) k 75 = t 75 := stS_75 _ _ _ _ _
      have x58 : ∀ b : Nat, b < k + 1 → ∀ q : Int, 0 ≤ q → q < t 75 4 → NmR (x 58 (b * 20 + q)) (stS t od g (t 75 4) b 76 q) (fun i => stS t od g (t 75 4) b 77 (6 * q + i)) := fun b hb q q0 q1 => by
        rw [hx]
        by_cases e : b = k
        · rw [e, cpy_in (by omega), show 0 + ((k : Int) * 20 + q - (k : Int) * 20) = q by omega]
          exact k2.2.2.1 q q0 (by rw [s75]; exact q1)
        · rw [cpy_out (by omega)]
          exact k4 b (by omega) q q0 q1
      refine ⟨5, _, by decide, t_X10_goRound crx, ?_⟩
      rw [s75]
      rintro y ⟨y1, y2, y3, y4⟩
      have b4 := taS_bd t od g (t 75 4) n1 k
      have b5 := rnN_bd (stS t od g (t 75 4) k) od g (t 75 4).toNat
      have x4 : x 56 4 = taS t od g (t 75 4) k := by rw [ex 56 (by decide), k3.2.2]
      have ey : ∀ c : Nat, ¬ (47 ≤ c ∧ c ≤ 58) → y c = s c := fun c hc => by rw [y1 c (by omega) (by omega) (by omega) (by omega) (by omega) (by omega), ex c (by omega), k1 c hc]
      have y58 : y 58 = x 58 := y1 58 (by decide) (by decide) (by decide) (by decide) (by decide) (by decide)
      have y56 : y 56 2 = -1 ∧ y 56 3 = 0 ∧ y 56 4 = taS t od g (t 75 4) (k + 1) := by
        rw [y2 2 (by decide), y2 3 (by decide), ex 56 (by decide), y3, x4]
        exact ⟨k3.1, k3.2.1, rfl⟩
      have y4' : CR y (stS t od g (t 75 4) (k + 1)) od g := y4
      have s75' : stS t od g (t 75 4) (k + 1) 75 = t 75 := stS_75 _ _ _ _ _
      rw [x4, y3, x4]
      refine ⟨⟨⟨by omega, by omega⟩, ⟨by omega, by omega⟩⟩, fun z => ?_, fun z => ?_⟩
      · refine ⟨0, _, by decide, t_X10_roundsSinceSame (k := (k : Int)) (n := t 75 4) (by omega) n1 (fun b q b0 b1 q0 q1 => ?_) (fun q q0 q1 => ?_), ?_⟩
        · have := (x58 b.toNat (by omega) q q0 q1).bd
          rw [Int.toNat_of_nonneg b0] at this
          rw [y58]
          exact ⟨by omega, by omega⟩
        · have := (y4'.2.2.1 q q0 (by rw [s75']; exact q1)).bd
          exact ⟨by omega, by omega⟩
        · rintro c y' ⟨hy', hc⟩
          rw [hy']
          have tr : ∀ b : Nat, b ≤ k → ((∀ q : Int, 0 ≤ q → q < t 75 4 → y 58 (b * 20 + q) = y 57 q) ↔ smP (stS t od g (t 75 4) b) (stS t od g (t 75 4) (k + 1)) (t 75 4)) := fun b hb => by
            refine smP_pk (a := fun q => y 58 (b * 20 + q)) (b := fun q => y 57 q) (fun q q0 q1 => ?_) (fun q q0 q1 => y4'.2.2.1 q q0 (by rw [s75']; exact q1))
            show NmR (y 58 (b * 20 + q)) _ _
            rw [y58]
            exact x58 b (by omega) q q0 q1
          have nz : rnN (stS t od g (t 75 4) k) od g (t 75 4).toNat ≠ 0 := by omega
          rintro e he
          have e3 : e 56 3 = c := by rw [he, up_at]
          have ee : ∀ x : Nat, x ≠ 56 → e x = y x := fun x hx => by rw [he, up_row hx]
          have e2 : e 56 2 = -1 ∧ e 56 4 = taS t od g (t 75 4) (k + 1) := by
            rw [he, up_idx (by decide), up_idx (by decide)]
            exact ⟨y56.1, y56.2.2⟩
          rw [e3]
          rcases hc with ⟨c0, hc⟩ | ⟨b, b0, b1, hb, hb', hc⟩
          · refine ⟨by rw [c0]; decide, fun _ => ?_, fun z => absurd z (by omega)⟩
            have := ih e ⟨fun x hx => by rw [ee x (by omega), ey x hx], y4'.congr (fun x hx => ee x (by omega)), ⟨e2.1, by rw [e3, c0], e2.2⟩, fun b hb q q0 q1 => by rw [ee 58 (by decide), y58]; exact x58 b hb q q0 q1, fun r hr => ?_⟩
            · rw [show ((k + 1 : Nat) : Int) = (k : Int) + 1 by omega] at this
              exact this
            · by_cases q : r = k
              · rw [q]
                exact ⟨nz, fun b hb q' => hc b (by omega) (by omega) ((tr b hb).mpr q')⟩
              · exact k5 r (by omega)
          · obtain ⟨B, rfl⟩ := Int.eq_ofNat_of_zero_le b0
            refine ⟨⟨by omega, by omega⟩, fun z => absurd z (by omega), fun _ => ⟨fun x hx => by rw [ee x (by omega), ey x hx], Or.inr (Or.inl ⟨k, B, hk, k5, nz, by omega, (tr B (by omega)).mp hb, fun b' q1 q2 q3 => hb' b' (by omega) (by omega) ((tr b' q2).mpr q3), e2.1, hc, e2.2⟩)⟩⟩
      · rintro e he
        have e3 : e 56 2 = k := by rw [he, up_at]
        have e2 : e 56 3 = 0 ∧ e 56 4 = taS t od g (t 75 4) (k + 1) := by
          rw [he, up_idx (by decide), up_idx (by decide)]
          exact y56.2
        exact ⟨fun x hx => by rw [he, up_row (by omega), ey x hx], Or.inl ⟨k, hk, k5, by omega, e3, e2.1, e2.2⟩⟩
  exact key b3 ⟨fun c hc => by rw [eb c (by omega), ew c hc], crw.congr (fun c hc => eb c (by omega)), f56, fun b hb => absurd hb (by omega), fun r hr => absurd hr (by omega)⟩
