/-! HARM -/
theorem cntI_s (f : Int → Prop) {k : Int} (hk : 0 ≤ k) : cntI f (k + 1).toNat = cntI f k.toNat + oneIf (f k) := by
  obtain ⟨n, rfl⟩ := Int.eq_ofNat_of_zero_le hk
  rfl
/-- worse off, or as badly with a smaller number -/
def lowR (w : Int → Int) (p q : Int) : Prop := w q < w p ∨ (w q = w p ∧ q < p)
noncomputable def hrS (w0 w1 : Int → Int) (n : Int) : Nat → Int
  | 0 => 0
  | k + 1 => hrS w0 w1 n k + max 0 (w0 k - w1 k) * (n - cntI (lowR w0 k) n.toNat)
theorem hrS_s (w0 w1 : Int → Int) (n : Int) {k : Int} (hk : 0 ≤ k) : hrS w0 w1 n (k + 1).toNat = hrS w0 w1 n k.toNat + max 0 (w0 k - w1 k) * (n - cntI (lowR w0 k) n.toNat) := by
  obtain ⟨m, rfl⟩ := Int.eq_ofNat_of_zero_le hk
  rfl
theorem hrS_bd {w0 w1 : Int → Int} {n : Int} (hn : 0 ≤ n ∧ n ≤ 20) (h0 : ∀ p : Int, 0 ≤ p → p < n → -594 ≤ w0 p ∧ w0 p ≤ 594) (h1 : ∀ p : Int, 0 ≤ p → p < n → -594 ≤ w1 p ∧ w1 p ≤ 594) : ∀ k : Nat, (k : Int) ≤ n → 0 ≤ hrS w0 w1 n k ∧ hrS w0 w1 n k ≤ 23760 * k
  | 0, _ => by
    show (0 : Int) ≤ 0 ∧ (0 : Int) ≤ 23760 * ((0 : Nat) : Int)
    decide
  | k + 1, hk => by
    have ih := hrS_bd hn h0 h1 k (by omega)
    have b0 := h0 k (by omega) (by omega)
    have b1 := h1 k (by omega) (by omega)
    have c := cntI_bd (lowR w0 k) n.toNat
    show 0 ≤ hrS w0 w1 n k + max 0 (w0 k - w1 k) * (n - cntI (lowR w0 k) n.toNat) ∧ hrS w0 w1 n k + max 0 (w0 k - w1 k) * (n - cntI (lowR w0 k) n.toNat) ≤ 23760 * ((k + 1 : Nat) : Int)
    generalize cntI (lowR w0 k) n.toNat = C at *
    have m0 : 0 ≤ max 0 (w0 k - w1 k) ∧ max 0 (w0 k - w1 k) ≤ 1188 := by omega
    generalize max 0 (w0 k - w1 k) = M at *
    have p1 : 0 ≤ M * (n - C) := Int.mul_nonneg m0.1 (by omega)
    have p2 : M * (n - C) ≤ 1188 * 20 := Int.le_trans (Int.mul_le_mul_of_nonneg_right m0.2 (by omega)) (Int.mul_le_mul_of_nonneg_left (show n - C ≤ 20 by omega) (by decide))
    omega
theorem hrS_congr {w0 w1 v0 v1 : Int → Int} {n : Int} (e0 : ∀ p : Int, 0 ≤ p → p < n → v0 p = w0 p) (e1 : ∀ p : Int, 0 ≤ p → p < n → v1 p = w1 p) : ∀ k : Nat, (k : Int) ≤ n → hrS v0 v1 n k = hrS w0 w1 n k
  | 0, _ => rfl
  | k + 1, hk => by
    show hrS v0 v1 n k + max 0 (v0 k - v1 k) * (n - cntI (lowR v0 k) n.toNat) = hrS w0 w1 n k + max 0 (w0 k - w1 k) * (n - cntI (lowR w0 k) n.toNat)
    rw [hrS_congr e0 e1 k (by omega), e0 k (by omega) (by omega), e1 k (by omega) (by omega), cntI_congr (f := lowR v0 k) (g := lowR w0 k) _ (fun q q0 q1 => by unfold lowR; rw [e0 q q0 (by omega), e0 k (by omega) (by omega)])]
set_option maxHeartbeats 4000000 in
/-- in the class: what each had, and each one's share -/
theorem t_weigh {u t : Sto} {od : Int → Int} (lr : LR u t od) (hN : NamesR (u 5 0) (u 6) (t 76) (t 77) 0) : ClV LY 3 MX3_weighPeople [.inr 69, .inr 3, .inr 46] u (fun s' => (∀ c : Nat, ¬ (47 ≤ c ∧ c ≤ 51) → c ≠ 70 → c ≠ 71 → s' c = u c) ∧ (∀ p : Int, 0 ≤ p → p < t 75 4 → s' 70 p = wvF t od p ∧ s' 71 p = t 75 4 - cntI (lowR (wvF t od) p) (t 75 4).toNat) ∧ ∀ x : Int, 0 ≤ x → x < t 75 4 → s' 51 x = psm (t 83) (t 84) (t 85) (t 86) (t 75 4) x 6) := by
  have n1 := lr.nms.1
  have e5 : u 5 0 = t 75 4 := lr.1.2.1.1
  refine ClV.intro (by decide) rfl (Nat.le_of_ble_eq_true rfl) (fun X C r => ?_)
  refine kb_X3_weighPeople_0 C r ⟨2, _, by decide, t_payL lr, ?_⟩
  rintro v ⟨v1, v2⟩
  have lrv : LR v t od := lr.congr (fun c c1 c2 => v1 c (by omega))
  refine ⟨2, _, by decide, t_lineL (o := v 3 2) (oq := od) lrv (by rw [v1 5 (by decide), v1 6 (by decide)]; exact hN) lrv.2.1, ?_⟩
  rintro w ⟨w1, pl, w2, w3, w4, w5, w6⟩
  have w7 : ∀ x : Int, 0 ≤ x → x < t 75 4 → w 51 x = psm (t 83) (t 84) (t 85) (t 86) (t 75 4) x 6 := fun x x0 x1 => by rw [w1 51 (by decide) (by decide) (by decide) (by decide), v2 x x0 x1]
  have ew : ∀ c : Nat, ¬ (47 ≤ c ∧ c ≤ 51) → w c = u c := fun c hc => by rw [w1 c (by omega) (by omega) (by omega) (by omega), v1 c (by omega)]
  have bd : ∀ p : Int, 0 ≤ p → p < t 75 4 → -594 ≤ wvF t od p ∧ wvF t od p ≤ 594 := fun p p0 p1 => lr.wvb ⟨p0, p1⟩
  rw [e5]
  generalize hW : wvF t od = W at *
  generalize hn' : t 75 4 = n at *
  -- second loop
  have l2 : ∀ S : Sto, ((∀ c : Nat, ¬ (47 ≤ c ∧ c ≤ 51) → c ≠ 70 → c ≠ 71 → S c = u c) ∧ (∀ p : Int, 0 ≤ p → p < n → S 70 p = W p) ∧ (∀ p : Int, 0 ≤ p → p < 0 → S 71 p = n - cntI (lowR W p) n.toNat) ∧ ∀ x : Int, 0 ≤ x → x < n → S 51 x = psm (t 83) (t 84) (t 85) (t 86) n x 6) → G LY X 53 [rv 69, rv 3, rv 46, iv n, iv 0, none] [] S := by
    refine downI (P := fun k => ∀ S : Sto, ((∀ c : Nat, ¬ (47 ≤ c ∧ c ≤ 51) → c ≠ 70 → c ≠ 71 → S c = u c) ∧ (∀ p : Int, 0 ≤ p → p < n → S 70 p = W p) ∧ (∀ p : Int, 0 ≤ p → p < k → S 71 p = n - cntI (lowR W p) n.toNat) ∧ ∀ x : Int, 0 ≤ x → x < n → S 51 x = psm (t 83) (t 84) (t 85) (t 86) n x 6) → G LY X 53 [rv 69, rv 3, rv 46, iv n, iv k, none] [] S) (a := 0) (b := n) n1.1 ?_ ?_
    · rintro S ⟨k1, k2, k3, k4⟩
      exact kb_X3_weighPeople_53 C r ⟨⟨⟨by omega, by omega⟩, ⟨by omega, by omega⟩⟩, fun _ => ⟨k1, fun p p0 p1 => ⟨k2 p p0 p1, k3 p p0 p1⟩, k4⟩, fun z => absurd z (by omega)⟩
    · rintro k k0 kn ih S ⟨k1, k2, k3, k4⟩
      refine kb_X3_weighPeople_53 C r ⟨⟨⟨by omega, by omega⟩, ⟨by omega, by omega⟩⟩, fun z => absurd z (by omega), fun _ => ⟨⟨by omega, by omega⟩, ?_⟩⟩
      rintro S1 hS1
      -- inner loop
      have inner : ∀ S' : Sto, ((∀ c : Nat, c ≠ 71 → S' c = S c) ∧ (∀ p : Int, p ≠ k → S' 71 p = S 71 p) ∧ S' 71 k = n - cntI (lowR W k) (0 : Int).toNat) → G LY X 70 [rv 69, rv 3, rv 46, iv n, iv k, iv 0] [] S' := by
        refine downI (P := fun q => ∀ S' : Sto, ((∀ c : Nat, c ≠ 71 → S' c = S c) ∧ (∀ p : Int, p ≠ k → S' 71 p = S 71 p) ∧ S' 71 k = n - cntI (lowR W k) q.toNat) → G LY X 70 [rv 69, rv 3, rv 46, iv n, iv k, iv q] [] S') (a := 0) (b := n) n1.1 ?_ ?_
        · rintro S' ⟨j1, j2, j3⟩
          refine kb_X3_weighPeople_70 C r ⟨⟨⟨by omega, by omega⟩, ⟨by omega, by omega⟩⟩, fun _ => ih S' ⟨fun c c1 c2 c3 => by rw [j1 c c3, k1 c c1 c2 c3], fun p p0 p1 => by rw [j1 70 (by decide), k2 p p0 p1], fun p p0 p1 => ?_, fun x x0 x1 => by rw [j1 51 (by decide), k4 x x0 x1]⟩, fun z => absurd z (by omega)⟩
          by_cases e : p = k
          · rw [e, j3]
          · rw [j2 p e, k3 p p0 (by omega)]
        · rintro q q0 q1 ih2 S' ⟨j1, j2, j3⟩
          rw [cntI_s _ q0] at ih2
          have e1 : S' 70 q = W q := by rw [j1 70 (by decide), k2 q q0 q1]
          have e2 : S' 70 k = W k := by rw [j1 70 (by decide), k2 k k0 kn]
          have b1 := bd q q0 q1
          have b2 := bd k k0 kn
          have yes : lowR W k q → G LY X 70 [rv 69, rv 3, rv 46, iv n, iv k, iv (q + 1)] [] (up S' 71 k (S' 71 k - 1)) := fun h => by
            rw [oneIf_t h] at ih2
            exact ih2 _ ⟨fun c hc => by rw [up_row hc, j1 c hc], fun p hp => by rw [up_idx hp, j2 p hp], by rw [up_at, j3]; omega⟩
          have no : ¬ lowR W k q → G LY X 70 [rv 69, rv 3, rv 46, iv n, iv k, iv (q + 1)] [] S' := fun h => by
            rw [oneIf_f h, Int.add_zero] at ih2
            exact ih2 _ ⟨j1, j2, j3⟩
          refine kb_X3_weighPeople_70 C r ?_
          rw [e1, e2]
          refine ⟨⟨⟨by omega, by omega⟩, ⟨by omega, by omega⟩⟩, fun z => absurd z (by omega), fun _ => ⟨⟨by omega, by omega⟩, ⟨by omega, by omega⟩, ⟨⟨by omega, by omega⟩, ⟨by omega, by omega⟩⟩, fun z => ⟨⟨by omega, by omega⟩, ⟨by omega, by omega⟩, ?_⟩, fun z => ⟨⟨by omega, by omega⟩, ⟨by omega, by omega⟩, ⟨⟨by omega, by omega⟩, ⟨by omega, by omega⟩⟩, fun z2 => no ?_, fun z2 => ⟨⟨⟨by omega, by omega⟩, ⟨by omega, by omega⟩⟩, fun z3 => no ?_, fun z3 => ⟨⟨by omega, by omega⟩, ⟨by omega, by omega⟩, ?_⟩⟩⟩⟩⟩
          · rintro y rfl
            exact yes (Or.inl z)
          · unfold lowR; omega
          · unfold lowR; omega
          · rintro y rfl
            exact yes (Or.inr ⟨z2, z3⟩)
      exact inner S1 ⟨fun c hc => by rw [hS1, up_row hc], fun p hp => by rw [hS1, up_idx hp], by rw [hS1, up_at]; show n = n - 0; omega⟩
  -- first loop
  have l1 : ∀ S : Sto, ((∀ c : Nat, c ≠ 70 → S c = w c) ∧ (∀ p : Int, 0 ≤ p → p < 0 → S 70 p = W p)) → G LY X 25 [rv 69, rv 3, rv 46, iv n, iv 0, none] [] S := by
    refine downI (P := fun k => ∀ S : Sto, ((∀ c : Nat, c ≠ 70 → S c = w c) ∧ (∀ p : Int, 0 ≤ p → p < k → S 70 p = W p)) → G LY X 25 [rv 69, rv 3, rv 46, iv n, iv k, none] [] S) (a := 0) (b := n) n1.1 ?_ ?_
    · rintro S ⟨k1, k2⟩
      exact kb_X3_weighPeople_25 C r ⟨⟨⟨by omega, by omega⟩, ⟨by omega, by omega⟩⟩, fun _ => l2 S ⟨fun c c1 c2 c3 => by rw [k1 c c2, ew c c1], k2, fun p p0 p1 => absurd p1 (by omega), fun x x0 x1 => by rw [k1 51 (by decide), w7 x x0 x1]⟩, fun z => absurd z (by omega)⟩
    · rintro k k0 kn ih S ⟨k1, k2⟩
      refine kb_X3_weighPeople_25 C r ⟨⟨⟨by omega, by omega⟩, ⟨by omega, by omega⟩⟩, fun z => absurd z (by omega), fun _ => ⟨0, _, by decide, t_wof (u := S) (t := t) (od := od) (o := v 3 2) lrv.nms lrv.2.1 w2 (by rw [k1 49 (by decide), hn']; exact w5) (by rw [k1 49 (by decide), k1 50 (by decide), hn']; exact w6) (by rw [k1 51 (by decide), hn']; exact w7) (by rw [hn']; exact ⟨k0, kn⟩), ?_⟩⟩
      rintro a y ⟨hy, ha⟩
      rw [hy]
      refine ⟨⟨by omega, by omega⟩, ?_⟩
      rintro y' hy'
      refine ih y' ⟨fun c hc => by rw [hy', up_row hc, k1 c hc], fun p p0 p1 => ?_⟩
      rw [hy', up_if]
      by_cases e : p = k
      · rw [if_pos e, ha, hW, e]
      · rw [if_neg e]; exact k2 p p0 (by omega)
  exact l1 w ⟨fun _ _ => rfl, fun p p0 p1 => absurd p1 (by omega)⟩
set_option maxHeartbeats 4000000 in
theorem t_harm {u t : Sto} {od oq : Int → Int} {o : Int} (lr : LR u t od) (hN : NamesR (u 5 0) (u 6) (t 76) (t 77) 0) (hO : OdR (t 75 9) o oq) (h7 : ∀ p : Int, 0 ≤ p → p < t 75 4 → u 70 p = wvF t od p ∧ u 71 p = t 75 4 - cntI (lowR (wvF t od) p) (t 75 4).toNat) (w7 : ∀ x : Int, 0 ≤ x → x < t 75 4 → u 51 x = psm (t 83) (t 84) (t 85) (t 86) (t 75 4) x 6) : ClI LY 3 MX3_harmOf [.inr 69, .inr 3, .inr 46, .inl o] u (fun r s' => (∀ c : Nat, ¬ (47 ≤ c ∧ c ≤ 50) → s' c = u c) ∧ r = hrS (wvF t od) (wvF t oq) (t 75 4) (t 75 4).toNat) := by
  have n1 := lr.nms.1
  have e5 : u 5 0 = t 75 4 := lr.1.2.1.1
  refine ClI.intro (by decide) rfl (Nat.le_of_ble_eq_true rfl) (fun X C r => ?_)
  refine kb_X3_harmOf_0 C r ⟨2, _, by decide, t_lineL (o := o) (oq := oq) lr hN hO, ?_⟩
  rintro w ⟨w1, pl, w2, w3, w4, w5, w6⟩
  have b0 : ∀ p : Int, 0 ≤ p → p < t 75 4 → -594 ≤ wvF t od p ∧ wvF t od p ≤ 594 := fun p p0 p1 => lr.wvb ⟨p0, p1⟩
  have b1 : ∀ p : Int, 0 ≤ p → p < t 75 4 → -594 ≤ wvF t oq p ∧ wvF t oq p ≤ 594 := fun p p0 p1 => WV_F_bd lr.nms lr.sts hO ⟨p0, p1⟩
  have w5' : w 5 0 = t 75 4 := by rw [w1 5 (by decide) (by decide) (by decide) (by decide), e5]
  have key : G LY X 12 [rv 69, rv 3, rv 46, iv o, iv (hrS (wvF t od) (wvF t oq) (t 75 4) (0 : Int).toNat), iv 0] [] w := by
    refine downI (P := fun k => G LY X 12 [rv 69, rv 3, rv 46, iv o, iv (hrS (wvF t od) (wvF t oq) (t 75 4) k.toNat), iv k] [] w) (a := 0) (b := t 75 4) n1.1 ?_ ?_
    · refine kb_X3_harmOf_12 C r (by omega) ?_
      rw [w5']
      exact ⟨⟨⟨by omega, by omega⟩, ⟨by omega, by omega⟩⟩, fun _ => ⟨fun c hc => w1 c (by omega) (by omega) (by omega) (by omega), rfl⟩, fun z => absurd z (by omega)⟩
    · intro k k0 kn ih
      rw [hrS_s _ _ _ k0] at ih
      refine kb_X3_harmOf_12 C r (by omega) ?_
      have c0 := b0 k k0 kn
      have c1 := b1 k k0 kn
      rw [w5', w1 70 (by decide) (by decide) (by decide) (by decide), (h7 k k0 kn).1]
      refine ⟨⟨⟨by omega, by omega⟩, ⟨by omega, by omega⟩⟩, fun z => absurd z (by omega), fun _ => ⟨⟨by omega, by omega⟩, 0, _, by decide, t_wof lr.nms hO w2 w5 w6 (by rw [w1 51 (by decide) (by decide) (by decide) (by decide)]; exact w7) ⟨k0, kn⟩, ?_⟩⟩
      rintro a y ⟨hy, ha⟩
      rw [hy, ha, w1 71 (by decide) (by decide) (by decide) (by decide), (h7 k k0 kn).2]
      exact ⟨⟨by omega, by omega⟩, ⟨by omega, by omega⟩, ih⟩
  exact key
