/-! YEARS, in the class: the land as the virtual store t has it -/
theorem LandR.lr [Inhabited YT] {u t : Sto} (h : LandR u 3 t) (e : ∀ c : Nat, 93 ≤ c → c ≤ 97 → t c = u c) : LR u t (alM (t 75 22) (t 81)) ∧ NamesR (u 5 0) (u 6) (t 76) (t 77) 0 := by
  obtain ⟨a1, a2, a3, a4, a5, a6, a7, a8, a9, a10, a11, a12, a13, a14, a15⟩ := h
  have e1 : u 3 0 = t 75 9 := a1.1
  rw [e1] at a3
  refine ⟨⟨⟨e1, a6, a15.1⟩, a3, a5, a8, a9, ?_, e, fun p p0 p1 => ?_⟩, a7⟩
  · have n := a15.2
    rw [e 93 (by decide) (by decide), e 94 (by decide) (by decide), e 95 (by decide) (by decide), e 96 (by decide) (by decide), e 97 (by decide) (by decide)] at n
    exact n
  · have e6 : u 5 0 = t 75 4 := a6.1
    have g := a7 p p0 (by show p < u 5 0; omega)
    rw [Int.zero_add] at g
    exact g.nb
/-- everyone a year older and richer or poorer -/
noncomputable def agS (t : Sto) (W : Int → Int) (n : Int) : Sto := fun c i => if c = 80 ∧ 0 ≤ i ∧ i < n then wr (t 80 i + W i) else if c = 79 ∧ 0 ≤ i ∧ i < n then t 79 i + 1 else t c i
/-- the draw -/
def drX (x : Int) : Int := wr (wr (1664525 * x) + 1013904223)
def drV (x g : Int) : Int := xrem (xushr (drX x) 8) g
/-- born anew -/
def bnS (t : Sto) (p : Int) : Sto := if 99 < t 79 p then (if 0 < t 75 8 then mvN (up (up t 79 p 0) 75 1 (drX (t 75 1))) (20 + drV (t 75 1) (t 75 8)) p else up t 79 p 0) else t
def bnA (t : Sto) : Nat → Sto
  | 0 => t
  | k + 1 => bnS (bnA t k) k
theorem bnA_s (t : Sto) {k : Int} (hk : 0 ≤ k) : bnA t (k + 1).toNat = bnS (bnA t k.toNat) k := by
  obtain ⟨n, rfl⟩ := Int.eq_ofNat_of_zero_le hk
  rfl
theorem drV_bd {x g : Int} (hg : 0 < g ∧ g ≤ 10) : 0 ≤ drV x g ∧ drV x g < g := by
  unfold drV
  have e := xushr_wr (a := drX x) (b := 8) (by decide) (by decide)
  rw [show ((8 : Nat) : Int) = 8 from rfl] at e
  rw [e]
  have b : ((drX x % 4294967296).toNat / 2 ^ 8 : Nat) < 16777216 := by
    have : (drX x % 4294967296).toNat < 4294967296 := by omega
    omega
  have r := xrem_nn (a := (((drX x % 4294967296).toNat / 2 ^ 8 : Nat) : Int)) (b := g) (by omega) (by omega)
  rw [r]
  exact ⟨Int.emod_nonneg _ (by omega), Int.emod_lt_of_pos _ hg.1⟩
set_option maxHeartbeats 4000000 in
/-- everyone's year -/
theorem y31 {X : Cx} {d : Nat} {P : Sto → Prop} (C : Ok LY X RX11 cX11_passYear 2 d) (r : RetV LY X cX11_passYear P) (hd : 1 ≤ d) {u : Sto} {W : Int → Int} {n : Int} (hn : u 5 0 = n) (n20 : 0 ≤ n ∧ n ≤ 20) (hC : ∀ (x : Int) (S : Sto), 0 ≤ x → x < n → (∀ c : Nat, c = 49 ∨ c = 50 ∨ c = 51 → S c = u c) → ClI LY 0 MX7_worthOf [.inr 46, .inl x] S (fun r s' => s' = S ∧ r = W x)) (cont : ∀ S : Sto, (∀ c : Nat, c ≠ 8 → c ≠ 9 → S c = u c) → (∀ p : Int, 0 ≤ p → p < n → S 8 p = u 8 p + 1 ∧ S 9 p = wr (u 9 p + W p)) → G LY X 92 [rv 0, iv 0] [] S) : G LY X 31 [rv 0, iv 0] [] u := by
  have rn : rg n := ⟨by omega, by omega⟩
  have key : ∀ S : Sto, (∀ c : Nat, c ≠ 8 → c ≠ 9 → S c = u c) → (∀ p : Int, 0 ≤ p → p < 0 → S 8 p = u 8 p + 1 ∧ S 9 p = wr (u 9 p + W p)) → (∀ p : Int, 0 ≤ p → S 8 p = u 8 p ∧ S 9 p = u 9 p) → G LY X 31 [rv 0, iv 0] [] S := by
    refine downI (P := fun k => ∀ S : Sto, (∀ c : Nat, c ≠ 8 → c ≠ 9 → S c = u c) → (∀ p : Int, 0 ≤ p → p < k → S 8 p = u 8 p + 1 ∧ S 9 p = wr (u 9 p + W p)) → (∀ p : Int, k ≤ p → S 8 p = u 8 p ∧ S 9 p = u 9 p) → G LY X 31 [rv 0, iv k] [] S) (a := 0) (b := n) n20.1 ?_ ?_
    · intro S k1 k2 k3
      refine kb_X11_passYear_31 C r ?_
      rw [k1 5 (by decide) (by decide), hn]
      exact ⟨⟨rn, rn⟩, fun _ => cont S k1 k2, fun z => absurd z (by omega)⟩
    · intro k k0 kn ih S k1 k2 k3
      refine kb_X11_passYear_31 C r ?_
      rw [k1 5 (by decide) (by decide), hn]
      refine ⟨⟨⟨by omega, by omega⟩, rn⟩, fun z => absurd z (by omega), fun _ => ⟨⟨by omega, by omega⟩, 0, _, by omega, hC k S k0 kn (fun c hc => k1 c (by omega) (by omega)), ?_⟩⟩
      rintro w y ⟨hy, hw⟩
      rw [hy, hw, (k3 k (Int.le_refl _)).2]
      refine ⟨⟨by omega, by omega⟩, ?_⟩
      rintro s2 h2
      refine ⟨⟨by omega, by omega⟩, ⟨by omega, by omega⟩, ?_⟩
      have e8 : s2 8 k = u 8 k := by rw [h2, up_row (by decide), (k3 k (Int.le_refl _)).1]
      rw [e8]
      rintro s3 h3
      -- the coins, brought back into their bounds
      refine G_sto (s' := up (up S 9 k (wr (u 9 k + W k))) 8 k (u 8 k + 1)) (fun c i => ?_) ?_
      · rw [h3, h2]
        by_cases q8 : c = 8
        · subst q8
          rw [up_if, up_if, up_row (by decide), up_row (by decide)]
        · rw [up_row q8, up_row q8]
          by_cases q9 : c = 9
          · subst q9
            rw [up_if, up_if]
            by_cases e : i = k
            · rw [if_pos e, if_pos e, wr_of]
            · rw [if_neg e, if_neg e]
          · rw [up_row q9, up_row q9]
      · refine ih _ (fun c c1 c2 => by rw [up_row c1, up_row c2, k1 c c1 c2]) (fun p p0 p1 => ?_) (fun p hp => ?_)
        · rw [up_if, up_row (by decide), up_row (c := 8) (c' := 9) (by decide), up_if]
          by_cases e : p = k
          · rw [if_pos e, if_pos e, e]; exact ⟨rfl, rfl⟩
          · rw [if_neg e, if_neg e]; exact k2 p p0 (by omega)
        · rw [up_if, up_row (by decide), up_row (c := 8) (c' := 9) (by decide), up_if, if_neg (by omega), if_neg (by omega)]
          exact k3 p (by omega)
  exact key u (fun _ _ _ => rfl) (fun p p0 p1 => absurd p1 (by omega)) (fun _ _ => ⟨rfl, rfl⟩)
theorem t_X2_draw {g : Int} {s : Sto} (hg : 0 < g ∧ g ≤ 10) : ClI LY 0 MX2_draw [.inr 3, .inl g] s (fun r s' => s' = up s 3 1 (drX (s 3 1)) ∧ r = drV (s 3 1) g) := by
  refine ClI.intro (by decide) rfl (Nat.le_of_ble_eq_true rfl) (fun X C r => ?_)
  refine kb_X2_draw_0 C r ?_
  rintro s1 hs1
  have e : s1 3 1 = drX (s 3 1) := by rw [hs1, up_at]; rfl
  rw [e]
  refine ⟨⟨by omega, by omega⟩, fun z => absurd z (by omega), fun _ => ⟨⟨⟨by omega, by omega⟩, by omega⟩, hs1, rfl⟩⟩
theorem t_X12_draw {g : Int} {s : Sto} (hg : 0 < g ∧ g ≤ 10) : ClI LY 0 MX12_draw [.inr 75, .inl g] s (fun r s' => s' = up s 75 1 (drX (s 75 1)) ∧ r = drV (s 75 1) g) := by
  refine ClI.intro (by decide) rfl (Nat.le_of_ble_eq_true rfl) (fun X C r => ?_)
  refine kb_X12_draw_0 C r ?_
  rintro s1 hs1
  have e : s1 75 1 = drX (s 75 1) := by rw [hs1, up_at]; rfl
  rw [e]
  exact ⟨⟨⟨by omega, by omega⟩, by omega⟩, hs1, rfl⟩
