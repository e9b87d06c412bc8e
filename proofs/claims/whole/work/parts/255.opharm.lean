/-! OPERATION: harm -/
theorem wvF_od {t : Sto} {od od' : Int → Int} (e : ∀ i : Int, 0 ≤ i → i < t 75 9 → od' i = od i) (p : Int) : wvF t od' p = wvF t od p := by
  have : (fun v => WV t od' p v) = (fun v => WV t od p v) := by
    funext v
    have e2 : ∀ pl : Int → Int, PlR (t 75 9) od' pl = PlR (t 75 9) od pl := fun pl => propext ⟨fun h i i0 i1 => by rw [← e i i0 i1]; exact h i i0 i1, fun h i i0 i1 => by rw [e i i0 i1]; exact h i i0 i1⟩
    unfold WV
    simp only [e2]
  unfold wvF
  rw [this]
theorem LR.od {u t : Sto} {od od' : Int → Int} (h : LR u t od) (e : ∀ i : Int, 0 ≤ i → i < t 75 9 → od' i = od i) : LR u t od' := by
  obtain ⟨h1, h4, h5⟩ := h
  exact ⟨h1, h4.congr e, h5⟩
/-- an ORDER on the TAPE, in the class and in the reference's row 19 -/
theorem askd [Inhabited YT] {s s1 : Sto} (h : Inv s) (e : ∀ c : Nat, c ≠ 1 → ¬ (47 ≤ c ∧ c ≤ 74) → s1 c = s c) (e1 : s1 1 = up s 1 1 0 1) (q : isOd (s 75 9) (s 75 24) (s 91)) : Inv (ordU (up s1 75 0 0)) ∧ LM s (ordU (up s1 75 0 0)) (fun k => begS (ordU (up s1 75 0 0)) 81 (8 * 0 + k)) ∧ samN s (ordU (up s1 75 0 0)) ∧ (∀ k : Int, 0 ≤ k → k < s 75 9 → begS (ordU (up s1 75 0 0)) 81 (8 * 0 + k) = begS s 81 (8 * 0 + k)) ∧ (∀ k : Int, 0 ≤ k → k < s 75 9 → begS (ordU (up s1 75 0 0)) 81 (8 * 19 + k) = s 91 k - 97) ∧ ordU (up s1 75 0 0) 75 22 = 1 := by
  have hb := h.2.2.2.2.1
  have lr := h.lr
  have ez : ∀ c : Nat, c ≠ 1 → c ≠ 75 → ¬ (47 ≤ c ∧ c ≤ 74) → up s1 75 0 0 c = s c := fun c c1 c2 c3 => by rw [up_row c2, e c c1 c3]
  have z75 : ∀ j : Int, j ≠ 0 → up s1 75 0 0 75 j = s 75 j := fun j hj => by rw [up_idx hj, e 75 (by decide) (by decide)]
  have z1 : up s1 75 0 0 1 = up s 1 1 0 1 := by rw [up_row (by decide), e1]
  generalize up s1 75 0 0 = z at *
  have zb : z 75 22 = 0 ∨ z 75 22 = 1 := by rw [z75 22 (by decide)]; exact hb
  have o22 := ordU_22 zb
  have K := lr.2.1.1
  have e81 : begS z 81 = begS s 81 := begS_81 (z75 22 (by decide)) (ez 81 (by decide) (by decide) (by decide))
  have sm : samN s (ordU z) := ⟨fun c c1 c2 c3 c4 c5 => by rw [ordU_row (by omega) c3, ez c (by omega) (by omega) (by omega)], by rw [ordU_75 (by decide) (by decide), z75 _ (by decide)], by rw [ordU_75 (by decide) (by decide), z75 _ (by decide)], by rw [ordU_75 (by decide) (by decide), z75 _ (by decide)]⟩
  have b81 : begS (ordU z) = ordU z := begS_1 o22
  have k0 : ∀ k : Int, 0 ≤ k → k < s 75 9 → begS (ordU z) 81 (8 * 0 + k) = begS s 81 (8 * 0 + k) := fun k k0 k1 => by rw [b81, ordU_81 (by omega), e81]
  refine ⟨?_, ⟨?_, ⟨Or.inr o22, fun _ => rfl⟩, fun c c1 c2 => by rw [ordU_row (by omega) (by omega), ez c (by omega) (by omega) (by omega)]⟩, sm, k0, fun k k0 k1 => ?_, o22⟩
  · refine h.empB'.agr (fun c j hc => ?_)
    rw [agr_ou c j hc]
    unfold empB emptd
    by_cases g24 : c = 75 ∧ j = 24
    · rw [g24.1, g24.2, up_at, up_at]
    · rw [up_ne g24, up_ne g24]
      by_cases g1 : c = 1
      · subst g1
        rw [begS_row (by decide) (by decide), z1]
        by_cases g : j = 1
        · rw [g, up_at, up_at]
        · rw [up_idx g, up_idx g, begS_row (by decide) (by decide)]
      · rw [up_row g1]
        by_cases g75 : c = 75
        · subst g75
          by_cases g : j = 22
          · subst g
            rw [begS_22 zb, begS_22 hb]
          · rw [begS_75 g, begS_75 g, z75 j (by unfold pers perM at hc; omega)]
        · by_cases g81 : c = 81
          · subst g81; rw [e81]
          · rw [begS_row g75 g81, begS_row g75 g81, ez c g1 g75 (by unfold pers perM at hc; omega)]
  · refine (lr.sam sm).od (fun i i0 i1 => ?_)
    rw [sm.2.2.1] at i1
    exact k0 i i0 i1
  · rw [b81]
    unfold ordU
    have : s 75 24 = s 75 9 := q.1
    rw [fillR_in (by rw [z75 24 (by decide)]; omega), show 8 * 19 + k - 152 = k by omega, ez 91 (by decide) (by decide) (by decide)]
/-- no ORDER on the TAPE -/
theorem askd0 [Inhabited YT] {s s1 : Sto} (h : Inv s) (e : ∀ c : Nat, c ≠ 1 → ¬ (47 ≤ c ∧ c ≤ 74) → s1 c = s c) (e1 : s1 1 = up s 1 1 0 1) : Inv (up (begS (up s1 75 0 0)) 75 24 0) := by
  have hb := h.2.2.2.2.1
  have ez : ∀ c : Nat, c ≠ 1 → c ≠ 75 → ¬ (47 ≤ c ∧ c ≤ 74) → up s1 75 0 0 c = s c := fun c c1 c2 c3 => by rw [up_row c2, e c c1 c3]
  have z75 : ∀ j : Int, j ≠ 0 → up s1 75 0 0 75 j = s 75 j := fun j hj => by rw [up_idx hj, e 75 (by decide) (by decide)]
  have z1 : up s1 75 0 0 1 = up s 1 1 0 1 := by rw [up_row (by decide), e1]
  generalize up s1 75 0 0 = z at *
  have zb : z 75 22 = 0 ∨ z 75 22 = 1 := by rw [z75 22 (by decide)]; exact hb
  have e81 : begS z 81 = begS s 81 := begS_81 (z75 22 (by decide)) (ez 81 (by decide) (by decide) (by decide))
  refine h.empB'.agr (fun c j hc => ?_)
  unfold empB emptd
  by_cases g24 : c = 75 ∧ j = 24
  · rw [g24.1, g24.2, up_at, up_at]
  · rw [up_ne g24, up_ne g24]
    by_cases g1 : c = 1
    · subst g1
      rw [begS_row (by decide) (by decide), z1]
      by_cases g : j = 1
      · rw [g, up_at, up_at]
      · rw [up_idx g, up_idx g, begS_row (by decide) (by decide)]
    · rw [up_row g1]
      by_cases g75 : c = 75
      · subst g75
        by_cases g : j = 22
        · subst g
          rw [begS_22 zb, begS_22 hb]
        · rw [begS_75 g, begS_75 g, z75 j (by unfold pers perM at hc; omega)]
      · by_cases g81 : c = 81
        · subst g81; rw [e81]
        · rw [begS_row g75 g81, begS_row g75 g81, ez c g1 g75 (by unfold pers perM at hc; omega)]
theorem Inv.namesR [Inhabited YT] {s : Sto} (h : Inv s) : NamesR (s 5 0) (s 6) (s 76) (s 77) 0 := by
  obtain ⟨a1, a2, a3, a4, a5, a6, a7, a8, a9, a10, a11, a12, a13, a14, a15⟩ := h.2.1
  exact a7
set_option maxHeartbeats 4000000 in
theorem op_harm [Inhabited YT] {s : Sto} (h : Inv s) : OpI MX11_harm MX12_harm [] s := by
  obtain ⟨a1, a2, a3, a4, a5, a6, a7, a8, a9, a10, a11, a12, a13, a14, a15⟩ := h.2.1
  have hT := h.1
  have hK : 2 ≤ s 3 0 ∧ s 3 0 ≤ 8 := a1.2
  have h9 : s 3 0 = s 75 9 := a1.1
  have lr := h.lr
  have n1 := h.nms.1
  have key : isOd (s 3 0) (s 1 1) (s 2) ↔ isOd (s 75 9) (s 75 24) (s 91) := by rw [← h9, ← hT.1]; exact isOd_eq hT.2
  refine ⟨4, 6, (fun r1 s1 => (∀ c : Nat, c ≠ 1 → ¬ (47 ≤ c ∧ c ≤ 74) → s1 c = s c) ∧ s1 1 = up s 1 1 0 1 ∧ ((¬ isOd (s 75 9) (s 75 24) (s 91) ∧ r1 = -1) ∨ (isOd (s 75 9) (s 75 24) (s 91) ∧ (∃ o : Int, OdR (s 75 9) o (fun i => s 2 i - 97)) ∧ r1 = hrS (wvF s (fun k => begS s 81 (8 * 0 + k))) (wvF s (fun i => s 2 i - 97)) (s 75 4) (s 75 4).toNat))), by decide, by decide, ?_, ?_⟩
  · refine ClI.intro (by decide) rfl (Nat.le_of_ble_eq_true rfl) (fun X C r => ?_)
    refine kb_X11_harm_0 C r ⟨0, _, by decide, t_X9_orderOnce hT.2 hK, ?_⟩
    rintro o u ⟨hu, ho, hn⟩
    have eu : ∀ c : Nat, c ≠ 1 → u c = s c := fun c hc => by rw [hu, up_row hc]
    refine ⟨ho, fun z => ?_, fun z => ⟨fun c c1 _ => eu c c1, by rw [hu], Or.inl ⟨fun q => ?_, rfl⟩⟩⟩
    · have hn' : isOd (s 3 0) (s 1 1) (s 2) ∧ OdR (s 3 0) o (fun i => s 2 i - 97) := by
        rcases hn with hn | hn
        · exact hn
        · exact absurd hn.2 z
      have hO : OdR (s 75 9) o (fun i => s 2 i - 97) := by rw [← h9]; exact hn'.2
      have lru : LR u s _ := lr.congr (u' := u) (fun c c1 c2 => eu c (by omega))
      have nu : NamesR (u 5 0) (u 6) (s 76) (s 77) 0 := by rw [eu 5 (by decide), eu 6 (by decide)]; exact h.namesR
      refine ⟨3, _, by decide, t_weigh lru nu, ?_⟩
      rintro v ⟨v1, v2, v3⟩
      have lrv : LR v s _ := lru.congr (u' := v) (fun c c1 c2 => v1 c (by omega) (by omega) (by omega))
      refine ⟨3, _, by decide, t_harm lrv (by rw [v1 5 (by decide) (by decide) (by decide), v1 6 (by decide) (by decide) (by decide)]; exact nu) hO v2 v3, ?_⟩
      rintro x y ⟨y1, y2⟩
      exact ⟨fun c c1 c2 => by rw [y1 c (by omega), v1 c (by omega) (by omega) (by omega), eu c c1], by rw [y1 1 (by decide), v1 1 (by decide) (by decide) (by decide), hu], Or.inr ⟨key.mp hn'.1, ⟨o, hO⟩, y2⟩⟩
    · rcases hn with hn | hn
      · have := hn.2.bd; omega
      · exact hn.1 (key.mpr q)
  · rintro r1 s1 ⟨g1, g2, g3⟩
    refine ⟨?_, ?_⟩
    · rcases g3 with g | ⟨_, ⟨o, g⟩, g4⟩
      · rw [g.2]; decide
      · have := hrS_bd (w0 := wvF s (fun k => begS s 81 (8 * 0 + k))) (w1 := wvF s (fun i => s 2 i - 97)) n1 (fun p p0 p1 => lr.wvb ⟨p0, p1⟩) (fun p p0 p1 => WV_F_bd lr.nms lr.sts g ⟨p0, p1⟩) (s 75 4).toNat (by omega)
        rw [g4]
        exact ⟨by omega, by omega⟩
    · refine ClI.intro (by decide) rfl (Nat.le_of_ble_eq_true rfl) (fun X C r => ?_)
      refine kb_X12_harm_0 C r ?_
      rintro z hz
      have z75 : ∀ j : Int, j ≠ 0 → z 75 j = s 75 j := fun j hj => by rw [hz, up_idx hj, g1 75 (by decide) (by decide)]
      have z91 : z 91 = s 91 := by rw [hz, up_row (by decide), g1 91 (by decide) (by decide)]
      refine ⟨1, _, by decide, t_X12_takesOrder (b := s 2) (by rw [z75 24 (by decide), z91, ← hT.1]; exact hT.2) (by rw [z75 9 (by decide)]; omega) (by rw [z75 22 (by decide)]; exact h.2.2.2.2.1), ?_⟩
      rw [z75 9 (by decide)]
      rintro q x (⟨rfl, hq, hx⟩ | ⟨rfl, hq, hx⟩)
      · have hx' : x = ordU (up s1 75 0 0) := by rw [hx, hz]; rfl
        rw [z75 24 (by decide), z91] at hq
        obtain ⟨k1, k2, k3, k4, k5, k6⟩ := askd h g1 g2 hq
        rw [← hx'] at k1 k2 k3 k4 k5 k6
        rcases g3 with g | ⟨_, ⟨o, g⟩, g4⟩
        · exact absurd hq g.1
        have tp : ∀ i : Int, 0 ≤ i → i < s 75 9 → begS x 81 (8 * 19 + i) = s 2 i - 97 := fun i i0 i1 => by rw [k5 i i0 i1, (hT.2.2.2 i i0 (by rw [hT.1, hq.1]; exact i1)).1]
        refine ⟨by decide, fun z => absurd z (by decide), fun _ => ⟨5, _, by decide, t_harmM k2 (o := 19) (oo := o) (oq := fun i => begS x 81 (8 * 19 + i)) (by decide) (fun _ => rfl) (by rw [k3.2.2.1]; exact g.congr tp), ?_⟩⟩
        rintro v y ⟨y1, y2⟩
        refine ⟨?_, k1.beg.scr (fun c j hc => by rw [y1 c (by unfold pers perM at hc; omega) (by unfold pers perM at hc; omega) (by unfold pers perM at hc; omega) (by unfold pers perM at hc; omega)])⟩
        rw [y2, g4, k3.2.1]
        refine hrS_congr (fun p p0 p1 => ?_) (fun p p0 p1 => ?_) _ (by omega)
        · rw [k3.wv, wvF_od (fun i i0 i1 => k4 i i0 i1)]
        · rw [k3.wv, wvF_od tp]
      · refine ⟨by decide, fun _ => ⟨?_, ?_⟩, fun z => absurd rfl z⟩
        · rw [z75 24 (by decide), z91] at hq
          rcases g3 with g | g
          · exact g.2.symm
          · exact absurd g.1 hq
        · rw [hx, hz]
          exact askd0 h g1 g2
