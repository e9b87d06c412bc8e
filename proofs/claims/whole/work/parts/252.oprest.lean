/-! OPERATION: rest -/
theorem LR.cp {u s : Sto} {od : Int → Int} {n : Int} (hL : LR u s od) (hn : s 75 4 = n) : ∀ k : Nat, (k : Int) ≤ n → LR u (cpS s k) od := by
  intro k
  induction k with
  | zero => intro _; exact hL
  | succ k ih =>
    intro hk
    have l := ih (by omega)
    exact l.mv (l.2.2.2.2.2.2.2 k (by omega) (by rw [cpS_o s (by decide) (by decide), hn]; omega))
theorem samN.stp {t t' : Sto} (h : samN t t') (od : Int → Int) (g p : Int) : samN (stpF t od g p) (stpF t' od g p) := by
  unfold stpF
  rw [h.ch]
  by_cases q : cho t od g p = -1
  · rw [if_pos q, if_pos q]; exact h
  · rw [if_neg q, if_neg q]; exact h.mv _ _
theorem samN.rn {t t' : Sto} (h : samN t t') (od : Int → Int) (g : Int) : ∀ k : Nat, samN (rnS t od g k) (rnS t' od g k)
  | 0 => h
  | k + 1 => (samN.rn h od g k).stp od g k
theorem samN.rnn {t t' : Sto} (h : samN t t') (od : Int → Int) (g : Int) : ∀ k : Nat, rnN t' od g k = rnN t od g k
  | 0 => rfl
  | k + 1 => by
    show rnN t' od g k + (if cho (rnS t' od g k) od g k = -1 then 0 else 1) = rnN t od g k + (if cho (rnS t od g k) od g k = -1 then 0 else 1)
    rw [samN.rnn h od g k, (h.rn od g k).ch]
theorem samN.st {t t' : Sto} (h : samN t t') (od : Int → Int) (g m : Int) : ∀ k : Nat, samN (stS t od g m k) (stS t' od g m k)
  | 0 => h
  | k + 1 => (samN.st h od g m k).rn od g m.toNat
theorem samN.ta {t t' : Sto} (h : samN t t') (od : Int → Int) (g m : Int) : ∀ k : Nat, taS t' od g m k = taS t od g m k
  | 0 => rfl
  | k + 1 => by
    show taS t' od g m k + rnN (stS t' od g m k) od g m.toNat = taS t od g m k + rnN (stS t od g m k) od g m.toNat
    rw [samN.ta h od g m k, (h.st od g m k).rnn]
theorem samN.sp {t t' T T' : Sto} (h : samN t t') (h2 : samN T T') (m : Int) : smP t' T' m = smP t T m := by
  unfold smP lkR
  rw [h.1 76 (by decide) (by decide) (by decide) (by decide) (by decide), h.1 77 (by decide) (by decide) (by decide) (by decide) (by decide), h2.1 76 (by decide) (by decide) (by decide) (by decide) (by decide), h2.1 77 (by decide) (by decide) (by decide) (by decide) (by decide)]
theorem samN.rest {t t' : Sto} (h : samN t t') (od : Int → Int) (g m a b c : Int) : RestR t' od g m a b c = RestR t od g m a b c := by
  have e1 : ∀ k : Nat, rnN (stS t' od g m k) od g m.toNat = rnN (stS t od g m k) od g m.toNat := fun k => (h.st od g m k).rnn od g m.toNat
  have e2 : ∀ k j : Nat, smP (stS t' od g m k) (stS t' od g m j) m = smP (stS t od g m k) (stS t od g m j) m := fun k j => (h.st od g m k).sp (h.st od g m j) m
  have e3 : ∀ k : Nat, taS t' od g m k = taS t od g m k := fun k => h.ta od g m k
  unfold RestR goK
  simp only [e1, e2, e3]
theorem RestR.bd {t : Sto} {od : Int → Int} {g m a b c : Int} (hm : 0 ≤ m ∧ m ≤ 20) (h : RestR t od g m a b c) : rg a ∧ rg b ∧ rg c := by
  rcases h with ⟨k, k1, k2, k3, k4, k5, k6⟩ | ⟨k, b', k1, k2, k3, k4, k5, k6, k7, k8, k9⟩ | ⟨k2, k7, k8, k9⟩
  · have := taS_bd t od g m hm (k + 1)
    exact ⟨⟨by omega, by omega⟩, ⟨by omega, by omega⟩, ⟨by omega, by omega⟩⟩
  · have := taS_bd t od g m hm (k + 1)
    exact ⟨⟨by omega, by omega⟩, ⟨by omega, by omega⟩, ⟨by omega, by omega⟩⟩
  · have := taS_bd t od g m hm 40
    exact ⟨⟨by omega, by omega⟩, ⟨by omega, by omega⟩, ⟨by omega, by omega⟩⟩
set_option maxHeartbeats 4000000 in
theorem op_rest [Inhabited YT] {s : Sto} (h : Inv s) {w : Int} (hw : rg w) : OpI MX11_rest MX12_rest [.inl w] s := by
  obtain ⟨a1, a2, a3, a4, a5, a6, a7, a8, a9, a10, a11, a12, a13, a14, a15⟩ := h.2.1
  have b9 : s 3 9 = s 75 8 ∧ 0 ≤ s 3 9 ∧ s 3 9 ≤ 10 := a11
  have lr := h.lr
  have n1 := h.nms.1
  have nm : ∀ i : Int, 0 ≤ i → i < s 75 8 → nmB s (20 + i) := fun i i0 i1 => (h.market ⟨i0, i1⟩).1.nb
  have c6 := cpS_76 s (s 75 4).toNat (by omega)
  have c7 := cpS_77 s (s 75 4).toNat (by omega)
  have keep : ∀ x a : Int, a < 31 → NmR x (s 76 a) (fun i => s 77 (6 * a + i)) → NmR x (cpS s (s 75 4).toNat 76 a) (fun i => cpS s (s 75 4).toNat 77 (6 * a + i)) := fun x a ha hN => by
    refine hN.congr (by rw [c6, if_neg (by omega)]) (fun i i0 i1 => ?_)
    have := hN.1
    show cpS s (s 75 4).toNat 77 (6 * a + i) = s 77 (6 * a + i)
    rw [c7, if_neg (by omega)]
  have lrt := lr.cp rfl (s 75 4).toNat (by omega)
  have e5 : s 5 0 = s 75 4 := a6.1
  have t4 : cpS s (s 75 4).toNat 75 4 = s 75 4 := by rw [cpS_o s (by decide) (by decide)]
  refine ⟨7, 10, (fun r1 s1 => (∀ c : Nat, ¬ (47 ≤ c ∧ c ≤ 58) → s1 c = s c) ∧ ((¬ (0 ≤ w ∧ w ≤ 2) ∧ r1 = -1) ∨ ((0 ≤ w ∧ w ≤ 2) ∧ ∃ rd ci tk : Int, RestR (cpS s (s 75 4).toNat) (fun k => begS s 81 (8 * 0 + k)) (s 75 8) (s 75 4) rd ci tk ∧ r1 = if w = 0 then rd else if w = 1 then ci else tk))), by decide, by decide, ?_, ?_⟩
  · refine ClI.intro (by decide) rfl (Nat.le_of_ble_eq_true rfl) (fun X C r => ?_)
    have nil : ∀ c : Nat, ¬ (47 ≤ c ∧ c ≤ 58) → s c = s c := fun _ _ => rfl
    refine kb_X11_rest_0 C r ⟨hw, fun z => ⟨nil, Or.inl ⟨by omega, rfl⟩⟩, fun z => ⟨hw, fun z2 => ⟨6, _, by decide, t_X10_goThrough (g := s 75 8) lrt (fun p p0 p1 => ?_) (fun i i0 i1 => ?_) (by omega), ?_⟩, fun z2 => ⟨nil, Or.inl ⟨by omega, rfl⟩⟩⟩⟩
    · rw [Int.zero_add]
      exact keep _ _ (by omega) (h.names ⟨p0, by omega⟩)
    · exact keep _ _ (by omega) (h.market ⟨i0, i1⟩).1
    · rw [t4]
      rintro x ⟨x1, x2⟩
      refine ⟨hw, fun z3 => ⟨hw, fun z4 => ⟨x1, Or.inr ⟨by omega, _, _, _, x2, ?_⟩⟩, fun z4 => ⟨x1, Or.inr ⟨by omega, _, _, _, x2, ?_⟩⟩⟩, fun z3 => ⟨x1, Or.inr ⟨by omega, _, _, _, x2, ?_⟩⟩⟩
      · rw [if_neg z3, if_neg z4]
      · rw [if_neg z3, if_pos z4]
      · rw [if_pos z3]
  · rintro r1 s1 ⟨g1, g2⟩
    have iz : Inv (up s1 75 0 0) := (h.scr (fun c j hc => by rw [g1 c (by unfold pers perM at hc; omega)])).told 0
    have ez : ∀ c : Nat, c ≠ 75 → ¬ (47 ≤ c ∧ c ≤ 58) → up s1 75 0 0 c = s c := fun c c2 c3 => by rw [up_row c2, g1 c c3]
    have z75 : ∀ j : Int, j ≠ 0 → up s1 75 0 0 75 j = s 75 j := fun j hj => by rw [up_idx hj, g1 75 (by decide)]
    have hr1 : rg r1 := by
      rcases g2 with g | ⟨_, rd, ci, tk, g3, g4⟩
      · rw [g.2]; decide
      · have := g3.bd n1
        rw [g4]
        by_cases q : w = 0
        · rw [if_pos q]; exact this.1
        · rw [if_neg q]
          by_cases q2 : w = 1
          · rw [if_pos q2]; exact this.2.1
          · rw [if_neg q2]; exact this.2.2
    refine ⟨hr1, ?_⟩
    generalize hz : up s1 75 0 0 = z at *
    have sT : samN s z := ⟨fun c c1 c2 c3 c4 c5 => ez c (by omega) (by omega), z75 _ (by decide), z75 _ (by decide), z75 _ (by decide)⟩
    have e81 : begS z 81 = begS s 81 := begS_81 (z75 _ (by decide)) (ez 81 (by decide) (by decide))
    have lm : LM s z (fun k => begS s 81 (8 * 0 + k)) := ⟨lr.sam sT, ⟨by rw [z75 _ (by decide)]; exact h.2.2.2.2.1, fun i => by rw [e81]⟩, fun c c1 c2 => ez c (by omega) (by omega)⟩
    refine ClI.intro (by decide) rfl (Nat.le_of_ble_eq_true rfl) (fun X C r => ?_)
    refine kb_X12_rest_0 C r ?_
    rintro z' hz'
    rw [hz] at hz'
    rw [hz']
    refine ⟨0, _, by decide, t_X12_isIn hw (by decide) (by decide), ?_⟩
    rintro q t ⟨ht, q1, q2⟩
    rw [ht]
    refine ⟨⟨by omega, by omega⟩, fun q3 => ⟨9, _, by decide, t_X12_rests (n := s 75 4) (g := s 75 8) lm (z75 4 (by decide)) ⟨z75 8 (by decide), by omega, by omega⟩ (fun i i0 i1 => sT.nb (nm i i0 i1)), ?_⟩, fun q3 => ⟨?_, iz⟩⟩
    · rintro x ⟨x1, x2, x3, x4⟩
      rw [(cpS_sam sT _).rest] at x1
      have ix : Inv x := by
        rcases x2 with f | f
        · refine iz.scr (fun c j hc => ?_)
          by_cases q76 : c = 76
          · subst q76; exact x3 j (by unfold pers perM at hc; omega) (by unfold pers perM at hc; omega)
          · by_cases q77 : c = 77
            · subst q77; exact x4 j (by unfold pers perM at hc; omega) (by unfold pers perM at hc; omega)
            · exact f c j (by unfold pers perM at hc; unfold okC; omega)
        · refine iz.beg.scr (fun c j hc => ?_)
          by_cases q76 : c = 76
          · subst q76
            rw [begS_row (by decide) (by decide)]
            exact x3 j (by unfold pers perM at hc; omega) (by unfold pers perM at hc; omega)
          · by_cases q77 : c = 77
            · subst q77
              rw [begS_row (by decide) (by decide)]
              exact x4 j (by unfold pers perM at hc; omega) (by unfold pers perM at hc; omega)
            · exact f c j (by unfold pers perM at hc; unfold okC; omega)
      rcases g2 with g | ⟨_, rd, ci, tk, g3, g4⟩
      · omega
      · obtain ⟨u1, u2, u3⟩ := g3.uniq x1
        rw [g4]
        refine ⟨hw, fun z3 => ⟨hw, fun z4 => ⟨?_, ix⟩, fun z4 => ⟨?_, ix⟩⟩, fun z3 => ⟨?_, ix⟩⟩
        · rw [if_neg z3, if_neg z4, u3]
        · rw [if_neg z3, if_pos z4, u2]
        · rw [if_pos z3, u1]
    · rcases g2 with g | g
      · exact g.2.symm
      · have := g.1; omega
