set_option maxHeartbeats 4000000 in
theorem op_with [Inhabited YT] {s : Sto} (h : Inv s) {p i : Int} (hp : rg p) (hi : rg i) : OpI MX11_with MX12_with [.inl p, .inl i] s := by
  refine ⟨4, 8, _, by decide, by decide, t_X11_with h hp hi, ?_⟩
  rintro r1 s1 ⟨g1, g2, g3⟩
  have lr := h.lrT
  have hT := h.1
  have n1 := h.nms.1
  have hb := h.2.2.2.2.1
  have ez : ∀ c : Nat, c ≠ 1 → c ≠ 75 → ¬ (47 ≤ c ∧ c ≤ 55) → up s1 75 0 0 c = s c := fun c c1 c2 c3 => by rw [up_row c2, g1 c c1 c3]
  have z75 : ∀ j : Int, j ≠ 0 → up s1 75 0 0 75 j = s 75 j := fun j hj => by rw [up_idx hj, g1 75 (by decide) (by decide)]
  have iv : Inv (up (up s1 75 0 0) 75 24 0) := h.emp.agr (fun c j hc => by
    unfold emptd
    by_cases q : c = 75 ∧ j = 24
    · rw [q.1, q.2, up_at, up_at]
    · rw [up_ne q, up_ne q]
      by_cases q1 : c = 1
      · rw [q1, up_row (by decide), g2]
      · by_cases q2 : c = 75
        · rw [q2, z75 j (by unfold pers perM at hc; omega), up_row (by decide)]
        · rw [ez c q1 q2 (by unfold pers perM at hc; omega), up_row q1])
  generalize hz : up s1 75 0 0 = z at *
  have ivT : Inv (tnS z) := iv.agr agr_tn
  have f75 : ∀ i : Int, i ≠ 24 → tnS z 75 i = z 75 i := fun i hi => tn_75 hi
  have s75 : ∀ i : Int, i ≠ 24 → tnS s 75 i = s 75 i := fun i hi => tn_75 hi
  have sT : samN (tnS s) (tnS z) := tnS_sam (fun c c1 c2 => ez c (by omega) (by omega) (by omega)) (z75 _ (by decide)) (z75 _ (by decide)) (z75 _ (by decide)) (z75 _ (by decide))
  have e81 : begS (tnS z) 81 = begS s 81 := begS_81 (by rw [f75 _ (by decide), z75 _ (by decide)]) (by rw [tnS_o (by decide) (by decide) (by decide), ez 81 (by decide) (by decide) (by decide)])
  have lz : LR (tnS z) (tnS z) (fun k => begS s 81 (8 * 0 + k)) := (lr.congr (u' := tnS z) (fun c c1 c2 => by rw [tnS_o (by omega) (by omega) (by omega), ez c (by omega) (by omega) (by omega)])).sam sT
  have oz : ODR (tnS z) (fun k => begS s 81 (8 * 0 + k)) := ⟨by rw [f75 _ (by decide), z75 _ (by decide)]; exact hb, fun i => by rw [e81]⟩
  have t4 : tnS z 75 4 = s 75 4 := by rw [f75 _ (by decide), z75 _ (by decide)]
  have fin : ∀ s2 : Sto, (∀ c : Nat, ¬ (99 ≤ c ∧ c ≤ 117) → s2 c = begS (tnS z) c) → Inv s2 := fun s2 e => ivT.beg.scr (fun c j hc => by rw [e c (by unfold pers perM at hc; omega)])
  have lm : LM (tnS z) (tnS z) (fun k => begS s 81 (8 * 0 + k)) := ⟨lz, oz, fun _ _ _ => rfl⟩
  generalize (fun k => begS s 81 (8 * 0 + k)) = od at *
  refine ⟨?_, ?_⟩
  · rcases g3 with g | g
    · rw [g.2]; decide
    · exact g.2.2.1
  refine ClI.intro (by decide) rfl (Nat.le_of_ble_eq_true rfl) (fun X C r => ?_)
  refine kb_X12_with_0 C r ?_
  rintro z' hz'
  rw [hz] at hz'
  rw [hz']
  refine ⟨1, _, by decide, t_X12_takesName (b := s 2) (by rw [z75 24 (by decide), ez 91 (by decide) (by decide) (by decide), ← hT.1]; exact hT.2), ?_⟩
  rw [z75 24 (by decide), ez 91 (by decide) (by decide) (by decide)]
  rintro b x (⟨rfl, hn, hx⟩ | ⟨rfl, hn, hx⟩)
  · have hx' : x = tnS z := by
      rw [hx]
      unfold tnS
      rw [z75 24 (by decide), ez 91 (by decide) (by decide) (by decide)]
    rw [hx']
    refine ⟨by decide, fun q => absurd q (by decide), fun _ => ⟨0, _, by decide, t_X12_isOne hp (by rw [t4]; exact ⟨by omega, by omega⟩), ?_⟩⟩
    rintro q t ⟨ht, q1, q2⟩
    rw [ht]
    rw [t4] at q2
    have no : ¬ ((0 ≤ p ∧ p < s 75 4) ∧ 0 ≤ i ∧ i ≤ 3) → -1000000 = r1 := fun q => by
      rcases g3 with g | g
      · exact g.2.symm
      · exact absurd g.1.2 q
    refine ⟨⟨by omega, by omega⟩, fun q3 => ⟨no (by omega), ivT⟩, fun q3 => ⟨0, _, by decide, t_X12_isIn hi (by decide) (by decide), ?_⟩⟩
    rintro q' t' ⟨ht', q1', q2'⟩
    rw [ht']
    refine ⟨⟨by omega, by omega⟩, fun k2 => ?_, fun k2 => ⟨no (by omega), ivT⟩⟩
    have hpz : 0 ≤ p ∧ p < tnS z 75 4 := by rw [t4]; omega
    have g : nmB (tnS s) 30 ∧ r1 = witV (tnS s) od p i := by
      rcases g3 with g | g
      · exact absurd ⟨hn, by omega, by omega⟩ g.1
      · exact ⟨g.2.1, g.2.2.2⟩
    have nb := sT.nb g.1
    rw [g.2]
    refine ⟨hi, fun z3 => ⟨hi, fun z4 => ⟨hi, fun z5 => ⟨6, _, by decide, t_wwM lm hpz (by decide) nb, ?_⟩, fun z5 => ⟨7, _, by decide, t_gainM lm hpz (by decide) nb, ?_⟩⟩, fun z4 => ⟨0, _, by decide, t_feeM lm hpz (by decide) nb, ?_⟩⟩, fun z3 => ⟨5, _, by decide, t_wofM lm hpz, ?_⟩⟩
    · rintro v y ⟨y1, y2⟩
      refine ⟨?_, fin y (fun c hc => y1 c (by omega) (by omega) (by omega) (by omega))⟩
      unfold witV
      rw [if_neg z3, if_neg z4, if_neg z5, y2, (sT.mv 30 p).wv]
    · rintro v y ⟨y1, y2⟩
      refine ⟨?_, fin y (fun c hc => y1 c (by omega))⟩
      unfold witV
      rw [if_neg z3, if_neg z4, if_pos z5, y2, sT.gn]
    · rintro v y ⟨y1, y2⟩
      refine ⟨?_, ivT.scr (fun c j hc => by rw [y1 c (by unfold pers perM at hc; omega) (by unfold pers perM at hc; omega)])⟩
      unfold witV
      rw [if_neg z3, if_pos z4, y2, sT.fe]
    · rintro wo y ⟨y1, y2⟩
      have ey : ∀ c : Nat, ¬ (99 ≤ c ∧ c ≤ 117) → y c = begS (tnS z) c := fun c hc => y1 c (by omega) (by omega) (by omega)
      obtain ⟨ly, sy, by1⟩ := lm.work ey
      have bd := lz.wvb hpz
      rw [← y2] at bd
      refine ⟨2, _, by decide, t_mayM ly (by rw [sy.2.1]; exact hpz) (by decide) (sy.nb nb) ⟨by omega, by omega⟩, ?_⟩
      rintro b x ⟨x1, x2, x3⟩
      have ix : Inv x := fin x (fun c hc => by
        rw [x1 c (by omega) (by omega) (by omega), begS_1 by1]
        exact ey c hc)
      have wv : witV (tnS s) od p i = b := by
        unfold witV
        rw [if_pos z3, x3, sy.ok, sT.ok, y2, sT.wv]
      refine ⟨⟨by omega, by omega⟩, fun z5 => ⟨by rw [wv]; omega, ix⟩, fun z5 => ⟨by rw [wv]; omega, ix⟩⟩
  · refine ⟨by decide, fun _ => ⟨?_, by rw [hx]; exact iv⟩, fun q => absurd rfl q⟩
    rcases g3 with g | g
    · exact g.2.symm
    · exact absurd g.1.1 hn
