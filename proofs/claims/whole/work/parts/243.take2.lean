set_option maxHeartbeats 4000000 in
theorem op_take [Inhabited YT] {s : Sto} (h : Inv s) {p i : Int} (hp : rg p) (hi : rg i) : OpI MX11_take MX12_take [.inl p, .inl i] s := by
  refine ⟨4, 8, _, by decide, by decide, t_X11_take h hp hi, ?_⟩
  rintro r1 s1 ⟨g1, g2⟩
  obtain ⟨a1, a2, a3, a4, a5, a6, a7, a8, a9, a10, a11, a12, a13, a14, a15⟩ := h.2.1
  have b9 : s 3 9 = s 75 8 ∧ 0 ≤ s 3 9 ∧ s 3 9 ≤ 10 := a11
  have lr := h.lr
  have n1 := h.nms.1
  have ez : ∀ c : Nat, c ≠ 6 → c ≠ 9 → c ≠ 75 → ¬ (47 ≤ c ∧ c ≤ 55) → up s1 75 0 0 c = s c := fun c c1 c2 c3 c4 => by rw [up_row c3, g1 c c1 c2 c4]
  have z75 : ∀ j : Int, j ≠ 0 → up s1 75 0 0 75 j = s 75 j := fun j hj => by rw [up_idx hj, g1 75 (by decide) (by decide) (by decide)]
  have z69 : up s1 75 0 0 6 = s1 6 ∧ up s1 75 0 0 9 = s1 9 := ⟨up_row (by decide), up_row (by decide)⟩
  generalize hz : up s1 75 0 0 = z at *
  have sT : samN s z := ⟨fun c c1 c2 c3 c4 c5 => ez c (by omega) (by omega) (by omega) (by omega), z75 _ (by decide), z75 _ (by decide), z75 _ (by decide)⟩
  have e81 : begS z 81 = begS s 81 := begS_81 (z75 _ (by decide)) (ez 81 (by decide) (by decide) (by decide) (by decide))
  have lm : LM s z (fun k => begS s 81 (8 * 0 + k)) := ⟨lr.sam sT, ⟨by rw [z75 _ (by decide)]; exact h.2.2.2.2.1, fun i => by rw [e81]⟩, fun c c1 c2 => ez c (by omega) (by omega) (by omega) (by omega)⟩
  -- where nothing is taken, all is as before
  have keep : ¬ tkC s (fun k => begS s 81 (8 * 0 + k)) p i → Inv z := fun q => by
    rcases g2 with g | g
    · refine h.scr (fun c j hc => ?_)
      by_cases q6 : c = 6
      · rw [q6, z69.1, g.2.2.1]
      · by_cases q9 : c = 9
        · rw [q9, z69.2, g.2.2.2]
        · by_cases q75 : c = 75
          · rw [q75, z75 j (by unfold pers perM at hc; omega)]
          · rw [ez c q6 q9 q75 (by unfold pers perM at hc; omega)]
    · exact absurd g.1 q
  have no : ¬ tkC s (fun k => begS s 81 (8 * 0 + k)) p i → -1 = r1 := fun q => by
    rcases g2 with g | g
    · exact g.2.1.symm
    · exact absurd g.1 q
  have yes : tkC s (fun k => begS s 81 (8 * 0 + k)) p i → r1 = feF s p (20 + i) ∧ s1 6 = up s 6 p (s 13 i) 6 ∧ s1 9 = up s 9 p (s 80 p - feF s p (20 + i)) 9 := fun q => by
    rcases g2 with g | g
    · exact absurd q g.1
    · exact g.2
  refine ⟨?_, ?_⟩
  · rcases g2 with g | g
    · rw [g.2.1]; decide
    · have hpp := g.1.1
      have := feF_bd lr.fes (h.names hpp).nb (h.market g.1.2.1).1.nb
      rw [g.2.1]
      exact ⟨by omega, by omega⟩
  clear g2
  generalize (fun k => begS s 81 (8 * 0 + k)) = od at *
  refine ClI.intro (by decide) rfl (Nat.le_of_ble_eq_true rfl) (fun X C r => ?_)
  refine kb_X12_take_0 C r ?_
  rintro z' hz'
  rw [hz] at hz'
  rw [hz']
  refine ⟨0, _, by decide, t_X12_isOne hp (by rw [z75 4 (by decide)]; exact ⟨by omega, by omega⟩), ?_⟩
  rw [z75 4 (by decide)]
  rintro q t ⟨ht, q1, q2⟩
  rw [ht, z75 8 (by decide)]
  refine ⟨⟨by omega, by omega⟩, fun q3 => ?_, fun q3 => ⟨0, _, by decide, t_X12_isIn hi (by decide) ⟨by omega, by omega⟩, ?_⟩⟩
  · have nc : ¬ tkC s od p i := fun q => by have := q.1; omega
    exact ⟨no nc, keep nc⟩
  rintro q' t' ⟨ht', q1', q2'⟩
  rw [ht']
  refine ⟨⟨by omega, by omega⟩, fun k2 => ?_, fun k2 => ?_⟩
  · have nc : ¬ tkC s od p i := fun q => by have := q.2.1; omega
    exact ⟨no nc, keep nc⟩
  have hpp : 0 ≤ p ∧ p < s 75 4 := by omega
  have hii : 0 ≤ i ∧ i < s 75 8 := by omega
  have hpz : 0 ≤ p ∧ p < z 75 4 := by rw [sT.2.1]; exact hpp
  have nb := (h.market hii).1.nb
  have pc : s 9 p = s 80 p ∧ rg (s 9 p) := (a8 p hpp.1 (by show p < s 5 0; have : s 5 0 = s 75 4 := a6.1; omega)).2.2
  have bf := feF_bd lr.fes (h.names hpp).nb nb
  refine ⟨5, _, by decide, t_wofM lm hpz, ?_⟩
  rintro wo y ⟨y1, y2⟩
  have ey : ∀ c : Nat, ¬ (99 ≤ c ∧ c ≤ 117) → y c = begS z c := fun c hc => y1 c (by omega) (by omega) (by omega)
  obtain ⟨ly, sy, by1⟩ := lm.work ey
  have bd := lm.1.wvb hpz
  rw [← y2] at bd
  refine ⟨2, _, by decide, t_mayM ly (a := 20 + i) (by rw [sy.2.1]; exact hpz) (by omega) (sy.nb (sT.nb nb)) ⟨by omega, by omega⟩, ?_⟩
  rintro b x ⟨x1, x2, x3⟩
  have ex : ∀ c : Nat, ¬ (99 ≤ c ∧ c ≤ 117) → x c = begS y c := fun c hc => x1 c (by omega) (by omega) (by omega)
  obtain ⟨lx, sx, bx1⟩ := ly.work ex
  have exz : ∀ c : Nat, ¬ (99 ≤ c ∧ c ≤ 117) → x c = begS z c := fun c hc => by rw [ex c hc, begS_1 by1, ey c hc]
  rw [sy.ok, sT.ok, y2, sT.wv] at x3
  refine ⟨⟨by omega, by omega⟩, fun z5 => ⟨0, _, by decide, t_feeM lx (a := 20 + i) (by rw [sx.2.1, sy.2.1]; exact hpz) (by omega) (sx.nb (sy.nb (sT.nb nb))), ?_⟩, fun z5 => ?_⟩
  · rintro fe w ⟨w1, w2⟩
    rw [sx.fe, sy.fe, sT.fe] at w2
    have ew : ∀ c : Nat, ¬ (99 ≤ c ∧ c ≤ 117) → w c = begS z c := fun c hc => by rw [w1 c (by omega) (by omega), exz c hc]
    have w80 : w 80 = s 80 := by rw [ew 80 (by decide), begS_row (by decide) (by decide), ez 80 (by decide) (by decide) (by decide) (by decide)]
    rw [w80]
    refine ⟨⟨by omega, by omega⟩, ⟨by rw [← pc.1]; exact pc.2, ⟨by omega, by omega⟩⟩, fun z6 => ⟨⟨by omega, by omega⟩, ⟨by omega, by omega⟩, ?_⟩, fun z6 => ?_⟩
    · rintro v hv
      have tc : tkC s od p i := ⟨hpp, hii, by omega, by omega⟩
      obtain ⟨k1, k2, k3⟩ := yes tc
      refine ⟨0, _, by decide, t_X12_movesName (a := 20 + i) (b := p) (by omega) (by omega) (by omega), ?_⟩
      rintro f hf
      refine ⟨by omega, ?_⟩
      have hf' : f = mvN v (20 + i) p := hf
      have ik : Inv (tkS s p i (s 80 p - fe)) := h.tk hpp hii (by have := pc.2; rw [pc.1] at this; exact ⟨by have := this.1; omega, by have := this.2; omega⟩)
      -- f is what tkS says, on all that outlasts
      refine ik.beg.scr (fun c j hc => ?_)
      have T : ∀ c : Nat, c ≠ 76 → c ≠ 77 → c ≠ 80 → c ≠ 6 → c ≠ 9 → tkS s p i (s 80 p - fe) c = s c := fun c c1 c2 c3 c4 c5 => by
        unfold tkS
        rw [mvN_o c1 c2, up_row c3, up_row c5, up_row c4]
      have F : ∀ c : Nat, c ≠ 76 → c ≠ 77 → c ≠ 80 → ¬ (99 ≤ c ∧ c ≤ 117) → f c = begS z c := fun c c1 c2 c3 c4 => by rw [hf', mvN_o c1 c2, hv, up_row c3, ew c c4]
      have v76 : v 76 = s 76 := by rw [hv, up_row (by decide), ew 76 (by decide), begS_row (by decide) (by decide), ez 76 (by decide) (by decide) (by decide) (by decide)]
      have v77 : v 77 = s 77 := by rw [hv, up_row (by decide), ew 77 (by decide), begS_row (by decide) (by decide), ez 77 (by decide) (by decide) (by decide) (by decide)]
      by_cases q76 : c = 76
      · rw [q76, begS_row (by decide) (by decide), hf', mvN_76, v76]
        unfold tkS
        rw [mvN_76, up_row (c' := 76) (by decide), up_row (c' := 76) (by decide), up_row (c' := 76) (by decide)]
      by_cases q77 : c = 77
      · rw [q77, begS_row (by decide) (by decide), hf', mvN_77, v77]
        unfold tkS
        rw [mvN_77, up_row (c' := 77) (by decide), up_row (c' := 77) (by decide), up_row (c' := 77) (by decide)]
      by_cases q80 : c = 80
      · rw [q80, begS_row (by decide) (by decide), hf', mvN_o (by decide) (by decide), hv]
        unfold tkS
        rw [mvN_o (by decide) (by decide), up_if, up_if, w80, up_row (by decide), up_row (by decide)]
      by_cases q6 : c = 6
      · rw [q6, F 6 (by decide) (by decide) (by decide) (by decide), begS_row (by decide) (by decide), begS_row (by decide) (by decide), z69.1, k2]
        unfold tkS
        rw [mvN_o (by decide) (by decide), up_row (c := 80) (c' := 6) (by decide), up_row (c := 9) (c' := 6) (by decide)]
      by_cases q9 : c = 9
      · rw [q9, F 9 (by decide) (by decide) (by decide) (by decide), begS_row (by decide) (by decide), begS_row (by decide) (by decide), z69.2, k3]
        unfold tkS
        rw [mvN_o (by decide) (by decide), up_row (c := 80) (c' := 9) (by decide), up_if, up_if, up_row (c := 6) (c' := 9) (by decide), w2]
      have t75 := T 75 (by decide) (by decide) (by decide) (by decide) (by decide)
      rw [F c q76 q77 q80 (by unfold pers perM at hc; omega)]
      by_cases q81 : c = 81
      · rw [q81, e81, begS_81 (s := s) (by rw [t75]) (T 81 (by decide) (by decide) (by decide) (by decide) (by decide))]
      by_cases q75 : c = 75
      · rw [q75]
        by_cases j22 : j = 22
        · rw [j22, begS_22 lm.2.1.1, begS_22 (by rw [t75]; exact h.2.2.2.2.1)]
        · rw [begS_75 j22, begS_75 j22, t75, z75 j (by unfold pers perM at hc; omega)]
      rw [begS_row q75 q81, begS_row q75 q81, T c q76 q77 q80 q6 q9, ez c q6 q9 q75 (by unfold pers perM at hc; omega)]
    · have nc : ¬ tkC s od p i := fun q => by have := q.2.2.1; omega
      exact ⟨no nc, (keep nc).beg.scr (fun c j hc => by rw [ew c (by unfold pers perM at hc; omega)])⟩
  · have nc : ¬ tkC s od p i := fun q => q.2.2.2 (by omega)
    exact ⟨no nc, (keep nc).beg.scr (fun c j hc => by rw [exz c (by unfold pers perM at hc; omega)])⟩
