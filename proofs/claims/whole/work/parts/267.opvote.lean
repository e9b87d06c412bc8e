/-! OPERATION: vote -/
noncomputable def voteO (s : Sto) (rule i : Int) : Int := if s 75 18 = 0 then begS s 81 i else voF (ovS s) (s 75 9) rule i
theorem voF_OdR {ov : Int → Int → Int} {K rule : Int} (h : ∀ a b : Int, 0 ≤ a → a < K → 0 ≤ b → b < K → 0 ≤ ov a b ∧ ov a b ≤ 108) (hK : 2 ≤ K ∧ K ≤ 8) : ∃ o : Int, OdR K o (voF ov K rule) := by
  by_cases q : rule = 2
  · refine ⟨_, (rwA_OdR h hK).congr (fun k _ _ => ?_)⟩
    exact if_pos q
  · refine ⟨_, (omF_OdR (mr := mrF ov K rule) hK).congr (fun k _ _ => ?_)⟩
    exact if_neg q
theorem t_ordBy [Inhabited YT] {s t : Sto} (h : Inv s) (e : ∀ c : Nat, (3 ≤ c ∧ c ≤ 20) → t c = s c) {rule : Int} (hr : rg rule) : ClI LY 5 MX0_orderBy [.inr 59, .inr 3, .inl rule] t (fun r s' => (∀ c : Nat, ¬ (60 ≤ c ∧ c ≤ 63) → s' c = t c) ∧ OdR (s 75 9) r (voteO s rule)) := by
  obtain ⟨v1, v2, v3, v4⟩ := h.vts
  obtain ⟨b3, b10, b14⟩ := landB h
  rw [v1.1] at b3
  have bd := ovS_bd h
  refine ClI.intro (by decide) rfl (Nat.le_of_ble_eq_true rfl) (fun X C r => ?_)
  refine kb_X0_orderBy_0 C r ?_
  rw [e 3 (by omega), v1.2]
  refine ⟨⟨by omega, by omega⟩, fun z => ⟨1, _, by decide, t_cnt h e, ?_⟩, fun z => ⟨fun _ _ => rfl, b3.congr (fun k _ _ => if_pos z)⟩⟩
  rintro u ⟨u1, u2⟩
  have hov : OVR u (s 75 9) (ovS s) := fun x y x0 x1 y0 y1 => ⟨by rw [u2 x y x0 (by omega) y0 (by omega), if_pos ⟨x1, y1⟩], bd x y⟩
  have u3 : u 3 0 = s 75 9 := by rw [u1 3 (by decide), e 3 (by omega), v1.1]
  rw [u3]
  refine ⟨hr, fun z2 => ⟨4, _, by decide, t_X0_orderByMerit v2 hr hov, ?_⟩, fun z2 => ⟨2, _, by decide, t_X0_findNearest v2 hov, ?_⟩⟩
  · rintro x y ⟨hy, hx⟩
    rw [hy]
    refine ⟨fun c hc => u1 c (by omega), hx.congr (fun k _ _ => ?_)⟩
    show voteO s rule k = _
    unfold voteO voF
    rw [if_neg z, if_neg z2]
  · rintro x ⟨x1, x2⟩
    have p2 := pow_256 (K := s 75 9) v2.2
    have p0 : 0 < (2 : Nat) ^ (s 75 9).toNat := Nat.pow_pos (by decide)
    have sh1 : xshl 1 (s 75 9) = ((2 ^ (s 75 9).toNat : Nat) : Int) := by
      have := xshl_nat (n := 1) (b := (s 75 9).toNat) (by omega) (by omega)
      rw [show ((1 : Nat) : Int) = 1 from rfl, Int.toNat_of_nonneg (by omega), Nat.one_mul] at this
      exact this
    rw [x1 3 (by decide) (by decide), u3, sh1, show ((2 ^ (s 75 9).toNat : Nat) : Int) - 1 = ((2 ^ (s 75 9).toNat - 1 : Nat) : Int) by omega]
    refine ⟨⟨by omega, by omega⟩, fun c hc => by rw [x1 c (by omega) (by omega), u1 c (by omega)], ?_⟩
    have pc : pcF (2 ^ (s 75 9).toNat - 1) 8 = (s 75 9).toNat := pc_full ⟨(s 75 9).toNat, by omega⟩
    rw [(x2 _ (by omega)).2, pc]
    refine (rwA_OdR (ov := ovS s) (fun a b _ _ _ _ => bd a b) v2).congr (fun k _ _ => ?_)
    show voteO s rule k = _
    unfold voteO voF
    rw [if_neg z, if_pos z2]
theorem pv_eq [Inhabited YT] {s t : Sto} (h : Inv s) (e9 : t 75 9 = s 75 9) (e58 : t 75 58 = 0) (e81 : ∀ i : Int, 56 ≤ i → i < 152 → t 81 i = s 81 i) {v l : Int} (v0 : 0 ≤ v) (v1 : v < s 75 18) : pvS t v l = atF (fun i => s 81 (8 * (7 + v) + i)) l (s 75 9).toNat := by
  obtain ⟨_, v2, v3, v4⟩ := h.vts
  have at_e : ∀ k : Nat, (k : Int) ≤ s 75 9 → atF (fun i => t 81 (8 * (7 + v) + i)) l k = atF (fun i => s 81 (8 * (7 + v) + i)) l k := by
    intro k
    induction k with
    | zero => intro _; show (0 : Int) = 0; rfl
    | succ k ih =>
      intro hk
      show (if t 81 (8 * (7 + v) + k) = l then (k : Int) else atF (fun i => t 81 (8 * (7 + v) + i)) l k) = (if s 81 (8 * (7 + v) + k) = l then (k : Int) else atF (fun i => s 81 (8 * (7 + v) + i)) l k)
      rw [ih (by omega), e81 _ (by omega) (by omega)]
  unfold pvS
  rw [e58, e9, plB_0 (by omega), at_e _ (by omega)]
theorem ov_eq [Inhabited YT] {s t : Sto} (h : Inv s) (e9 : t 75 9 = s 75 9) (e58 : t 75 58 = 0) (e81 : ∀ i : Int, 56 ≤ i → i < 152 → t 81 i = s 81 i) (e89 : t 89 = s 89) : (fun a b => ovF (pvS t) (t 89) a b (s 75 18).toNat) = ovS s := by
  obtain ⟨_, v2, v3, v4⟩ := h.vts
  funext a b
  unfold ovS
  exact ovF_congr (n := s 75 18) (fun v v0 v1 => ⟨pv_eq h e9 e58 e81 v0 v1, pv_eq h e9 e58 e81 v0 v1⟩) (fun v _ _ => by rw [e89]) _ (by omega)
theorem t_voteM [Inhabited YT] {s t : Sto} (h : Inv s) (e75 : ∀ i : Int, i = 9 ∨ i = 18 ∨ i = 22 ∨ i = 59 → t 75 i = s 75 i) (e58 : t 75 58 = 0) (e81 : t 81 = s 81) (e89 : t 89 = s 89) {rule : Int} (hr : rg rule) : ClV LY 2 MX12_findsVote [.inr 75, .inl rule] t (fun s' => (∀ c : Nat, c ≠ 81 → c ≠ 101 → c ≠ 110 → c ≠ 111 → c ≠ 112 → s' c = begS t c) ∧ (∀ i : Int, ¬ (160 ≤ i ∧ i < 168) → s' 81 i = begS t 81 i) ∧ ∀ i : Int, 0 ≤ i → i < s 75 9 → s' 81 (160 + i) = voteO s rule i) := by
  obtain ⟨v1, v2, v3, v4⟩ := h.vts
  have hb : t 75 22 = 0 ∨ t 75 22 = 1 := by rw [e75 22 (by omega)]; exact h.2.2.2.2.1
  have r59 : rg (s 75 59) := h.2.2.2.2.2.1
  have b81 : begS t 81 = begS s 81 := begS_81 (e75 22 (by omega)) e81
  by_cases q : s 75 18 = 0
  · refine ClV.intro (by decide) rfl (Nat.le_of_ble_eq_true rfl) (fun X C r => ?_)
    refine kb_X12_findsVote_0 C r ⟨0, _, by decide, t_X12_begins hb, ?_⟩
    rintro u hu
    have u18 : u 75 18 = 0 := by rw [hu, begS_75 (by decide), e75 18 (by omega), q]
    rw [u18]
    refine ⟨by decide, fun z => absurd rfl z, fun _ => ⟨0, _, by decide, t_X12_movesOrder (by decide) (by decide) (by decide), ?_⟩⟩
    rintro x hx
    refine ⟨fun c c1 _ _ _ _ => by rw [hx, fillR_row c1, hu], fun i hi => by rw [hx, fillR_out (by omega), hu], fun i i0 i1 => ?_⟩
    rw [hx, fillR_in (by omega), hu, b81, show 8 * 0 + (160 + i - 8 * 20) = i by omega]
    unfold voteO
    rw [if_pos q]
  · have ov := ov_eq h (e75 9 (by omega)) e58 (fun i _ _ => by rw [e81]) e89
    refine (t_findsV (s := t) (K := s 75 9) (n := s 75 18) hb (e75 9 (by omega)) (e75 18 (by omega)) v2 (by omega) hr (by rw [e75 59 (by omega)]; exact r59) (fun v i v0 v1' i0 i1 => ?_) (fun v v0 v1' => by rw [e89]; exact (v4 v v0 v1').2.1.2) (fun v v0 v1' => ?_)).mono ?_
    · rw [e81]
      have : 0 ≤ s 81 (8 * (7 + v) + i) ∧ s 81 (8 * (7 + v) + i) < s 75 9 := (v4 v v0 v1').1.2.1 i i0 i1
      exact ⟨by omega, by omega⟩
    · have e : pvS t v = fun l => atF (fun i => s 81 (8 * (7 + v) + i)) l (s 75 9).toNat := funext (fun l => pv_eq h (e75 9 (by omega)) e58 (fun i _ _ => by rw [e81]) v0 v1')
      rw [e]
      exact (v4 v v0 v1').1.pbj
    · rw [ov]
      rintro x ⟨x1, x2, x3⟩
      refine ⟨x1, x2, fun i i0 i1 => ?_⟩
      rw [x3 i i0 i1]
      unfold voteO
      rw [if_neg q]
theorem op_vote [Inhabited YT] {s : Sto} (h : Inv s) {rule i : Int} (hr : rg rule) (hi : rg i) : OpI MX11_vote MX12_vote [.inl rule, .inl i] s := by
  obtain ⟨v1, v2, v3, v4⟩ := h.vts
  refine ⟨6, 4, (fun r1 s1 => (∀ c : Nat, ¬ (60 ≤ c ∧ c ≤ 63) → s1 c = s c) ∧ ((¬ ((0 ≤ rule ∧ rule ≤ 2) ∧ 0 ≤ i ∧ i < s 75 9) ∧ r1 = -1) ∨ (((0 ≤ rule ∧ rule ≤ 2) ∧ 0 ≤ i ∧ i < s 75 9) ∧ (0 ≤ r1 ∧ r1 < 8) ∧ r1 = voteO s rule i))), by decide, by decide, ?_, ?_⟩
  · refine ClI.intro (by decide) rfl (Nat.le_of_ble_eq_true rfl) (fun X C r => ?_)
    have nil : ∀ c : Nat, ¬ (60 ≤ c ∧ c ≤ 63) → s c = s c := fun _ _ => rfl
    refine kb_X11_vote_0 C r ?_
    rw [v1.1]
    refine ⟨hr, fun z => ⟨nil, Or.inl ⟨by omega, rfl⟩⟩, fun z => ⟨hr, fun z2 => ⟨nil, Or.inl ⟨by omega, rfl⟩⟩, fun z2 => ⟨hi, fun z3 => ⟨nil, Or.inl ⟨by omega, rfl⟩⟩, fun z3 => ⟨⟨hi, ⟨by omega, by omega⟩⟩, fun z4 => ⟨5, _, by decide, t_ordBy h (fun _ _ => rfl) hr, ?_⟩, fun z4 => ⟨nil, Or.inl ⟨by omega, rfl⟩⟩⟩⟩⟩⟩
    rintro o x ⟨x1, x2⟩
    refine ⟨0, _, by decide, t_X5_orderLetter, ?_⟩
    rintro v y ⟨hy, hv⟩
    rw [x1 3 (by decide), v1.1, x2.letter ⟨z3, z4⟩] at hv
    have b := x2.2.1 i z3 z4
    rw [hy]
    exact ⟨x1, Or.inr ⟨by omega, by omega, hv⟩⟩
  · rintro r1 s1 ⟨g1, g2⟩
    have iz : Inv (up s1 75 0 0) := (h.scr (fun c j hc => by rw [g1 c (by unfold pers perM at hc; omega)])).told 0
    have ez : ∀ c : Nat, c ≠ 75 → ¬ (60 ≤ c ∧ c ≤ 63) → up s1 75 0 0 c = s c := fun c c2 c3 => by rw [up_row c2, g1 c c3]
    have z75 : ∀ j : Int, j ≠ 0 → up s1 75 0 0 75 j = s 75 j := fun j hj => by rw [up_idx hj, g1 75 (by decide)]
    have no : ¬ ((0 ≤ rule ∧ rule ≤ 2) ∧ 0 ≤ i ∧ i < s 75 9) → -1 = r1 := fun q => by
      rcases g2 with g | g
      · exact g.2.symm
      · exact absurd g.1 q
    have hr1 : rg r1 := by
      rcases g2 with g | g
      · rw [g.2]; decide
      · exact ⟨by omega, by omega⟩
    refine ⟨hr1, ?_⟩
    generalize hz : up s1 75 0 0 = z at *
    refine ClI.intro (by decide) rfl (Nat.le_of_ble_eq_true rfl) (fun X C r => ?_)
    refine kb_X12_vote_0 C r ?_
    rintro z' hz'
    rw [hz] at hz'
    rw [hz']
    refine ⟨0, _, by decide, t_X12_isIn hr (by decide) (by decide), ?_⟩
    rintro q t ⟨ht, q1, q2⟩
    rw [ht]
    refine ⟨⟨by omega, by omega⟩, fun q3 => ⟨no (by omega), iz⟩, fun q3 => ⟨0, _, by decide, t_X12_isLetterOf hi (by rw [z75 9 (by decide)]; exact ⟨by omega, by omega⟩), ?_⟩⟩
    rw [z75 9 (by decide)]
    rintro q' t' ⟨ht', q1', q2'⟩
    rw [ht']
    refine ⟨⟨by omega, by omega⟩, fun k2 => ?_, fun k2 => ⟨no (by omega), iz⟩⟩
    rintro y hy
    have y75 : ∀ j : Int, j ≠ 0 → j ≠ 58 → y 75 j = s 75 j := fun j j1 j2 => by rw [hy, up_idx j2, z75 j j1]
    have yc : ∀ c : Nat, c ≠ 75 → ¬ (60 ≤ c ∧ c ≤ 63) → y c = s c := fun c c1 c2 => by rw [hy, up_row c1, ez c c1 c2]
    have iy : Inv y := by rw [hy]; exact iz.scr (fun c j hc => up_ne (by unfold pers perM at hc; omega))
    refine ⟨2, _, by decide, t_voteM (t := y) h (fun j hj => y75 j (by omega) (by omega)) (by rw [hy, up_at]) (yc 81 (by decide) (by decide)) (yc 89 (by decide) (by decide)) hr, ?_⟩
    rintro x ⟨x1, x2, x3⟩
    refine ⟨⟨by omega, by omega⟩, ?_, iy.beg.scr (fun c j hc => ?_)⟩
    · rw [x3 i (by omega) (by omega)]
      rcases g2 with g | g
      · exact absurd ⟨by omega, by omega⟩ g.1
      · exact g.2.2.symm
    · by_cases q81 : c = 81
      · subst q81
        exact x2 j (by unfold pers perM at hc; omega)
      · rw [x1 c q81 (by unfold pers perM at hc; omega) (by unfold pers perM at hc; omega) (by unfold pers perM at hc; omega) (by unfold pers perM at hc; omega)]
