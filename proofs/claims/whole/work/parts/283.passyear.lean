theorem xrem10 {a : Int} (h : 0 ≤ a ∧ a ≤ 2147483647) : xrem a 10 = a % 10 := xrem_nn h (by decide)
/-- from a bound to a greater one -/
theorem LandR.more {Y Y' : Inhabited YT} {s m : Sto} {b : Nat} (h : @LandR Y s b m) (h1 : @yN Y ≤ @yN Y') (h2 : @yN Y' ≤ 2147483000) : @LandR Y' s b m := by
  obtain ⟨a1, a2, a3, a4, a5⟩ := h
  exact ⟨a1, a2, a3, ⟨a4.1, a4.2.1, by have := a4.2.2.1; omega, h2⟩, a5⟩
set_option maxHeartbeats 8000000 in
theorem t_passYear {Y Y' : Inhabited YT} {s u t : Sto} (hi : @Inv Y s) (h : @LandR Y' u 3 t) (hb : t 75 22 = 1) (e9 : ∀ c : Nat, 93 ≤ c → c ≤ 97 → t c = u c) (c0 : u 3 0 = s 3 0) (c11 : u 3 11 = s 3 11) (c14 : u 14 = s 14) (c15 : u 15 = s 15) (c6 : u 4 6 = s 82 6) (t18 : t 75 18 = s 75 18) (yb : u 3 3 + 1 ≤ @yN Y') : ClV LY 6 MX11_passYear [.inr 0] u (fun s' => (∀ c : Nat, c ≠ 3 → c ≠ 6 → c ≠ 8 → c ≠ 9 → ¬ (47 ≤ c ∧ c ≤ 51) → ¬ (60 ≤ c ∧ c ≤ 63) → s' c = u c) ∧ (∀ i : Int, i ≠ 1 → i ≠ 2 → i ≠ 3 → s' 3 i = u 3 i) ∧ s' 3 3 = u 3 3 + 1 ∧ @LandR Y' s' 3 (yrT (s 75 18) (voF (ovS s) (s 75 9) (s 82 6)) t)) := by
  obtain ⟨lr, hN⟩ := @LandR.lr Y' u t h e9
  have vts := @Inv.vts Y s hi
  have r6 : rg (s 82 6) := by
    have := lr.2.2.1 6 (by decide) (by decide)
    rw [c6] at this
    have b1 : (0 : Int) ≤ s 82 6 := this.2.1
    have b2 : s 82 6 ≤ 2 := this.2.2
    exact ⟨by omega, by omega⟩
  obtain ⟨a1, a2, a3, a4, a5, a6, a7, a8, a9, a10, a11, a12, a13, a14, a15⟩ := h
  have eal : alM (t 75 22) (t 81) = t 81 := by
    funext i
    unfold alM
    rw [if_neg (by omega)]
  rw [eal] at lr a3
  have n1 := lr.nms.1
  have e5 : u 5 0 = t 75 4 := a6.1
  have e30 : u 3 0 = t 75 9 := a1.1
  have g1 : u 3 9 = t 75 8 ∧ 0 ≤ u 3 9 ∧ u 3 9 ≤ 10 := a11
  refine ClV.intro (by decide) rfl (Nat.le_of_ble_eq_true rfl) (fun X C r => ?_)
  refine kb_X11_passYear_0 C r ⟨2, _, by decide, t_payL lr, ?_⟩
  rintro v ⟨v1, v2⟩
  have lrv : LR v t (t 81) := lr.congr (fun c c1 c2 => v1 c (by omega))
  refine ⟨2, _, by decide, t_lineL (o := v 3 2) (oq := t 81) lrv (by rw [v1 5 (by decide), v1 6 (by decide)]; exact hN) lrv.2.1, ?_⟩
  rintro w ⟨w1, pl, w2, w3, w4, w5, w6⟩
  have w7 : ∀ x : Int, 0 ≤ x → x < t 75 4 → w 51 x = psm (t 83) (t 84) (t 85) (t 86) (t 75 4) x 6 := fun x x0 x1 => by rw [w1 51 (by decide) (by decide) (by decide) (by decide), v2 x x0 x1]
  have ew : ∀ c : Nat, ¬ (47 ≤ c ∧ c ≤ 51) → w c = u c := fun c hc => by rw [w1 c (by omega) (by omega) (by omega) (by omega), v1 c (by omega)]
  have wvb : ∀ p : Int, 0 ≤ p → p < t 75 4 → -594 ≤ wvF t (t 81) p ∧ wvF t (t 81) p ≤ 594 := fun p p0 p1 => lr.wvb ⟨p0, p1⟩
  have lrvn := lrv.nms
  have lrvo := lrv.2.1
  have Ty1 := fun (vt : Int) (vo : Int → Int) => yrT_1 (vt := vt) (vo := vo) (t := t)
  have Tym := fun (vt : Int) (vo : Int → Int) (c : Nat) (hc : c = 76 ∨ c = 77 ∨ c = 79) => yrT_m (vt := vt) (vo := vo) (t := t) (c := c) hc
  refine y31 C r (by decide) (W := wvF t (t 81)) (n := t 75 4) (by rw [ew 5 (by decide)]; exact e5) n1 (fun x S x0 x1 hS => t_wof (o := v 3 2) lrvn lrvo w2 (by rw [hS 49 (by omega)]; exact w5) (by rw [hS 49 (by omega), hS 50 (by omega)]; exact w6) (by rw [hS 51 (by omega)]; exact w7) ⟨x0, x1⟩) (fun S k1 k2 => ?_)
  -- the virtual store, a year older
  have A79 : ∀ p : Int, 0 ≤ p → p < t 75 4 → agS t (wvF t (t 81)) (t 75 4) 79 p = t 79 p + 1 := fun p p0 p1 => by
    unfold agS
    rw [if_neg (fun q => absurd q.1 (by decide)), if_pos ⟨rfl, p0, p1⟩]
  have Ao : ∀ c : Nat, c ≠ 79 → c ≠ 80 → agS t (wvF t (t 81)) (t 75 4) c = t c := fun c c1 c2 => by
    funext i
    unfold agS
    rw [if_neg (fun q => c2 q.1), if_neg (fun q => c1 q.1)]
  have Sw : ∀ c : Nat, c ≠ 8 → c ≠ 9 → ¬ (47 ≤ c ∧ c ≤ 51) → S c = u c := fun c c1 c2 c3 => by rw [k1 c c1 c2, ew c c3]
  have my : MY S S (agS t (wvF t (t 81)) (t 75 4)) (t 75 4) (t 75 8) 0 := by
    refine ⟨⟨fun _ _ _ _ => rfl, fun _ _ => rfl⟩, ?_, fun p p0 p1 => ?_, fun i i0 i1 => ?_, fun p p0 p1 => ?_, ?_, ?_, n1⟩
    · rw [Ao 75 (by decide) (by decide), Sw 3 (by decide) (by decide) (by decide)]
      have : u 3 1 = t 75 1 ∧ rg (u 3 1) := a2
      exact ⟨this.1, by rw [← this.1]; exact this.2⟩
    · rw [Ao 76 (by decide) (by decide), Ao 77 (by decide) (by decide), Sw 6 (by decide) (by decide) (by decide)]
      have g := a7 p p0 (by show p < u 5 0; omega)
      rw [Int.zero_add] at g
      exact g
    · rw [Ao 76 (by decide) (by decide), Ao 77 (by decide) (by decide), Sw 13 (by decide) (by decide) (by decide)]
      exact a12 i i0 (by show i < u 3 9; omega)
    · have g : u 8 p = t 79 p ∧ 0 ≤ u 8 p ∧ u 8 p ≤ 99 := (a8 p p0 (by show p < u 5 0; omega)).2.1
      rw [A79 p p0 p1, (k2 p p0 p1).1, ew 8 (by decide)]
      omega
    · rw [Ao 75 (by decide) (by decide), Sw 3 (by decide) (by decide) (by decide)]
      exact ⟨rfl, g1.1, by omega, by omega⟩
    · rw [Sw 5 (by decide) (by decide) (by decide)]; exact e5
  refine y92 C r (by decide) my (fun Z hZ => ?_)
  obtain ⟨⟨z1, z1'⟩, z2, z3, z4, z5, z6, z7, z8⟩ := hZ
  rintro s1 hs1
  have Z3 : Z 3 3 = u 3 3 := by rw [z1' 3 (by decide), Sw 3 (by decide) (by decide) (by decide)]
  rw [Z3] at hs1
  have s133 : s1 3 3 = u 3 3 + 1 := by rw [hs1, up_at]
  have s13 : ∀ i : Int, i ≠ 1 → i ≠ 3 → s1 3 i = u 3 i := fun i i1 i2 => by rw [hs1, up_idx i2, z1' i i1, Sw 3 (by decide) (by decide) (by decide)]
  have s1c : ∀ c : Nat, c ≠ 3 → c ≠ 6 → c ≠ 8 → c ≠ 9 → ¬ (47 ≤ c ∧ c ≤ 51) → s1 c = u c := fun c q1 q2 q3 q4 q5 => by rw [hs1, up_row q1, z1 c q1 q2 q3, Sw c q3 q4 q5]
  have y21 : u 3 3 = t 75 21 := a4.1
  have yb0 : 0 ≤ u 3 3 := a4.2.1
  have xr : xrem (s1 3 3) 10 = xrem (t 75 21 + 1) 10 := by rw [s133, y21]
  -- the Land behind the year
  have land : ∀ F : Sto, (∀ c : Nat, c ≠ 3 → ¬ (60 ≤ c ∧ c ≤ 63) → F c = s1 c) → (∀ i : Int, i ≠ 2 → F 3 i = s1 3 i) → OdR (t 75 9) (F 3 2) (yrT (s 75 18) (voF (ovS s) (s 75 9) (s 82 6)) t 81) → ((∀ c : Nat, c ≠ 3 → c ≠ 6 → c ≠ 8 → c ≠ 9 → ¬ (47 ≤ c ∧ c ≤ 51) → ¬ (60 ≤ c ∧ c ≤ 63) → F c = u c) ∧ (∀ i : Int, i ≠ 1 → i ≠ 2 → i ≠ 3 → F 3 i = u 3 i) ∧ F 3 3 = u 3 3 + 1 ∧ @LandR Y' F 3 (yrT (s 75 18) (voF (ovS s) (s 75 9) (s 82 6)) t)) := by
    intro F f1 f2 fo
    have Fc : ∀ c : Nat, c ≠ 3 → c ≠ 6 → c ≠ 8 → c ≠ 9 → ¬ (47 ≤ c ∧ c ≤ 51) → ¬ (60 ≤ c ∧ c ≤ 63) → F c = u c := fun c q1 q2 q3 q4 q5 q6 => by rw [f1 c q1 q6, s1c c q1 q2 q3 q4 q5]
    have F3 : ∀ i : Int, i ≠ 1 → i ≠ 2 → i ≠ 3 → F 3 i = u 3 i := fun i q1 q2 q3 => by rw [f2 i q2, s13 i q1 q3]
    have F33 : F 3 3 = u 3 3 + 1 := by rw [f2 3 (by decide), s133]
    have F31 : F 3 1 = Z 3 1 := by rw [f2 1 (by decide), hs1, up_idx (by decide)]
    have F6 : F 6 = Z 6 := by rw [f1 6 (by decide) (by decide), hs1, up_row (by decide)]
    have F8 : F 8 = Z 8 := by rw [f1 8 (by decide) (by decide), hs1, up_row (by decide)]
    have F9 : F 9 = S 9 := by rw [f1 9 (by decide) (by decide), hs1, up_row (by decide), z1 9 (by decide) (by decide) (by decide)]
    refine ⟨Fc, F3, F33, ?_⟩
    generalize hvo : voF (ovS s) (s 75 9) (s 82 6) = vo at *
    have T75 : ∀ i : Int, i ≠ 1 → i ≠ 21 → yrT (s 75 18) vo t 75 i = t 75 i := fun i q1 q2 => by rw [yrT_75 q1, if_neg q2]
    have T21 : yrT (s 75 18) vo t 75 21 = t 75 21 + 1 := by rw [yrT_75 (by decide), if_pos rfl]
    have To : ∀ c : Nat, c ≠ 75 → c ≠ 76 → c ≠ 77 → c ≠ 79 → c ≠ 80 → c ≠ 81 → yrT (s 75 18) vo t c = t c := fun c q1 q2 q3 q4 q5 q6 => yrT_o q1 q2 q3 q4 q5 q6
    have T81h : ∀ i : Int, 8 ≤ i → yrT (s 75 18) vo t 81 i = t 81 i := fun i hi' => by rw [yrT_81, if_neg (by omega)]
    have K8 : t 75 9 ≤ 8 := by have := a3.1.2; omega
    unfold LandR
    rw [Fc (3 + 1) (by decide) (by decide) (by decide) (by decide) (by decide) (by decide), Fc (3 + 2) (by decide) (by decide) (by decide) (by decide) (by decide) (by decide), Fc (3 + 4) (by decide) (by decide) (by decide) (by decide) (by decide) (by decide), Fc (3 + 7) (by decide) (by decide) (by decide) (by decide) (by decide) (by decide), Fc (3 + 8) (by decide) (by decide) (by decide) (by decide) (by decide) (by decide), Fc (3 + 9) (by decide) (by decide) (by decide) (by decide) (by decide) (by decide), Fc (3 + 10) (by decide) (by decide) (by decide) (by decide) (by decide) (by decide), Fc (3 + 11) (by decide) (by decide) (by decide) (by decide) (by decide) (by decide), Fc (3 + 12) (by decide) (by decide) (by decide) (by decide) (by decide) (by decide), Fc (3 + 13) (by decide) (by decide) (by decide) (by decide) (by decide) (by decide), Fc (3 + 14) (by decide) (by decide) (by decide) (by decide) (by decide) (by decide), Fc (3 + 15) (by decide) (by decide) (by decide) (by decide) (by decide) (by decide), Fc (3 + 16) (by decide) (by decide) (by decide) (by decide) (by decide) (by decide), Fc (3 + 17) (by decide) (by decide) (by decide) (by decide) (by decide) (by decide)]
    rw [F3 0 (by decide) (by decide) (by decide), F3 9 (by decide) (by decide) (by decide), F3 11 (by decide) (by decide) (by decide), F33, T75 9 (by decide) (by decide), T75 22 (by decide) (by decide), T75 4 (by decide) (by decide), T75 8 (by decide) (by decide), T75 18 (by decide) (by decide), T75 30 (by decide) (by decide), T21, hb]
    rw [To 82 (by decide) (by decide) (by decide) (by decide) (by decide) (by decide), To 78 (by decide) (by decide) (by decide) (by decide) (by decide) (by decide), To 83 (by decide) (by decide) (by decide) (by decide) (by decide) (by decide), To 84 (by decide) (by decide) (by decide) (by decide) (by decide) (by decide), To 85 (by decide) (by decide) (by decide) (by decide) (by decide) (by decide), To 86 (by decide) (by decide) (by decide) (by decide) (by decide) (by decide), To 87 (by decide) (by decide) (by decide) (by decide) (by decide) (by decide), To 88 (by decide) (by decide) (by decide) (by decide) (by decide) (by decide), To 89 (by decide) (by decide) (by decide) (by decide) (by decide) (by decide), To 90 (by decide) (by decide) (by decide) (by decide) (by decide) (by decide), To 93 (by decide) (by decide) (by decide) (by decide) (by decide) (by decide), To 94 (by decide) (by decide) (by decide) (by decide) (by decide) (by decide), To 95 (by decide) (by decide) (by decide) (by decide) (by decide) (by decide), To 96 (by decide) (by decide) (by decide) (by decide) (by decide) (by decide), To 97 (by decide) (by decide) (by decide) (by decide) (by decide) (by decide)]
    refine ⟨a1, ?_, ?_, ⟨by omega, by omega, yb, a4.2.2.2⟩, a5, a6, fun p p0 p1 => ?_, fun p p0 p1 => ?_, a9, fun j j0 j1 => ?_, a11, fun p p0 p1 => ?_, a13, fun x x0 x1 => ?_, a15⟩
    · rw [F31, yrT_1]
      exact ⟨z2.1, by rw [z2.1]; exact z2.2⟩
    · have ee : alM 1 (yrT (s 75 18) vo t 81) = yrT (s 75 18) vo t 81 := by
        funext i
        unfold alM
        rw [if_neg (by decide)]
      rw [ee, e30]
      exact fo
    · rw [Int.zero_add, yrT_m (by omega), yrT_m (by omega)]
      have := z3 p p0 (by have : u 5 0 = t 75 4 := e5; have p1' : p < u 5 0 := p1; omega)
      show NmR (F 6 p) _ _
      rw [F6]
      exact this
    · have p1' : p < u 5 0 := p1
      have p4 : p < t 75 4 := by omega
      obtain ⟨b1, b2, b3⟩ := a8 p p0 p1
      refine ⟨b1, ?_, ?_⟩
      · show F 8 p = yrT (s 75 18) vo t 79 p ∧ 0 ≤ F 8 p ∧ F 8 p ≤ 99
        rw [F8, yrT_m (by omega)]
        obtain ⟨q1, q2, q3, q4⟩ := z5 p p0 p4
        have := q4 p4
        omega
      · show F 9 p = yrT (s 75 18) vo t 80 p ∧ rg (F 9 p)
        have b3' : u 9 p = t 80 p ∧ rg (u 9 p) := b3
        rw [F9, (k2 p p0 p4).2, yrT_80 ⟨p0, p4⟩, ew 9 (by decide), b3'.1]
        exact ⟨rfl, wr_rg _⟩
    · obtain ⟨b1, b2⟩ := a10 j j0 j1
      refine ⟨b1, ?_⟩
      rcases b2 with q | ⟨q, q2⟩
      · exact Or.inl q
      · exact Or.inr ⟨q, q2.congr (fun k k0 k1 => T81h _ (by omega))⟩
    · rw [yrT_m (by omega), yrT_m (by omega)]
      have p1' : p < u 3 9 := p1
      have := z4 p p0 (by omega)
      rw [Sw 13 (by decide) (by decide) (by decide)] at this
      exact this
    · obtain ⟨b1, b2, b3⟩ := a14 x x0 x1
      exact ⟨b1.congr (fun k k0 k1 => T81h _ (by omega)), b2, b3⟩
  refine ⟨fun z => ?_, fun z => ⟨5, _, by decide, @t_ordBy2 Y s s1 hi (by rw [s13 0 (by decide) (by decide), c0]) (by rw [s13 11 (by decide) (by decide), c11]) (by rw [s1c 14 (by decide) (by decide) (by decide) (by decide) (by decide), c14]) (by rw [s1c 15 (by decide) (by decide) (by decide) (by decide) (by decide), c15]) (s1 4 6) (by rw [s1c 4 (by decide) (by decide) (by decide) (by decide) (by decide), c6]; exact r6), ?_⟩⟩
  · rw [xr] at z
    refine land s1 (fun _ _ _ => rfl) (fun _ _ => rfl) ?_
    rw [s13 2 (by decide) (by decide)]
    refine (show OdR (t 75 9) (u 3 2) (t 81) from by rw [← e30]; exact a3).congr (fun k k0 k1' => ?_)
    rw [yrT_81, if_neg (fun q => z q.1)]
  · rw [xr] at z
    rw [s1c 4 (by decide) (by decide) (by decide) (by decide) (by decide), c6]
    rintro o x ⟨x1, x2, x3⟩
    rintro F hF
    refine land F (fun c c1 c2 => by rw [hF, up_row c1, x1 c c2]) (fun i hi' => by rw [hF, up_idx hi', x1 3 (by decide)]) ?_
    have F32 : F 3 2 = o := by rw [hF, up_at]
    rw [F32]
    have K9 : s 75 9 = t 75 9 := by rw [← e30, c0, vts.1.1]
    have K8 : t 75 9 ≤ 8 := by have := a3.1.2; omega
    by_cases q0 : s 75 18 = 0
    · rw [x2 q0, s13 2 (by decide) (by decide)]
      refine (show OdR (t 75 9) (u 3 2) (t 81) from by rw [← e30]; exact a3).congr (fun k k0 k1' => ?_)
      rw [yrT_81, if_pos (show xrem (t 75 21 + 1) 10 = 0 ∧ 0 ≤ k ∧ k < 8 from ⟨z, k0, by omega⟩), if_pos q0]
    · have := x3 q0
      rw [K9] at this ⊢
      refine this.congr (fun k k0 k1' => ?_)
      rw [yrT_81, if_pos (show xrem (t 75 21 + 1) 10 = 0 ∧ 0 ≤ k ∧ k < 8 from ⟨z, k0, by omega⟩), if_neg q0]
