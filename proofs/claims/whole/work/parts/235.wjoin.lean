/-! WORTH WITH ANOTHER NAME: both count the same ones ahead -/
theorem with_join {s : Sto} (h : NMS s) {o p a : Int} {od pl pl' key : Int → Int} (hO : OdR (s 75 9) o od) (P1 : PlR (s 75 9) od pl) (P2 : PlR (s 75 9) od pl') (hp : 0 ≤ p ∧ p < s 75 4) (hna : (0 ≤ s 76 a ∧ s 76 a ≤ 6) ∧ ∀ i : Int, 0 ≤ i → i < s 76 a → 0 ≤ s 77 (6 * a + i) ∧ s 77 (6 * a + i) < 26) (hk : ∀ q : Int, 0 ≤ q → q < s 75 4 → key q = if q = p then keyN 6 (sfx (rkF (s 75 9) (s 82 0) pl) (fun i => s 77 (6 * a + i)) (s 76 a) (s 76 a).toNat) else keyN 6 (sqS s pl q)) : cntI (fun q => q ≠ p ∧ KR key (s 82 1) (s 79) (s 80) q p) (s 75 4).toNat = cntI (fun q => q ≠ p ∧ KR (fun q => keyN 6 (sqS (mvN s a p) pl' q)) (s 82 1) (s 79) (s 80) q p) (s 75 4).toNat := by
  obtain ⟨n1, n2, n3, n4, n5⟩ := h
  have rk : ∀ l : Int, 0 ≤ l → rkF (s 75 9) (s 82 0) pl l = rkF (s 75 9) (s 82 0) pl' l := by
    intro l l0
    unfold rkF
    by_cases q : l < s 75 9
    · rw [if_pos q, if_pos q, P1.uniq P2 hO l0 q]
    · rw [if_neg q, if_neg q]
  have ke : ∀ q : Int, 0 ≤ q → q < s 75 4 → key q = keyN 6 (sqS (mvN s a p) pl' q) := by
    intro q q0 q1
    rw [hk q q0 q1]
    show _ = keyN 6 (sfx (rkF (mvN s a p 75 9) (mvN s a p 82 0) pl') (fun i => mvN s a p 77 (6 * q + i)) (mvN s a p 76 q) (mvN s a p 76 q).toNat)
    rw [mvN_o (c := 75) (by decide) (by decide), mvN_o (c := 82) (by decide) (by decide), mvN_76, mvN_77]
    show _ = keyN 6 (sfx (rkF (s 75 9) (s 82 0) pl') (fun i => if 6 * p ≤ 6 * q + i ∧ 6 * q + i < 6 * p + 6 then s 77 (6 * a + (6 * q + i - 6 * p)) else s 77 (6 * q + i)) (if q = p then s 76 a else s 76 q) (if q = p then s 76 a else s 76 q).toNat)
    by_cases z : q = p
    · rw [if_pos z, if_pos z]
      refine congrArg (keyN 6) (sfx_congr _ (by omega) (fun k k0 k1 => ?_))
      show _ = rkF (s 75 9) (s 82 0) pl' (if 6 * p ≤ 6 * q + k ∧ 6 * q + k < 6 * p + 6 then s 77 (6 * a + (6 * q + k - 6 * p)) else s 77 (6 * q + k))
      rw [if_pos (by omega), show 6 * a + (6 * q + k - 6 * p) = 6 * a + k by omega]
      exact rk _ (hna.2 k k0 k1).1
    · rw [if_neg z, if_neg z]
      have g := n2 q q0 q1
      refine congrArg (keyN 6) (sfx_congr _ (by omega) (fun k k0 k1 => ?_))
      show _ = rkF (s 75 9) (s 82 0) pl' (if 6 * p ≤ 6 * q + k ∧ 6 * q + k < 6 * p + 6 then s 77 (6 * a + (6 * q + k - 6 * p)) else s 77 (6 * q + k))
      rw [if_neg (by omega)]
      exact rk _ (g.2 k k0 k1).1
  refine cntI_congr _ (fun q q0 q1 => ?_)
  unfold KR
  rw [ke q q0 (by omega), ke p hp.1 hp.2]
