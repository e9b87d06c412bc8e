/-! A YEAR, in the reference: its store S beside the virtual store T -/
def qyP (K : Int) (c : Nat) (i : Int) : Prop := 75 ≤ c ∧ ¬ (99 ≤ c ∧ c ≤ 117) ∧ ¬ (c = 75 ∧ i = 58) ∧ ¬ (c = 81 ∧ ((K ≤ i ∧ i < 8) ∨ (160 ≤ i ∧ i < 168)))
def QY (K : Int) (S T : Sto) : Prop := ∀ (c : Nat) (i : Int), qyP K c i → S c i = T c i
theorem QY.c {K : Int} {S T : Sto} (h : QY K S T) {c : Nat} (h1 : 76 ≤ c) (h2 : ¬ (99 ≤ c ∧ c ≤ 117)) (h3 : c ≠ 81) : S c = T c := funext (fun i => h c i ⟨by omega, h2, by omega, by omega⟩)
theorem QY.f {K : Int} {S T : Sto} (h : QY K S T) {i : Int} (h1 : i ≠ 58) : S 75 i = T 75 i := h 75 i ⟨by omega, by omega, by omega, by omega⟩
theorem QY.o {K : Int} {S T : Sto} (h : QY K S T) {i : Int} (h1 : ¬ (K ≤ i ∧ i < 8)) (h2 : ¬ (160 ≤ i ∧ i < 168)) : S 81 i = T 81 i := h 81 i ⟨by omega, by omega, by omega, by omega⟩
theorem QY.up {K : Int} {S T : Sto} (h : QY K S T) {c : Nat} {i v : Int} : QY K (up S c i v) (up T c i v) := by
  intro c' i' hp
  by_cases q : c' = c ∧ i' = i
  · rw [q.1, q.2, up_at, up_at]
  · rw [up_ne (by omega), up_ne (by omega)]
    exact h c' i' hp
theorem QY.work {K : Int} {S S' T : Sto} (h : QY K S T) (e : ∀ c : Nat, 75 ≤ c → ¬ (99 ≤ c ∧ c ≤ 117) → S' c = S c) : QY K S' T := fun c i hp => by rw [e c hp.1 hp.2.1]; exact h c i hp
theorem QY.mv {K : Int} {S T : Sto} (h : QY K S T) {a b : Int} : QY K (mvN S a b) (mvN T a b) := by
  have e76 := h.c (c := 76) (by decide) (by decide) (by decide)
  have e77 := h.c (c := 77) (by decide) (by decide) (by decide)
  intro c i hp
  by_cases q : c = 77 ∧ 6 * b ≤ i ∧ i < 6 * b + 6
  · obtain ⟨rfl, q⟩ := q
    unfold mvN
    rw [fillR_in q, fillR_in q, e77]
  · unfold mvN
    have out : ∀ (R : Sto) (g : Int → Int), fillR R 77 (6 * b) 6 g c i = R c i := fun R g => if_neg q
    rw [out, out, e76]
    exact h.up c i hp
theorem QY.sam {K : Int} {S T : Sto} (h : QY K S T) : samN T S := ⟨fun c c1 c2 c3 _ _ => h.c c1 (by omega) c3, h.f (by decide), h.f (by decide), h.f (by decide)⟩
theorem bnS_79 {T : Sto} {p x : Int} : bnS T p 79 x = if x = p ∧ 99 < T 79 p then 0 else T 79 x := by
  unfold bnS
  by_cases q : 99 < T 79 p
  · rw [if_pos q]
    have e : up T 79 p 0 79 x = if x = p ∧ 99 < T 79 p then 0 else T 79 x := by
      rw [up_if]
      by_cases q2 : x = p
      · rw [if_pos q2, if_pos ⟨q2, q⟩]
      · rw [if_neg q2, if_neg (fun z => q2 z.1)]
    split
    · rw [mvN_o (by decide) (by decide), up_row (by decide)]; exact e
    · exact e
  · rw [if_neg q, if_neg (fun z => q z.2)]
theorem yg7 {X : Cx} {d : Nat} {P : Sto → Prop} (C : Ok LY X RX12 cX12_yearGoes 2 d) (r : RetV LY X cX12_yearGoes P) {u : Sto} {W : Int → Int} {n : Int} (hn : u 75 4 = n) (n20 : 0 ≤ n ∧ n ≤ 20) (hW : ∀ p : Int, 0 ≤ p → p < n → u 103 p = W p) (cont : ∀ S : Sto, (∀ c : Nat, c ≠ 79 → c ≠ 80 → S c = u c) → (∀ p : Int, S 79 p = if 0 ≤ p ∧ p < n then u 79 p + 1 else u 79 p) → (∀ p : Int, S 80 p = if 0 ≤ p ∧ p < n then wr (u 80 p + W p) else u 80 p) → G LY X 56 [rv 75, iv 0] [] S) : G LY X 7 [rv 75, iv 0] [] u := by
  have rn : rg n := ⟨by omega, by omega⟩
  have key : ∀ S : Sto, (∀ c : Nat, c ≠ 79 → c ≠ 80 → S c = u c) → (∀ p : Int, S 79 p = if 0 ≤ p ∧ p < 0 then u 79 p + 1 else u 79 p) → (∀ p : Int, S 80 p = if 0 ≤ p ∧ p < 0 then wr (u 80 p + W p) else u 80 p) → G LY X 7 [rv 75, iv 0] [] S := by
    refine downI (P := fun k => ∀ S : Sto, (∀ c : Nat, c ≠ 79 → c ≠ 80 → S c = u c) → (∀ p : Int, S 79 p = if 0 ≤ p ∧ p < k then u 79 p + 1 else u 79 p) → (∀ p : Int, S 80 p = if 0 ≤ p ∧ p < k then wr (u 80 p + W p) else u 80 p) → G LY X 7 [rv 75, iv k] [] S) (a := 0) (b := n) n20.1 ?_ ?_
    · intro S k1 k2 k3
      refine kb_X12_yearGoes_7 C r ?_
      rw [k1 75 (by decide) (by decide), hn]
      exact ⟨⟨rn, rn⟩, fun _ => cont S k1 k2 k3, fun z => absurd z (by omega)⟩
    · intro k k0 kn ih S k1 k2 k3
      refine kb_X12_yearGoes_7 C r ?_
      rw [k1 75 (by decide) (by decide), hn]
      refine ⟨⟨⟨by omega, by omega⟩, rn⟩, fun z => absurd z (by omega), fun _ => ⟨⟨by omega, by omega⟩, ⟨by omega, by omega⟩, ⟨by omega, by omega⟩, ?_⟩⟩
      have e80 : S 80 k = u 80 k := by rw [k3, if_neg (by omega)]
      have e79 : S 79 k = u 79 k := by rw [k2, if_neg (by omega)]
      have e103 : S 103 k = W k := by rw [k1 103 (by decide) (by decide), hW k k0 kn]
      rw [e80, e103]
      rintro s1 h1
      refine ⟨⟨by omega, by omega⟩, ⟨by omega, by omega⟩, ?_⟩
      have f79 : s1 79 k = u 79 k := by rw [h1, up_row (by decide), e79]
      rw [f79]
      rintro s2 h2
      refine G_sto (s' := up (up S 80 k (wr (u 80 k + W k))) 79 k (u 79 k + 1)) (fun c i => ?_) ?_
      · rw [h2, h1]
        by_cases q8 : c = 79
        · subst q8
          rw [up_if, up_if, up_row (by decide), up_row (by decide)]
        · rw [up_row q8, up_row q8]
          by_cases q9 : c = 80
          · subst q9
            rw [up_if, up_if]
            by_cases e : i = k
            · rw [if_pos e, if_pos e, wr_of]
            · rw [if_neg e, if_neg e]
          · rw [up_row q9, up_row q9]
      · refine ih _ (fun c c1 c2 => by rw [up_row c1, up_row c2, k1 c c1 c2]) (fun p => ?_) (fun p => ?_)
        · rw [up_if, up_row (by decide), k2]
          by_cases e : p = k
          · rw [if_pos e, e, if_pos (by omega)]
          · rw [if_neg e]
            by_cases e2 : 0 ≤ p ∧ p < k
            · rw [if_pos e2, if_pos (by omega)]
            · rw [if_neg e2, if_neg (by omega)]
        · rw [up_row (by decide), up_if, k3]
          by_cases e : p = k
          · rw [if_pos e, e, if_pos (by omega)]
          · rw [if_neg e]
            by_cases e2 : 0 ≤ p ∧ p < k
            · rw [if_pos e2, if_pos (by omega)]
            · rw [if_neg e2, if_neg (by omega)]
  exact key u (fun _ _ _ => rfl) (fun p => by rw [if_neg (by omega)]) (fun p => by rw [if_neg (by omega)])
set_option maxHeartbeats 4000000 in
theorem yg56 {X : Cx} {d : Nat} {P : Sto → Prop} (C : Ok LY X RX12 cX12_yearGoes 2 d) (r : RetV LY X cX12_yearGoes P) (hd : 1 ≤ d) {u T : Sto} {n g K : Int} (q : QY K u T) (h4 : T 75 4 = n) (n20 : 0 ≤ n ∧ n ≤ 20) (h8 : T 75 8 = g) (hg : 0 ≤ g ∧ g ≤ 10) (ages : ∀ p : Int, 0 ≤ p → p < n → 0 ≤ T 79 p ∧ T 79 p ≤ 100) (cont : ∀ S : Sto, (∀ c : Nat, c ≤ 74 → S c = u c) → QY K S (bnA T n.toNat) → ∀ s1 : Sto, s1 = up S 75 21 (S 75 21 + 1) → ((xrem (s1 75 21) 10 ≤ 0 → ∀ s2 : Sto, s2 = up s1 75 58 0 → CallV LY d MX12_findsVote [.inr 75, .inl (s2 82 6)] s2 (fun s3 => CallV LY d MX12_movesOrder [.inr 75, .inl 20, .inl 0] s3 (fun s4 => P s4))) ∧ (0 < xrem (s1 75 21) 10 → P s1))) : G LY X 56 [rv 75, iv 0] [] u := by
  have rn : rg n := ⟨by omega, by omega⟩
  have key : ∀ S : Sto, (∀ c : Nat, c ≤ 74 → S c = u c) → QY K S (bnA T (0 : Int).toNat) → (∀ p : Int, 0 ≤ p → p < n → 0 ≤ bnA T (0 : Int).toNat 79 p ∧ bnA T (0 : Int).toNat 79 p ≤ 100) → G LY X 56 [rv 75, iv 0] [] S := by
    refine downI (P := fun k => ∀ S : Sto, (∀ c : Nat, c ≤ 74 → S c = u c) → QY K S (bnA T k.toNat) → (∀ p : Int, 0 ≤ p → p < n → 0 ≤ bnA T k.toNat 79 p ∧ bnA T k.toNat 79 p ≤ 100) → G LY X 56 [rv 75, iv k] [] S) (a := 0) (b := n) n20.1 ?_ ?_
    · intro S k1 k2 k3
      have s4 : S 75 4 = n := by rw [k2.f (by decide), bnA_75 (by decide), h4]
      refine kb_X12_yearGoes_56 C r ?_
      rw [s4]
      exact ⟨⟨rn, rn⟩, fun _ => cont S k1 k2, fun z => absurd z (by omega)⟩
    · intro k k0 kn ih S k1 k2 k3
      have s4 : S 75 4 = n := by rw [k2.f (by decide), bnA_75 (by decide), h4]
      have s79 : S 79 k = bnA T k.toNat 79 k := by rw [k2.c (by decide) (by decide) (by decide)]
      have t8 : bnA T k.toNat 75 8 = g := by rw [bnA_75 (by decide), h8]
      rw [bnA_s T k0] at ih
      generalize bnA T k.toNat = R at *
      obtain ⟨a0, a1⟩ := k3 k k0 kn
      have ages' : ∀ p : Int, 0 ≤ p → p < n → 0 ≤ bnS R k 79 p ∧ bnS R k 79 p ≤ 100 := fun p p0 p1 => by
        rw [bnS_79]
        have := k3 p p0 p1
        split <;> omega
      refine kb_X12_yearGoes_56 C r ?_
      rw [s4, s79]
      refine ⟨⟨⟨by omega, by omega⟩, rn⟩, fun z => absurd z (by omega), fun _ => ⟨⟨by omega, by omega⟩, ⟨by omega, by omega⟩, fun z => ⟨⟨by omega, by omega⟩, ?_⟩, fun z => ?_⟩⟩
      · rintro s5 h5
        have q5 : QY K s5 (up R 79 k 0) := by rw [h5]; exact k2.up
        have l5 : ∀ c : Nat, c ≤ 74 → s5 c = u c := fun c hc => by rw [h5, up_row (by omega), k1 c hc]
        have s8 : s5 75 8 = g := by rw [q5.f (by decide), up_row (by decide), t8]
        have s1 : s5 75 1 = R 75 1 := by rw [q5.f (by decide), up_row (by decide)]
        rw [s8]
        refine ⟨⟨by omega, by omega⟩, fun z2 => ?_, fun z2 => ⟨0, _, by omega, t_X12_draw ⟨z2, by omega⟩, ?_⟩⟩
        · have e : bnS R k = up R 79 k 0 := by unfold bnS; rw [if_pos z, if_neg (by omega)]
          exact ih s5 l5 (by rw [e]; exact q5) ages'
        · rintro v s6 ⟨h6, hv⟩
          rw [s1] at h6 hv
          have vb := drV_bd (x := R 75 1) (g := g) ⟨z2, by omega⟩
          rw [← hv] at vb
          refine ⟨0, _, by omega, t_X12_movesName (a := 20 + v) (b := k) (by omega) (by omega) (by omega), ?_⟩
          rintro s7 h7
          have h7' : s7 = mvN s6 (20 + v) k := h7
          have e : bnS R k = mvN (up (up R 79 k 0) 75 1 (drX (R 75 1))) (20 + v) k := by
            unfold bnS
            rw [if_pos z, if_pos (by omega), t8, hv]
          refine ih s7 (fun c hc => by rw [h7', mvN_o (by omega) (by omega), h6, up_row (by omega), l5 c hc]) ?_ ages'
          rw [h7', e, h6]
          exact q5.up.mv
      · have e : bnS R k = R := by unfold bnS; rw [if_neg (by omega)]
        exact ih S k1 (by rw [e]; exact k2) ages'
  exact key u (fun _ _ => rfl) q ages
theorem t_voteM2 [Inhabited YT] {s t : Sto} (h : Inv s) (hb : t 75 22 = 1) (e75 : ∀ i : Int, i = 9 ∨ i = 18 ∨ i = 59 → t 75 i = s 75 i) (e58 : t 75 58 = 0) (e81 : ∀ i : Int, 56 ≤ i → i < 152 → t 81 i = s 81 i) (e89 : t 89 = s 89) {rule : Int} (hr : rg rule) : ClV LY 2 MX12_findsVote [.inr 75, .inl rule] t (fun s' => (∀ c : Nat, c ≠ 81 → c ≠ 101 → c ≠ 110 → c ≠ 111 → c ≠ 112 → s' c = t c) ∧ (∀ i : Int, ¬ (160 ≤ i ∧ i < 168) → s' 81 i = t 81 i) ∧ ∀ i : Int, 0 ≤ i → i < s 75 9 → s' 81 (160 + i) = if s 75 18 = 0 then t 81 i else voF (ovS s) (s 75 9) rule i) := by
  obtain ⟨v1, v2, v3, v4⟩ := h.vts
  have r59 : rg (s 75 59) := h.2.2.2.2.2.1
  have bt : begS t = t := begS_1 hb
  by_cases q : s 75 18 = 0
  · refine ClV.intro (by decide) rfl (Nat.le_of_ble_eq_true rfl) (fun X C r => ?_)
    refine kb_X12_findsVote_0 C r ⟨0, _, by decide, t_X12_begins (Or.inr hb), ?_⟩
    rintro u hu
    rw [bt] at hu
    subst hu
    rw [e75 18 (by omega), q]
    refine ⟨by decide, fun z => absurd rfl z, fun _ => ⟨0, _, by decide, t_X12_movesOrder (by decide) (by decide) (by decide), ?_⟩⟩
    rintro x hx
    refine ⟨fun c c1 _ _ _ _ => by rw [hx, fillR_row c1], fun i hi => by rw [hx, fillR_out (by omega)], fun i i0 i1 => ?_⟩
    rw [hx, fillR_in (by omega), show 8 * 0 + (160 + i - 8 * 20) = i by omega, if_pos rfl]
  · have ov := ov_eq h (e75 9 (by omega)) e58 e81 e89
    refine (t_findsV (s := t) (K := s 75 9) (n := s 75 18) (Or.inr hb) (e75 9 (by omega)) (e75 18 (by omega)) v2 (by omega) hr (by rw [e75 59 (by omega)]; exact r59) (fun v i v0 v1' i0 i1 => ?_) (fun v v0 v1' => by rw [e89]; exact (v4 v v0 v1').2.1.2) (fun v v0 v1' => ?_)).mono ?_
    · rw [e81 _ (by omega) (by omega)]
      have : 0 ≤ s 81 (8 * (7 + v) + i) ∧ s 81 (8 * (7 + v) + i) < s 75 9 := (v4 v v0 v1').1.2.1 i i0 i1
      exact ⟨by omega, by omega⟩
    · have e : pvS t v = fun l => atF (fun i => s 81 (8 * (7 + v) + i)) l (s 75 9).toNat := funext (fun l => pv_eq h (e75 9 (by omega)) e58 e81 v0 v1')
      rw [e]
      exact (v4 v v0 v1').1.pbj
    · rw [ov, bt]
      rintro x ⟨x1, x2, x3⟩
      refine ⟨x1, x2, fun i i0 i1 => ?_⟩
      rw [x3 i i0 i1, if_neg q]
set_option maxHeartbeats 8000000 in
theorem t_yearGoes {Y Y' : Inhabited YT} {s u S T : Sto} (hi : @Inv Y s) (h : @LandR Y' u 3 T) (hb : T 75 22 = 1) (e9 : ∀ c : Nat, 93 ≤ c → c ≤ 97 → T c = u c) (eu : ∀ c : Nat, 17 ≤ c → c ≤ 20 → S c = u c) (hbS : S 75 22 = 0 ∨ S 75 22 = 1) (q : QY (s 75 9) (begS S) T) (t9 : T 75 9 = s 75 9) (t18 : T 75 18 = s 75 18) (t59 : T 75 59 = s 75 59) (t81 : ∀ i : Int, 8 ≤ i → T 81 i = s 81 i) (t89 : T 89 = s 89) (t82 : T 82 6 = s 82 6) : ClV LY 5 MX12_yearGoes [.inr 75] S (fun s' => (∀ c : Nat, c ≤ 74 → s' c = S c) ∧ QY (s 75 9) s' (yrT (s 75 18) (voF (ovS s) (s 75 9) (s 82 6)) T)) := by
  obtain ⟨lr, hN⟩ := @LandR.lr Y' u T h e9
  have vts := @Inv.vts Y s hi
  have yb : u 3 3 = T 75 21 ∧ 0 ≤ u 3 3 ∧ u 3 3 ≤ 2147483000 := ⟨h.2.2.2.1.1, h.2.2.2.1.2.1, by have := h.2.2.2.1.2.2; omega⟩
  have g1 : u 3 9 = T 75 8 ∧ 0 ≤ u 3 9 ∧ u 3 9 ≤ 10 := h.2.2.2.2.2.2.2.2.2.2.1
  have r6 : rg (s 82 6) := by
    have := lr.2.2.1 6 (by decide) (by decide)
    have b0 : u 4 6 = T 82 6 := this.1
    have b1 : (0 : Int) ≤ u 4 6 := this.2.1
    have b2 : u 4 6 ≤ 2 := this.2.2
    exact ⟨by omega, by omega⟩
  have eal : alM (T 75 22) (T 81) = T 81 := by
    funext i
    unfold alM
    rw [if_neg (by omega)]
  rw [eal] at lr
  have ages0 : ∀ p : Int, 0 ≤ p → p < T 75 4 → 0 ≤ T 79 p ∧ T 79 p ≤ 99 := fun p p0 p1 => by
    have g : u 8 p = T 79 p ∧ 0 ≤ u 8 p ∧ u 8 p ≤ 99 := (h.2.2.2.2.2.2.2.1 p p0 (by have : u 5 0 = T 75 4 := h.2.2.2.2.2.1.1; show p < u 5 0; omega)).2.1
    omega
  have K8 := vts.2.1
  have od_e : ∀ k : Int, 0 ≤ k → k < T 75 9 → begS S 81 k = T 81 k := fun k k0 k1 => q.o (by omega) (by omega)
  have s9 : S 75 9 = T 75 9 := by rw [← q.f (by decide), begS_75 (by decide)]
  have qs : samN T S := ⟨fun c c1 c2 c3 c4 c5 => by rw [← q.sam.1 c c1 c2 c3 c4 c5, begS_row (by omega) c3], by rw [← q.sam.2.1, begS_75 (by decide)], by rw [← q.sam.2.2.1, begS_75 (by decide)], by rw [← q.sam.2.2.2, begS_75 (by decide)]⟩
  have lrS := lr.sam qs
  have lrS2 : LR u S (begS S 81) := ⟨lrS.1, (by rw [s9]; exact (show OdR (T 75 9) (u 3 2) (T 81) from lr.2.1).congr od_e), lrS.2.2⟩
  have lm : LM u S (begS S 81) := ⟨lrS2, ⟨hbS, fun i => by rw [show 8 * 0 + i = i by omega]⟩, eu⟩
  have n1 : 0 ≤ T 75 4 ∧ T 75 4 ≤ 20 := lr.nms.1
  have wve : ∀ p : Int, wvF S (begS S 81) p = wvF T (T 81) p := fun p => by rw [qs.wv, wvF_od od_e]
  refine ClV.intro (by decide) rfl (Nat.le_of_ble_eq_true rfl) (fun X C r => ?_)
  refine kb_X12_yearGoes_0 C r ⟨4, _, by decide, t_fwM lm (o := 0) (oo := u 3 2) (oq := begS S 81) (by decide) lm.2.1.2 lrS2.2.1, ?_⟩
  rintro a ⟨a1, a2, _⟩
  have s4 : S 75 4 = T 75 4 := qs.2.1
  rw [s4] at a2
  have qa : QY (s 75 9) a T := q.work (fun c _ c2 => a1 c (by omega) (by omega) (by omega))
  refine yg7 C r (W := wvF T (T 81)) (n := T 75 4) (by rw [qa.f (by decide)]) n1 (fun p p0 p1 => by rw [a2 p p0 p1, wve]) (fun b b1 b2 b3 => ?_)
  have qb : QY (s 75 9) b (agS T (wvF T (T 81)) (T 75 4)) := by
    intro c i hp
    unfold agS
    by_cases q8 : c = 80
    · subst q8
      rw [b3, qa 80 i hp]
      by_cases z : 0 ≤ i ∧ i < T 75 4
      · rw [if_pos z, if_pos ⟨rfl, z⟩]
      · rw [if_neg z, if_neg (fun z2 => z z2.2), if_neg (fun z2 => absurd z2.1 (by decide))]
    · rw [if_neg (fun z => q8 z.1)]
      by_cases q9 : c = 79
      · subst q9
        rw [b2, qa 79 i hp]
        by_cases z : 0 ≤ i ∧ i < T 75 4
        · rw [if_pos z, if_pos ⟨rfl, z⟩]
        · rw [if_neg z, if_neg (fun z2 => z z2.2)]
      · rw [if_neg (fun z => q9 z.1), b1 c q9 q8]
        exact qa c i hp
  have A75 : agS T (wvF T (T 81)) (T 75 4) 75 = T 75 := by
    funext i
    unfold agS
    rw [if_neg (fun z => absurd z.1 (by decide)), if_neg (fun z => absurd z.1 (by decide))]
  have A79 : ∀ p : Int, 0 ≤ p → p < T 75 4 → agS T (wvF T (T 81)) (T 75 4) 79 p = T 79 p + 1 := fun p p0 p1 => by
    unfold agS
    rw [if_neg (fun z => absurd z.1 (by decide)), if_pos ⟨rfl, p0, p1⟩]
  refine yg56 C r (by decide) qb (n := T 75 4) (g := T 75 8) (by rw [A75]) n1 (by rw [A75]) (by omega) (fun p p0 p1 => by rw [A79 p p0 p1]; have := ages0 p p0 p1; omega) (fun c c1 c2 => ?_)
  have lo : ∀ k : Nat, k ≤ 74 → c k = S k := fun k hk => by rw [c1 k hk, b1 k (by omega) (by omega), a1 k (by omega) (by omega) (by omega), begS_row (by omega) (by omega)]
  have To : ∀ k : Nat, k ≠ 75 → k ≠ 76 → k ≠ 77 → k ≠ 79 → k ≠ 80 → bnA (agS T (wvF T (T 81)) (T 75 4)) (T 75 4).toNat k = T k := fun k k1 k2 k3 k4 k5 => by
    rw [bnA_o k1 k2 k3 k4]
    funext i
    unfold agS
    rw [if_neg (fun z => k5 z.1), if_neg (fun z => k4 z.1)]
  have T75 : ∀ i : Int, i ≠ 1 → bnA (agS T (wvF T (T 81)) (T 75 4)) (T 75 4).toNat 75 i = T 75 i := fun i hi' => by rw [bnA_75 hi', A75]
  have c21 : c 75 21 = T 75 21 := by rw [c2.f (by decide), T75 21 (by decide)]
  rw [c21]
  have xr : xrem (T 75 21 + 1) 10 = (T 75 21 + 1) % 10 := xrem10 (by omega)
  rintro s1 h1
  have s121 : s1 75 21 = T 75 21 + 1 := by rw [h1, up_at]
  have q1 : QY (s 75 9) s1 (up (bnA (agS T (wvF T (T 81)) (T 75 4)) (T 75 4).toNat) 75 21 (T 75 21 + 1)) := by rw [h1]; exact c2.up
  have lo1 : ∀ k : Nat, k ≤ 74 → s1 k = S k := fun k hk => by rw [h1, up_row (by omega), lo k hk]
  have To1 : ∀ k : Nat, k ≠ 75 → k ≠ 76 → k ≠ 77 → k ≠ 79 → k ≠ 80 → up (bnA (agS T (wvF T (T 81)) (T 75 4)) (T 75 4).toNat) 75 21 (T 75 21 + 1) k = T k := fun k k1 k2 k3 k4 k5 => by rw [up_row k1, To k k1 k2 k3 k4 k5]
  have T751 : ∀ i : Int, i ≠ 1 → i ≠ 21 → up (bnA (agS T (wvF T (T 81)) (T 75 4)) (T 75 4).toNat) 75 21 (T 75 21 + 1) 75 i = T 75 i := fun i i1 i2 => by rw [up_idx i2, T75 i i1]
  rw [s121]
  have yr_e : yrT (s 75 18) (voF (ovS s) (s 75 9) (s 82 6)) T = if xrem (T 75 21 + 1) 10 = 0 then fillR (up (bnA (agS T (wvF T (T 81)) (T 75 4)) (T 75 4).toNat) 75 21 (T 75 21 + 1)) 81 0 8 (fun i => if s 75 18 = 0 then T 81 i else voF (ovS s) (s 75 9) (s 82 6) i) else up (bnA (agS T (wvF T (T 81)) (T 75 4)) (T 75 4).toNat) 75 21 (T 75 21 + 1) := rfl
  rw [yr_e]
  generalize up (bnA (agS T (wvF T (T 81)) (T 75 4)) (T 75 4).toNat) 75 21 (T 75 21 + 1) = R at *
  refine ⟨fun z => ?_, fun z => ⟨lo1, by rw [if_neg (by omega)]; exact q1⟩⟩
  have z0 : xrem (T 75 21 + 1) 10 = 0 := by omega
  rw [if_pos z0]
  rintro s2 h2
  have q2 : QY (s 75 9) s2 R := fun k i hp => by rw [h2, up_ne (by have := hp.2.2.1; omega)]; exact q1 k i hp
  have e826 : s2 82 6 = s 82 6 := by rw [q2.c (by decide) (by decide) (by decide), To1 82 (by decide) (by decide) (by decide) (by decide) (by decide), t82]
  rw [e826]
  have o2 : ∀ i : Int, ¬ (s 75 9 ≤ i ∧ i < 8) → ¬ (160 ≤ i ∧ i < 168) → s2 81 i = T 81 i := fun i i1 i2 => by rw [q2.o i1 i2, To1 81 (by decide) (by decide) (by decide) (by decide) (by decide)]
  refine ⟨2, _, by decide, @t_voteM2 Y s s2 hi (by rw [q2.f (by decide), T751 22 (by decide) (by decide), hb]) (fun i hi' => ?_) (by rw [h2, up_at]) (fun i i1 i2 => by rw [o2 i (by omega) (by omega), t81 i (by omega)]) (by rw [q2.c (by decide) (by decide) (by decide), To1 89 (by decide) (by decide) (by decide) (by decide) (by decide), t89]) _ r6, ?_⟩
  · rcases hi' with rfl | rfl | rfl
    · rw [q2.f (by decide), T751 9 (by decide) (by decide), t9]
    · rw [q2.f (by decide), T751 18 (by decide) (by decide), t18]
    · rw [q2.f (by decide), T751 59 (by decide) (by decide), t59]
  rintro s3 ⟨v1, v2, v3⟩
  refine ⟨0, _, by decide, t_X12_movesOrder (by decide) (by decide) (by decide), ?_⟩
  rintro s4 h4
  refine ⟨fun k hk => by rw [h4, fillR_row (by omega), v1 k (by omega) (by omega) (by omega) (by omega) (by omega), h2, up_row (by omega), lo1 k hk], ?_⟩
  intro k i hp
  rw [h4]
  by_cases k81 : k = 81
  · subst k81
    have hp4 := hp.2.2.2
    by_cases q8 : 0 ≤ i ∧ i < 8
    · have iK : i < s 75 9 := by omega
      rw [fillR_in (by omega), fillR_in (by omega), show 8 * 20 + (i - 8 * 0) = 160 + i by omega, show i - 0 = i by omega, v3 i q8.1 iK, o2 i (by omega) (by omega)]
    · rw [fillR_out (by omega), fillR_out (by omega), v2 i (by omega)]
      exact q2 81 i hp
  · rw [fillR_row k81, fillR_row k81, v1 k k81 (by have := hp.2.1; omega) (by have := hp.2.1; omega) (by have := hp.2.1; omega) (by have := hp.2.1; omega)]
    exact q2 k i hp
