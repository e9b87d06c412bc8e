/-! SORTED ANEW, in the reference -/
theorem DPr.congr {q f : Int → Int} {n k : Int} {C D C' D' : Int → Int} (h : DPr q f n C D k) (e : C' k = C k) (e' : D' k = D k) : DPr q f n C' D' k := by
  unfold DPr
  rw [e, e']
  exact h
theorem DPr.nat {q f : Int → Int} {n k : Int} {C D : Int → Int} (h : DPr q f n C D k) : 0 ≤ D k ∧ D k < 1048576 := by
  obtain ⟨_, S, s1, s2, _⟩ := h
  omega
set_option maxHeartbeats 4000000 in
theorem an73 {X : Cx} {d : Nat} {P : Int → Sto → Prop} (C : Ok LY X RX12 cX12_anew 8 d) (r : RetI LY X cX12_anew P) {s : Sto} {q f : Int → Int} {n v1 v2 : Int} (hq : PM q n) (n20 : 0 ≤ n ∧ n ≤ 20) (hn : s 75 4 = n) (h102 : ∀ i : Int, 0 ≤ i → i < n → s 102 i = q i) (h115 : ∀ p : Int, 0 ≤ p → p < n → s 115 p = f p) (hf : ∀ p : Int, 0 ≤ p → p < n → rg (f p)) (hi : ∀ p p' : Int, 0 ≤ p → p < n → 0 ≤ p' → p' < n → f p = f p' → p = p') (hv1 : rg v1) (cont : ∀ (S : Sto) (M : Nat), (∀ c : Nat, c ≠ 116 → c ≠ 117 → S c = s c) → MS q f n M → M < 1048576 → (v1 ≠ 0 → P (M : Int) S) ∧ (v1 = 0 → P (n - (pcF M 20 : Int)) S)) : G LY X 73 [rv 75, iv v1, iv v2, iv 0, iv 0, iv 0, none, none] [] s := by
  have rn : rg n := ⟨by omega, by omega⟩
  have key : ∀ (S : Sto) (m T : Int), (∀ c : Nat, c ≠ 116 → c ≠ 117 → S c = s c) → (∀ j : Int, 0 ≤ j → j < 0 → DPr q f n (S 116) (S 117) j) → ((0 = (0 : Int) ∧ m = 0 ∧ T = 0) ∨ ∃ j : Int, 0 ≤ j ∧ j < 0 ∧ m = S 116 j ∧ T = S 117 j) → (∀ j : Int, 0 ≤ j → j < 0 → S 116 j < m ∨ (S 116 j = m ∧ T ≤ S 117 j)) → G LY X 73 [rv 75, iv v1, iv v2, iv m, iv T, iv 0, none, none] [] S := by
    refine downI (P := fun k => ∀ (S : Sto) (m T : Int), (∀ c : Nat, c ≠ 116 → c ≠ 117 → S c = s c) → (∀ j : Int, 0 ≤ j → j < k → DPr q f n (S 116) (S 117) j) → ((k = 0 ∧ m = 0 ∧ T = 0) ∨ ∃ j : Int, 0 ≤ j ∧ j < k ∧ m = S 116 j ∧ T = S 117 j) → (∀ j : Int, 0 ≤ j → j < k → S 116 j < m ∨ (S 116 j = m ∧ T ≤ S 117 j)) → G LY X 73 [rv 75, iv v1, iv v2, iv m, iv T, iv k, none, none] [] S) (a := 0) (b := n) n20.1 ?_ ?_
    · intro S m T k1 k2 k3 k4
      have s4 : S 75 4 = n := by rw [k1 75 (by decide) (by decide), hn]
      refine kb_X12_anew_73 C r ?_
      rw [s4]
      refine ⟨⟨rn, rn⟩, fun _ => ⟨hv1, ?_⟩, fun z => absurd z (by omega)⟩
      rcases k3 with ⟨z1, z2, z3⟩ | ⟨j, j0, j1, j2, j3⟩
      · have ms : MS q f n 0 := ⟨CH.zero, fun N hN => by
          have : N < 2 ^ n.toNat := hN.1
          rw [z1] at this
          have n0 : N = 0 := by
            have h1 : (2 : Nat) ^ (0 : Int).toNat = 1 := rfl
            omega
          rw [n0]
          exact ⟨Nat.le_refl _, fun _ => Nat.le_refl _⟩⟩
        have := cont S 0 k1 ms (by decide)
        rw [pc_0] at this
        rw [z2, z3]
        exact this
      · obtain ⟨b1, M, m1, m2, m3, m4, m5, m6⟩ := k2 j j0 j1
        have ms : MS q f n M := by
          refine ⟨m3, fun N hN => ?_⟩
          by_cases z : N = 0
          · rw [z, pc_0]; exact ⟨by omega, fun e => by omega⟩
          · obtain ⟨i, i0, i1, i2⟩ := LA.ex hq z hN.1
            obtain ⟨c1, M', e1, e2, e3, e4, e5, e6⟩ := k2 i i0 i1
            have a := e6 N hN i2
            have b := k4 i i0 i1
            rcases b with b | b
            · exact ⟨by omega, fun e => by omega⟩
            · refine ⟨by omega, fun e => ?_⟩
              have := a.2 (by omega)
              omega
        have := cont S M k1 ms m2
        rw [j3, m1, j2, ← m5]
        exact this
    · intro k k0 kn ih S m T k1 k2 k3 k4
      have s4 : S 75 4 = n := by rw [k1 75 (by decide) (by decide), hn]
      have qb := hq.1 k k0 kn
      have S102 : ∀ i : Int, 0 ≤ i → i < n → S 102 i = q i := fun i i0 i1 => by rw [k1 102 (by decide) (by decide), h102 i i0 i1]
      have mb : 0 ≤ m ∧ m ≤ k ∧ 0 ≤ T ∧ T < 1048576 := by
        rcases k3 with z | ⟨j, j0, j1, j2, j3⟩
        · omega
        · have := (k2 j j0 j1).1
          have := (k2 j j0 j1).nat
          omega
      refine kb_X12_anew_73 C r ?_
      rw [s4]
      refine ⟨⟨⟨by omega, by omega⟩, rn⟩, fun z => absurd z (by omega), fun _ => ⟨⟨by omega, by omega⟩, ⟨by omega, by omega⟩, ?_⟩⟩
      rw [S102 k k0 kn]
      rintro s1 h1
      refine ⟨⟨by omega, by omega⟩, ?_⟩
      rintro s2 h2
      have e2 : ∀ c : Nat, c ≠ 116 → c ≠ 117 → s2 c = s c := fun c c1 c2 => by rw [h2, up_row c2, h1, up_row c1, k1 c c1 c2]
      have e116 : ∀ j : Int, j ≠ k → s2 116 j = S 116 j := fun j hj => by rw [h2, up_row (by decide), h1, up_idx hj]
      have e117 : ∀ j : Int, j ≠ k → s2 117 j = S 117 j := fun j hj => by rw [h2, up_idx hj, h1, up_row (by decide)]
      have dp2 : ∀ j : Int, 0 ≤ j → j < k → DPr q f n (s2 116) (s2 117) j := fun j j0 j1 => (k2 j j0 j1).congr (e116 j (by omega)) (e117 j (by omega))
      have inner : ∀ (R : Sto) (W : Nat), (∀ c : Nat, c ≠ 116 → c ≠ 117 → R c = s c) → (∀ j : Int, 0 ≤ j → j < k → R 116 j = s2 116 j ∧ R 117 j = s2 117 j) → R 117 k = (W : Int) → (∀ j : Int, 0 ≤ j → j < 0 → f (q j) < f (q k) → s2 116 j + 1 < R 116 k ∨ (s2 116 j + 1 = R 116 k ∧ (W : Int) ≤ s2 117 j)) → ((R 116 k = 1 ∧ W = 0) ∨ ∃ j : Int, 0 ≤ j ∧ j < k ∧ f (q j) < f (q k) ∧ R 116 k = s2 116 j + 1 ∧ (W : Int) = s2 117 j) → G LY X 110 [rv 75, iv v1, iv v2, iv m, iv T, iv k, iv (q k), iv 0] [] R := by
        refine downI (P := fun i => ∀ (R : Sto) (W : Nat), (∀ c : Nat, c ≠ 116 → c ≠ 117 → R c = s c) → (∀ j : Int, 0 ≤ j → j < k → R 116 j = s2 116 j ∧ R 117 j = s2 117 j) → R 117 k = (W : Int) → (∀ j : Int, 0 ≤ j → j < i → f (q j) < f (q k) → s2 116 j + 1 < R 116 k ∨ (s2 116 j + 1 = R 116 k ∧ (W : Int) ≤ s2 117 j)) → ((R 116 k = 1 ∧ W = 0) ∨ ∃ j : Int, 0 ≤ j ∧ j < k ∧ f (q j) < f (q k) ∧ R 116 k = s2 116 j + 1 ∧ (W : Int) = s2 117 j) → G LY X 110 [rv 75, iv v1, iv v2, iv m, iv T, iv k, iv (q k), iv i] [] R) (a := 0) (b := k) k0 ?_ ?_
        · intro R W r1 r2 r3 r4 r5
          have Wb : W < 1048576 := by
            rcases r5 with z | ⟨j, j0, j1, _, _, z⟩
            · omega
            · have := (dp2 j j0 j1).nat; omega
          have cb : 1 ≤ R 116 k ∧ R 116 k ≤ k + 1 := by
            rcases r5 with z | ⟨j, j0, j1, _, z, _⟩
            · omega
            · have := (dp2 j j0 j1).1; omega
          have sh : xor_ (R 117 k) (xshl 1 (q k)) = ((W ||| 2 ^ (q k).toNat : Nat) : Int) := by
            have pw : 2 ^ (q k).toNat < 2 ^ 31 := Nat.pow_lt_pow_right (by decide) (by omega)
            have := xshl_nat (n := 1) (b := (q k).toNat) (by omega) (by omega)
            rw [show ((1 : Nat) : Int) = 1 from rfl, Int.toNat_of_nonneg (by omega), Nat.one_mul] at this
            rw [this, r3]
            exact xor_nat (by omega) (Nat.pow_lt_pow_right (by decide) (by omega))
          refine kb_X12_anew_110 C r ⟨⟨⟨by omega, by omega⟩, ⟨by omega, by omega⟩⟩, fun _ => ⟨⟨by omega, by omega⟩, ⟨by omega, by omega⟩, ?_⟩, fun z => absurd z (by omega)⟩
          rw [sh]
          rintro s3 h3
          have s3a : s3 116 = R 116 := by rw [h3, up_row (by decide)]
          have s3b : s3 117 k = ((W ||| 2 ^ (q k).toNat : Nat) : Int) := by rw [h3, up_at]
          have s3j : ∀ j : Int, j ≠ k → s3 117 j = R 117 j := fun j hj => by rw [h3, up_idx hj]
          have s3c : ∀ c : Nat, c ≠ 116 → c ≠ 117 → s3 c = s c := fun c c1 c2 => by rw [h3, up_row c2, r1 c c1 c2]
          have dpk : DPr q f n (s3 116) (s3 117) k := DPr.step hq n20.2 ⟨k0, kn⟩ dp2 r4 r5 (by rw [s3a]) s3b
          have dp3 : ∀ j : Int, 0 ≤ j → j < k + 1 → DPr q f n (s3 116) (s3 117) j := fun j j0 j1 => by
            by_cases e : j = k
            · rw [e]; exact dpk
            · exact (dp2 j j0 (by omega)).congr (by rw [s3a]; exact (r2 j j0 (by omega)).1) (by rw [s3j j e]; exact (r2 j j0 (by omega)).2)
          have old : ∀ j : Int, 0 ≤ j → j < k → s3 116 j = S 116 j ∧ s3 117 j = S 117 j := fun j j0 j1 => by
            rw [s3a, s3j j (by omega), (r2 j j0 j1).1, (r2 j j0 j1).2, e116 j (by omega), e117 j (by omega)]
            exact ⟨rfl, rfl⟩
          have nb := dpk.nat
          -- as before, or anew
          have keep : (s3 116 k < m ∨ (s3 116 k = m ∧ T ≤ s3 117 k)) → G LY X 73 [rv 75, iv v1, iv v2, iv m, iv T, iv (k + 1), none, none] [] s3 := fun z => by
            refine ih s3 m T s3c dp3 ?_ (fun j j0 j1 => ?_)
            · rcases k3 with y | ⟨j, j0, j1, j2, j3⟩
              · have := dpk.1; omega
              · exact Or.inr ⟨j, j0, by omega, by rw [(old j j0 j1).1]; exact j2, by rw [(old j j0 j1).2]; exact j3⟩
            · by_cases e : j = k
              · rw [e]; exact z
              · rw [(old j j0 (by omega)).1, (old j j0 (by omega)).2]; exact k4 j j0 (by omega)
          have take : (m < s3 116 k ∨ (s3 116 k = m ∧ s3 117 k < T)) → G LY X 73 [rv 75, iv v1, iv v2, iv (s3 116 k), iv (s3 117 k), iv (k + 1), none, none] [] s3 := fun z => by
            refine ih s3 _ _ s3c dp3 (Or.inr ⟨k, k0, by omega, rfl, rfl⟩) (fun j j0 j1 => ?_)
            by_cases e : j = k
            · rw [e]; exact Or.inr ⟨rfl, Int.le_refl _⟩
            · rw [(old j j0 (by omega)).1, (old j j0 (by omega)).2]
              have := k4 j j0 (by omega)
              omega
          have cb3 : 1 ≤ s3 116 k ∧ s3 116 k ≤ k + 1 := dpk.1
          refine ⟨⟨by omega, by omega⟩, ⟨⟨by omega, by omega⟩, ⟨by omega, by omega⟩⟩, fun z => keep (Or.inl z), fun z => ⟨⟨by omega, by omega⟩, ⟨⟨by omega, by omega⟩, ⟨by omega, by omega⟩⟩, fun y => ⟨⟨by omega, by omega⟩, ⟨by omega, by omega⟩, take (Or.inl (by omega))⟩, fun y => ⟨⟨by omega, by omega⟩, ⟨⟨by omega, by omega⟩, ⟨by omega, by omega⟩⟩, fun w => ⟨⟨by omega, by omega⟩, ⟨by omega, by omega⟩, take (Or.inr ⟨y, w⟩)⟩, fun w => keep (Or.inr ⟨y, w⟩)⟩⟩⟩
        · intro i i0 ik ih2 R W r1 r2 r3 r4 r5
          have ib := hq.1 i i0 (by omega)
          have a102 : R 102 i = q i := by rw [r1 102 (by decide) (by decide), h102 i i0 (by omega)]
          have a115 : R 115 (q i) = f (q i) := by rw [r1 115 (by decide) (by decide), h115 _ ib.1 ib.2]
          have b115 : R 115 (q k) = f (q k) := by rw [r1 115 (by decide) (by decide), h115 _ qb.1 qb.2]
          have ne : f (q i) ≠ f (q k) := fun e => by
            have := hi _ _ ib.1 ib.2 qb.1 qb.2 e
            have := hq.2.1 i k i0 (by omega) k0 kn this
            omega
          have di := (dp2 i i0 ik).1
          have dn := (dp2 i i0 ik).nat
          have Wb : W < 1048576 := by
            rcases r5 with z | ⟨j, j0, j1, _, _, z⟩
            · omega
            · have := (dp2 j j0 j1).nat; omega
          have cb : 1 ≤ R 116 k ∧ R 116 k ≤ k + 1 := by
            rcases r5 with z | ⟨j, j0, j1, _, z, _⟩
            · omega
            · have := (dp2 j j0 j1).1; omega
          have skip : (f (q i) < f (q k) → s2 116 i + 1 < R 116 k ∨ (s2 116 i + 1 = R 116 k ∧ (W : Int) ≤ s2 117 i)) → G LY X 110 [rv 75, iv v1, iv v2, iv m, iv T, iv k, iv (q k), iv (i + 1)] [] R := fun z => by
            refine ih2 R W r1 r2 r3 (fun j j0 j1 hz => ?_) r5
            by_cases e : j = i
            · rw [e] at hz ⊢; exact z hz
            · exact r4 j j0 (by omega) hz
          have put : f (q i) < f (q k) → (R 116 k < s2 116 i + 1 ∨ (s2 116 i + 1 = R 116 k ∧ s2 117 i < (W : Int))) → ∀ s4 : Sto, s4 = up R 116 k (s2 116 i + 1) → ∀ s5 : Sto, s5 = up s4 117 k (s2 117 i) → G LY X 110 [rv 75, iv v1, iv v2, iv m, iv T, iv k, iv (q k), iv (i + 1)] [] s5 := fun zf z s4 h4 s5 h5 => by
            have c116 : s5 116 k = s2 116 i + 1 := by rw [h5, up_row (by decide), h4, up_at]
            have c117 : s5 117 k = s2 117 i := by rw [h5, up_at]
            obtain ⟨V, hV⟩ := Int.eq_ofNat_of_zero_le dn.1
            refine ih2 s5 V (fun c c1 c2 => by rw [h5, up_row c2, h4, up_row c1, r1 c c1 c2]) (fun j j0 j1 => ?_) (by rw [c117, hV]) (fun j j0 j1 hz => ?_) (Or.inr ⟨i, i0, ik, zf, c116, hV.symm⟩)
            · rw [h5, up_row (by decide), up_idx (by omega), h4, up_idx (by omega), up_row (by decide)]
              exact r2 j j0 j1
            · rw [c116]
              by_cases e : j = i
              · rw [e]; exact Or.inr ⟨rfl, by omega⟩
              · have := r4 j j0 (by omega) hz
                omega
          refine kb_X12_anew_110 C r ?_
          rw [a102, a115, b115, r3, (r2 i i0 ik).1, (r2 i i0 ik).2]
          refine ⟨⟨⟨by omega, by omega⟩, ⟨by omega, by omega⟩⟩, fun z => absurd z (by omega), fun _ => ⟨⟨by omega, by omega⟩, ⟨by omega, by omega⟩, ⟨by omega, by omega⟩, ⟨hf _ ib.1 ib.2, hf _ qb.1 qb.2⟩, fun z => skip (fun y => by omega), fun z => ⟨⟨by omega, by omega⟩, ⟨by omega, by omega⟩, ⟨⟨by omega, by omega⟩, ⟨by omega, by omega⟩⟩, fun y => ⟨⟨by omega, by omega⟩, ⟨by omega, by omega⟩, ⟨⟨by omega, by omega⟩, ⟨by omega, by omega⟩⟩, fun w => ⟨⟨by omega, by omega⟩, ⟨by omega, by omega⟩, fun s4 h4 => ⟨⟨by omega, by omega⟩, ⟨by omega, by omega⟩, ?_⟩⟩, fun w => ⟨⟨by omega, by omega⟩, ⟨by omega, by omega⟩, ⟨⟨by omega, by omega⟩, ⟨by omega, by omega⟩⟩, fun x => ⟨⟨by omega, by omega⟩, ⟨by omega, by omega⟩, fun s4 h4 => ⟨⟨by omega, by omega⟩, ⟨by omega, by omega⟩, ?_⟩⟩, fun x => skip (fun _ => Or.inr ⟨w, x⟩)⟩⟩, fun y => skip (fun _ => Or.inl y)⟩⟩⟩
          · have e : s4 117 i = s2 117 i := by rw [h4, up_row (by decide), (r2 i i0 ik).2]
            rw [e]
            exact put (by omega) (Or.inl (by omega)) s4 h4
          · have e : s4 117 i = s2 117 i := by rw [h4, up_row (by decide), (r2 i i0 ik).2]
            rw [e]
            exact put (by omega) (Or.inr ⟨w, x⟩) s4 h4
      refine inner s2 0 e2 (fun _ _ _ => ⟨rfl, rfl⟩) (by rw [h2, up_at]; rfl) (fun j j0 j1 => absurd j1 (by omega)) (Or.inl ⟨by rw [h2, up_row (by decide), h1, up_at], rfl⟩)
  exact key s 0 0 (fun _ _ _ => rfl) (fun j j0 j1 => absurd j1 (by omega)) (Or.inl ⟨rfl, rfl, rfl⟩) (fun j j0 j1 => absurd j1 (by omega))
/-- the QUEUE in the reference -/
theorem t_quM {u s : Sto} {od oq : Int → Int} (hh : LM u s od) {o oo : Int} (ho : 0 ≤ o ∧ o < 21) (hq : ∀ i : Int, begS s 81 (8 * o + i) = oq i) (hO : OdR (s 75 9) oo oq) : ClV LY 3 MX12_queues [.inr 75, .inl o] s (fun s' => (∀ c : Nat, c ≠ 101 → c ≠ 102 → s' c = begS s c) ∧ QW s oq (s' 102)) := by
  obtain ⟨h, hd, hu⟩ := hh
  obtain ⟨n1, n2, n3, n4, n5⟩ := h.nms
  have e : (fun i => begS s 81 (8 * o + i)) = oq := funext hq
  refine (t_X12_queues hd.1 ho (by rw [e]; exact hO) n1 n2 n4 n5 n3).mono ?_
  rw [e]
  rintro w ⟨w1, w2, w3⟩
  exact ⟨w1, w 101, w2, w3⟩
theorem QW.congr {s t : Sto} {od od' f : Int → Int} (h : QW s od f) (e : samN s t) (eo : ∀ i : Int, 0 ≤ i → i < s 75 9 → od' i = od i) : QW t od' f := by
  obtain ⟨pl, a, b⟩ := h
  refine ⟨pl, ?_, ?_⟩
  · rw [e.2.2.1]
    exact fun i i0 i1 => by rw [eo i i0 i1]; exact a i i0 i1
  · rw [e.2.1, quS_congr (fun c c1 c2 _ c4 => e.1 c c1 (by omega) c4 (by omega) (by omega)) e.2.1 e.2.2.1]
    exact b
theorem an33 {X : Cx} {d : Nat} {P : Int → Sto → Prop} (C : Ok LY X RX12 cX12_anew 8 d) (r : RetI LY X cX12_anew P) {s : Sto} {q : Int → Int} {n v1 v2 : Int} (hq : PM q n) (n20 : 0 ≤ n ∧ n ≤ 20) (hn : s 75 4 = n) (h102 : s 102 = q) (cont : ∀ S : Sto, (∀ c : Nat, c ≠ 115 → S c = s c) → (∀ i : Int, 0 ≤ i → i < n → S 115 (q i) = i) → CallV LY d MX12_queues [.inr 75, .inl 19] S (fun s1 => G LY X 73 [rv 75, iv v1, iv v2, iv 0, iv 0, iv 0, none, none] [] s1)) : G LY X 33 [rv 75, iv v1, iv v2, iv 0, none, none, none, none] [] s := by
  have rn : rg n := ⟨by omega, by omega⟩
  have key : ∀ S : Sto, (∀ c : Nat, c ≠ 115 → S c = s c) → (∀ i : Int, 0 ≤ i → i < 0 → S 115 (q i) = i) → G LY X 33 [rv 75, iv v1, iv v2, iv 0, none, none, none, none] [] S := by
    refine downI (P := fun k => ∀ S : Sto, (∀ c : Nat, c ≠ 115 → S c = s c) → (∀ i : Int, 0 ≤ i → i < k → S 115 (q i) = i) → G LY X 33 [rv 75, iv v1, iv v2, iv k, none, none, none, none] [] S) (a := 0) (b := n) n20.1 ?_ ?_
    · intro S k1 k2
      refine kb_X12_anew_33 C r ?_
      rw [k1 75 (by decide), hn]
      exact ⟨⟨rn, rn⟩, fun _ => cont S k1 k2, fun z => absurd z (by omega)⟩
    · intro k k0 kn ih S k1 k2
      have b := hq.1 k k0 kn
      refine kb_X12_anew_33 C r ?_
      rw [k1 75 (by decide), hn, k1 102 (by decide), h102]
      refine ⟨⟨⟨by omega, by omega⟩, rn⟩, fun z => absurd z (by omega), fun _ => ⟨⟨by omega, by omega⟩, ⟨by omega, by omega⟩, ?_⟩⟩
      rintro s2 h2
      refine ih s2 (fun c hc => by rw [h2, up_row hc, k1 c hc]) (fun i i0 i1 => ?_)
      by_cases e : i = k
      · rw [e, h2, up_at]
      · rw [h2, up_idx (fun z => e (hq.2.1 i k i0 (by omega) k0 kn z)), k2 i i0 (by omega)]
  exact key s (fun _ _ => rfl) (fun i i0 i1 => absurd i1 (by omega))
set_option maxHeartbeats 8000000 in
theorem op_anew [Inhabited YT] {s : Sto} (h : Inv s) {v : Int} (hv : rg v) : OpI MX11_anew MX12_anew [.inl v] s := by
  obtain ⟨a1, a2, a3, a4, a5, a6, a7, a8, a9, a10, a11, a12, a13, a14, a15⟩ := h.2.1
  have hT := h.1
  have hK : 2 ≤ s 3 0 ∧ s 3 0 ≤ 8 := a1.2
  have h9 : s 3 0 = s 75 9 := a1.1
  have e5 : s 5 0 = s 75 4 := a6.1
  have lr := h.lr
  have n1 := h.nms.1
  have key : isOd (s 3 0) (s 1 1) (s 2) ↔ isOd (s 75 9) (s 75 24) (s 91) := by rw [← h9, ← hT.1]; exact isOd_eq hT.2
  refine ⟨4, 5, (fun r1 s1 => (∀ c : Nat, c ≠ 1 → ¬ (47 ≤ c ∧ c ≤ 74) → s1 c = s c) ∧ s1 1 = up s 1 1 0 1 ∧ ((¬ (isOd (s 75 9) (s 75 24) (s 91) ∧ 0 ≤ v ∧ v ≤ 1) ∧ r1 = -1) ∨ ((isOd (s 75 9) (s 75 24) (s 91) ∧ 0 ≤ v ∧ v ≤ 1) ∧ ∃ (o : Int) (qa qb fb : Int → Int) (M : Nat), OdR (s 75 9) o (fun i => s 2 i - 97) ∧ QW s (fun k => begS s 81 (8 * 0 + k)) qa ∧ QW s (fun i => s 2 i - 97) qb ∧ (∀ i : Int, 0 ≤ i → i < s 75 4 → fb (qb i) = i) ∧ MS qa fb (s 75 4) M ∧ M < 2 ^ 20 ∧ r1 = if v = 0 then s 75 4 - (pcF M 20 : Int) else M))), by decide, by decide, ?_, ?_⟩
  · refine ClI.intro (by decide) rfl (Nat.le_of_ble_eq_true rfl) (fun X C r => ?_)
    refine kb_X11_anew_0 C r ⟨0, _, by decide, t_X9_orderOnce hT.2 hK, ?_⟩
    rintro o u ⟨hu, ho, hn⟩
    have eu : ∀ c : Nat, c ≠ 1 → u c = s c := fun c hc => by rw [hu, up_row hc]
    have no : ¬ (isOd (s 75 9) (s 75 24) (s 91) ∧ 0 ≤ v ∧ v ≤ 1) → ((∀ c : Nat, c ≠ 1 → ¬ (47 ≤ c ∧ c ≤ 74) → u c = s c) ∧ u 1 = up s 1 1 0 1 ∧ ((¬ (isOd (s 75 9) (s 75 24) (s 91) ∧ 0 ≤ v ∧ v ≤ 1) ∧ (-1 : Int) = -1) ∨ ((isOd (s 75 9) (s 75 24) (s 91) ∧ 0 ≤ v ∧ v ≤ 1) ∧ ∃ (o : Int) (qa qb fb : Int → Int) (M : Nat), OdR (s 75 9) o (fun i => s 2 i - 97) ∧ QW s (fun k => begS s 81 (8 * 0 + k)) qa ∧ QW s (fun i => s 2 i - 97) qb ∧ (∀ i : Int, 0 ≤ i → i < s 75 4 → fb (qb i) = i) ∧ MS qa fb (s 75 4) M ∧ M < 2 ^ 20 ∧ (-1 : Int) = if v = 0 then s 75 4 - (pcF M 20 : Int) else M))) := fun z => ⟨fun c c1 _ => eu c c1, by rw [hu], Or.inl ⟨z, rfl⟩⟩
    refine ⟨ho, fun z => no (fun q => ?_), fun z => ⟨hv, fun z1 => no (fun q => by omega), fun z1 => ⟨hv, fun z2 => ?_, fun z2 => no (fun q => by omega)⟩⟩⟩
    · rcases hn with hn | hn
      · have := hn.2.bd; omega
      · exact hn.1 (key.mpr q.1)
    · have hn' : isOd (s 3 0) (s 1 1) (s 2) ∧ OdR (s 3 0) o (fun i => s 2 i - 97) := by
        rcases hn with hn | hn
        · exact hn
        · exact absurd hn.2 z
      have hO : OdR (s 75 9) o (fun i => s 2 i - 97) := by rw [← h9]; exact hn'.2
      have lru : LR u s _ := lr.congr (u' := u) (fun c c1 c2 => eu c (by omega))
      have nu : NamesR (u 5 0) (u 6) (s 76) (s 77) 0 := by rw [eu 5 (by decide), eu 6 (by decide)]; exact h.namesR
      refine ⟨3, _, by decide, t_whoStays lru nu hO, ?_⟩
      rintro m y ⟨y1, qa, qb, fb, M, m1, m2, m3, m4, m5, m6⟩
      have fr : (∀ c : Nat, c ≠ 1 → ¬ (47 ≤ c ∧ c ≤ 74) → y c = s c) ∧ y 1 = up s 1 1 0 1 := ⟨fun c c1 c2 => by rw [y1 c (by omega) (by omega) (by omega), eu c c1], by rw [y1 1 (by decide) (by decide) (by decide), hu]⟩
      rw [m6]
      refine ⟨hv, fun z3 => ⟨fr.1, fr.2, Or.inr ⟨⟨key.mp hn'.1, z1, z2⟩, o, qa, qb, fb, M, hO, m1, m2, m3, m4, m5, by rw [if_neg z3]⟩⟩, fun z3 => ⟨0, _, by decide, t_bitCount (by omega), ?_⟩⟩
      rintro w x ⟨hx, hw⟩
      rw [hx, hw, y1 5 (by decide) (by decide) (by decide), eu 5 (by decide), e5]
      exact ⟨fr.1, fr.2, Or.inr ⟨⟨key.mp hn'.1, z1, z2⟩, o, qa, qb, fb, M, hO, m1, m2, m3, m4, m5, by rw [if_pos z3]⟩⟩
  · rintro r1 s1 ⟨g1, g2, g3⟩
    refine ⟨?_, ?_⟩
    · rcases g3 with g | ⟨_, o, qa, qb, fb, M, _, _, _, _, _, m5, m6⟩
      · rw [g.2]; decide
      · have : pcF M 20 ≤ 20 := by
          have : ∀ k : Nat, pcF M k ≤ k := by
            intro k
            induction k with
            | zero => exact Nat.le_refl _
            | succ k ih =>
              show pcF M k + M / 2 ^ k % 2 ≤ k + 1
              omega
          exact this 20
        rw [m6]
        split
        · exact ⟨by omega, by omega⟩
        · exact ⟨by omega, by omega⟩
    · refine ClI.intro (by decide) rfl (Nat.le_of_ble_eq_true rfl) (fun X C r => ?_)
      refine kb_X12_anew_0 C r ?_
      rintro z hz
      have z75 : ∀ j : Int, j ≠ 0 → z 75 j = s 75 j := fun j hj => by rw [hz, up_idx hj, g1 75 (by decide) (by decide)]
      have z91 : z 91 = s 91 := by rw [hz, up_row (by decide), g1 91 (by decide) (by decide)]
      refine ⟨1, _, by decide, t_X12_takesOrder (b := s 2) (by rw [z75 24 (by decide), z91, ← hT.1]; exact hT.2) (by rw [z75 9 (by decide)]; omega) (by rw [z75 22 (by decide)]; exact h.2.2.2.2.1), ?_⟩
      rw [z75 9 (by decide)]
      rintro q x (⟨rfl, hq, hx⟩ | ⟨rfl, hq, hx⟩)
      · have hx' : x = ordU (up s1 75 0 0) := by rw [hx, hz]; rfl
        rw [z75 24 (by decide), z91] at hq
        obtain ⟨k1, k2, k3, k4, k5, k6⟩ := askd h g1 g2 hq
        rw [← hx'] at k1 k2 k3 k4 k5 k6
        refine ⟨by decide, fun z => absurd z (by decide), fun _ => ⟨0, _, by decide, t_X12_isIn hv (by decide) (by decide), ?_⟩⟩
        rintro w y ⟨hy, hw⟩
        rw [hy]
        by_cases vb : 0 ≤ v ∧ v ≤ 1
        · have w1 : w = 1 := hw.2.mpr vb
          rw [w1]
          obtain ⟨_, o, qa, qb, fb, M, hO, m1, m2, m3, m4, m5, m6⟩ := g3.resolve_left (fun q => q.1 ⟨hq, vb⟩)
          have tp : ∀ i : Int, 0 ≤ i → i < s 75 9 → begS x 81 (8 * 19 + i) = s 2 i - 97 := fun i i0 i1 => by rw [k5 i i0 i1, (hT.2.2.2 i i0 (by rw [hT.1, hq.1]; exact i1)).1]
          have bx : begS x = x := begS_1 k6
          have x4 : x 75 4 = s 75 4 := k3.2.1
          have x9 : x 75 9 = s 75 9 := k3.2.2.1
          refine ⟨by decide, fun _ => ⟨3, _, by decide, t_quM k2 (o := 0) (oo := s 3 2) (by decide) (fun _ => rfl) k2.1.2.1, ?_⟩, fun z => absurd z (by decide)⟩
          rintro a ⟨a1, a2⟩
          rw [bx] at a1
          have qa2 : QW x (fun k => begS x 81 (8 * 0 + k)) qa := m1.congr k3 (fun i i0 i1 => k4 i i0 i1)
          have ua := QW.uniq k2.1.nms k2.1.2.1 qa2 a2
          have pa := a2.pm (by rw [x4]; exact n1.1)
          rw [x4] at ua pa
          refine an33 C r (q := a 102) (n := s 75 4) pa n1 (by rw [a1 75 (by decide) (by decide), x4]) rfl (fun S S1 S2 => ?_)
          have eS : ∀ c : Nat, ¬ (99 ≤ c ∧ c ≤ 117) → S c = begS x c := fun c hc => by rw [S1 c (by omega), a1 c (by omega) (by omega), bx]
          obtain ⟨lmS, smS, bS⟩ := k2.work eS
          have eS81 : S 81 = x 81 := by rw [S1 81 (by decide), a1 81 (by decide) (by decide)]
          have S9 : S 75 9 = s 75 9 := by rw [smS.2.2.1, x9]
          have S4 : S 75 4 = s 75 4 := by rw [smS.2.1, x4]
          have hO2 : OdR (S 75 9) o (fun i => begS S 81 (8 * 19 + i)) := by
            rw [S9]
            exact hO.congr (fun i i0 i1 => by rw [begS_1 bS, eS81, ← tp i i0 i1, bx])
          refine ⟨3, _, by decide, t_quM lmS (o := 19) (oo := o) (by decide) (fun _ => rfl) hO2, ?_⟩
          rintro b ⟨b1, b2⟩
          rw [begS_1 bS] at b1
          have smSs : samN s S := ⟨fun c c1 c2 c3 c4 c5 => by rw [smS.1 c c1 c2 c3 c4 c5, k3.1 c c1 c2 c3 c4 c5], S4, S9, by rw [smS.2.2.2, k3.2.2.2]⟩
          have qb2 : QW S (fun i => begS S 81 (8 * 19 + i)) qb := m2.congr smSs (fun i i0 i1 => by rw [begS_1 bS, eS81, ← tp i i0 i1, bx])
          have ub := QW.uniq lmS.1.nms hO2 qb2 b2
          have pb := b2.pm (by rw [S4]; exact n1.1)
          rw [S4] at ub pb
          have b4 : b 75 4 = s 75 4 := by rw [b1 75 (by decide) (by decide), S4]
          have b115 : b 115 = S 115 := b1 115 (by decide) (by decide)
          have inv : ∀ p : Int, 0 ≤ p → p < s 75 4 → ∃ i : Int, 0 ≤ i ∧ i < s 75 4 ∧ a 102 i = p ∧ b 115 p = i := fun p p0 p1 => by
            obtain ⟨i, i0, i1, i2⟩ := pa.2.2 p p0 p1
            exact ⟨i, i0, i1, i2, by rw [b115, ← i2, S2 i i0 i1]⟩
          refine an73 C r (q := b 102) (f := b 115) (n := s 75 4) pb n1 b4 (fun _ _ _ => rfl) (fun _ _ _ => rfl) (fun p p0 p1 => ?_) (fun p p' p0 p1 q0 q1 e => ?_) hv (fun R N R1 R2 R3 => ?_)
          · obtain ⟨i, i0, i1, _, i3⟩ := inv p p0 p1
            rw [i3]
            exact ⟨by omega, by omega⟩
          · obtain ⟨i, i0, i1, i2, i3⟩ := inv p p0 p1
            obtain ⟨j, j0, j1, j2, j3⟩ := inv p' q0 q1
            have : i = j := by omega
            rw [← i2, ← j2, this]
          · -- the same set
            have pqa : PM qa (s 75 4) := m1.pm n1.1
            have pqb : PM qb (s 75 4) := m2.pm n1.1
            have f1 : ∀ i : Int, 0 ≤ i → i < s 75 4 → b 115 (qa i) = i := fun i i0 i1 => by rw [b115, ← ua i i0 i1, S2 i i0 i1]
            have to : ∀ K : Nat, CH qa fb (s 75 4) K → CH (b 102) (b 115) (s 75 4) K := fun K hK => (hK.sym pqa pqb m3 f1).congr pqb (fun i i0 i1 => ub i i0 i1) (fun _ _ _ => rfl)
            have fro : ∀ K : Nat, CH (b 102) (b 115) (s 75 4) K → CH qa fb (s 75 4) K := fun K hK => hK.sym pb pqa f1 (fun i i0 i1 => by rw [ub i i0 i1, m3 i i0 i1])
            have e : M = N := MS.uniq m4 ⟨fro N R2.1, fun K hK => R2.2 K (to K hK)⟩
            have iR : Inv R := k1.beg.scr (fun c j hc => by
              rw [R1 c (by unfold pers perM at hc; omega) (by unfold pers perM at hc; omega), b1 c (by unfold pers perM at hc; omega) (by unfold pers perM at hc; omega), eS c (by unfold pers perM at hc; omega)])
            refine ⟨fun y => ⟨?_, iR⟩, fun y => ⟨?_, iR⟩⟩
            · rw [m6, if_neg y, e]
            · rw [m6, if_pos y, e]
        · have w0 : w = 0 := hw.1.resolve_right (fun z => vb (hw.2.mp z))
          rw [w0]
          refine ⟨by decide, fun z => absurd rfl z, fun _ => ⟨?_, k1⟩⟩
          rcases g3 with g | g
          · exact g.2.symm
          · exact absurd g.1.2 vb
      · refine ⟨by decide, fun _ => ⟨?_, ?_⟩, fun z => absurd rfl z⟩
        · rw [z75 24 (by decide), z91] at hq
          rcases g3 with g | g
          · exact g.2.symm
          · exact absurd g.1.1 hq
        · rw [hx, hz]
          exact askd0 h g1 g2
