/-! A LAND ALONE: its 18 cells, and how it begins anew -/
def LD : List Sh := [.inr (2, [none, none, none, none, some 1, some 2, some 7, some 8, some 9, none, some 10, none, some 11, some 12, some 13, some 14]), .inl (7, false), .inr (5, [none, some 3, some 4, some 5, some 6]), .inl (20, false), .inl (20, false), .inl (20, false), .inl (20, false), .inl (24, false), .inl (6, false), .inl (6, false), .inl (10, false), .inl (12, false), .inl (12, false), .inl (12, false), .inr (4, [none, none, some 15, some 16, some 17]), .inl (16, false), .inl (16, false), .inl (400, false)]
theorem ld_0 : LD[0]? = some (.inr (2, [none, none, none, none, some 1, some 2, some 7, some 8, some 9, none, some 10, none, some 11, some 12, some 13, some 14])) := rfl
theorem ld_1 : LD[1]? = some (.inl (7, false)) := rfl
theorem ld_2 : LD[2]? = some (.inr (5, [none, some 3, some 4, some 5, some 6])) := rfl
theorem ld_3 : LD[3]? = some (.inl (20, false)) := rfl
theorem ld_4 : LD[4]? = some (.inl (20, false)) := rfl
theorem ld_5 : LD[5]? = some (.inl (20, false)) := rfl
theorem ld_6 : LD[6]? = some (.inl (20, false)) := rfl
theorem ld_7 : LD[7]? = some (.inl (24, false)) := rfl
theorem ld_8 : LD[8]? = some (.inl (6, false)) := rfl
theorem ld_9 : LD[9]? = some (.inl (6, false)) := rfl
theorem ld_10 : LD[10]? = some (.inl (10, false)) := rfl
theorem ld_11 : LD[11]? = some (.inl (12, false)) := rfl
theorem ld_12 : LD[12]? = some (.inl (12, false)) := rfl
theorem ld_13 : LD[13]? = some (.inl (12, false)) := rfl
theorem ld_14 : LD[14]? = some (.inr (4, [none, none, some 15, some 16, some 17])) := rfl
theorem ld_15 : LD[15]? = some (.inl (16, false)) := rfl
theorem ld_16 : LD[16]? = some (.inl (16, false)) := rfl
theorem ld_17 : LD[17]? = some (.inl (400, false)) := rfl
set_option maxRecDepth 20000 in
theorem kd_X5_plainOrder_0 {X : Cx} {d : Nat} {P : Int → Sto → Prop} (C : Ok LD X RX5 cX5_plainOrder 3 d) (r : RetI LD X cX5_plainOrder P) {v0 : Int} {s : Sto} (h : G LD X 4 [iv v0, iv 0, iv 0] [] s) : G LD X 0 [iv v0, none, none] [] s := by
  refine G_iconst C dX5_plainOrder_0 ?_
  refine G_istore_n (L' := [iv v0, iv 0, none]) C dX5_plainOrder_1 (by decide) rfl ?_
  refine G_iconst C dX5_plainOrder_2 ?_
  refine G_istore_n (L' := [iv v0, iv 0, iv 0]) C dX5_plainOrder_3 (by decide) rfl ?_
  exact h
set_option maxRecDepth 20000 in
theorem kd_X5_plainOrder_4 {X : Cx} {d : Nat} {P : Int → Sto → Prop} (C : Ok LD X RX5 cX5_plainOrder 3 d) (r : RetI LD X cX5_plainOrder P) {v0 v1 v2 : Int} {s : Sto} (h : ((rg v2 ∧ rg v0) ∧ ((v0 ≤ v2 → P v1 s) ∧ (v2 < v0 → G LD X 4 [iv v0, iv (xor_ (xshl v1 3) v2), iv (v2 + 1)] [] s)))) : G LD X 4 [iv v0, iv v1, iv v2] [] s := by
  refine G_iload_n C dX5_plainOrder_4 rfl ?_
  refine G_iload_n C dX5_plainOrder_5 rfl ?_
  refine G_icmp_ge (tgt := 21) C dX5_plainOrder_6 (by decide) ⟨h.1.1, h.1.2⟩ (fun q => ?_) (fun q => ?_)
  · have h := h.2.1 q
    refine G_iload_n C dX5_plainOrder_21 rfl ?_
    exact r _ _ _ _ dX5_plainOrder_22 h
  · have h := h.2.2 q
    refine G_iload_n C dX5_plainOrder_9 rfl ?_
    refine G_iconst C dX5_plainOrder_10 ?_
    refine G_ishl C dX5_plainOrder_11 ?_
    refine G_iload_n C dX5_plainOrder_12 rfl ?_
    refine G_ior C dX5_plainOrder_13 ?_
    refine G_istore_n (L' := [iv v0, iv (xor_ (xshl v1 3) v2), iv v2]) C dX5_plainOrder_14 (by decide) rfl ?_
    refine G_iinc (L' := [iv v0, iv (xor_ (xshl v1 3) v2), iv (v2 + 1)]) C dX5_plainOrder_15 (by decide) rfl rfl ?_
    refine G_goto (tgt := 4) C dX5_plainOrder_18 (by decide) ?_
    exact h
set_option maxRecDepth 20000 in
theorem kd_X4_clear_0 {X : Cx} {d : Nat} {P : Sto → Prop} (C : Ok LD X RX4 cX4_clear 1 d) (r : RetV LD X cX4_clear P) {s : Sto} (h : (∀ s1 : Sto, s1 = up s 14 0 0 → (∀ s2 : Sto, s2 = up s1 14 1 0 → P s2))) : G LD X 0 [rv 14] [] s := by
  refine G_aload_n C dX4_clear_0 rfl ?_
  refine G_iconst C dX4_clear_1 ?_
  refine gP_X4_0 C ld_14 rfl wf_X4_9 dX4_clear_2 ?_
  have h := h _ rfl
  obtain ⟨s1, e1⟩ : ∃ z, z = up s 14 0 0 := ⟨_, rfl⟩
  rw [← e1] at h ⊢
  refine G_aload_n C dX4_clear_5 rfl ?_
  refine G_iconst C dX4_clear_6 ?_
  refine gP_X4_1 C ld_14 rfl wf_X4_15 dX4_clear_7 ?_
  have h := h _ rfl
  obtain ⟨s2, e2⟩ : ∃ z, z = up s1 14 1 0 := ⟨_, rfl⟩
  rw [← e2] at h ⊢
  exact r _ _ _ dX4_clear_10 h
set_option maxRecDepth 20000 in
theorem kd_X2_beginAnew_0 {X : Cx} {d : Nat} {P : Sto → Prop} (C : Ok LD X RX2 cX2_beginAnew 3 d) (r : RetV LD X cX2_beginAnew P) (h1d : 1 ≤ d) {v1 : Int} {s : Sto} (h : (∀ s1 : Sto, s1 = up s 0 0 v1 → (CallI LD d MX5_plainOrder [.inl v1] s1 (fun r2 s2 => (∀ s3 : Sto, s3 = up s2 0 2 r2 → (∀ s4 : Sto, s4 = up s3 0 3 0 → (∀ s5 : Sto, s5 = up s4 2 0 0 → (∀ s6 : Sto, s6 = up s5 0 9 0 → (∀ s7 : Sto, s7 = up s6 0 11 0 → (CallV LD d MX4_clear [.inr 14] s7 (fun s8 => (∀ s9 : Sto, s9 = cpyF s8 1 → G LD X 59 [rv 0, iv v1, iv 0] [] s9)))))))))))) : G LD X 0 [rv 0, iv v1, none] [] s := by
  refine G_aload_n C dX2_beginAnew_0 rfl ?_
  refine G_iload_n C dX2_beginAnew_1 rfl ?_
  refine gP_X2_0 C ld_0 rfl wf_X2_58 dX2_beginAnew_2 ?_
  have h := h _ rfl
  obtain ⟨s1, e1⟩ : ∃ z, z = up s 0 0 v1 := ⟨_, rfl⟩
  rw [← e1] at h ⊢
  refine G_aload_n C dX2_beginAnew_5 rfl ?_
  refine G_iload_n C dX2_beginAnew_6 rfl ?_
  refine G_callSI (K := [.inr 0]) (args := [.inl v1]) C (Nat.le_of_ble_eq_true rfl) mo_X5_plainOrder wc_X2_61 rfl dX2_beginAnew_7 h (fun r2 s2 h => ?_)
  refine gP_X2_2 C ld_0 rfl wf_X2_67 dX2_beginAnew_10 ?_
  have h := h _ rfl
  obtain ⟨s3, e3⟩ : ∃ z, z = up s2 0 2 r2 := ⟨_, rfl⟩
  rw [← e3] at h ⊢
  refine G_aload_n C dX2_beginAnew_13 rfl ?_
  refine G_iconst C dX2_beginAnew_14 ?_
  refine gP_X2_3 C ld_0 rfl wf_X2_70 dX2_beginAnew_15 ?_
  have h := h _ rfl
  obtain ⟨s4, e4⟩ : ∃ z, z = up s3 0 3 0 := ⟨_, rfl⟩
  rw [← e4] at h ⊢
  refine G_aload_n C dX2_beginAnew_18 rfl ?_
  refine gR_X2_5 C ld_0 rfl wf_X2_18 dX2_beginAnew_19 ?_
  refine G_iconst C dX2_beginAnew_22 ?_
  refine gP_X6_0 C ld_2 rfl wf_X2_73 dX2_beginAnew_23 ?_
  have h := h _ rfl
  obtain ⟨s5, e5⟩ : ∃ z, z = up s4 2 0 0 := ⟨_, rfl⟩
  rw [← e5] at h ⊢
  refine G_aload_n C dX2_beginAnew_26 rfl ?_
  refine G_iconst C dX2_beginAnew_27 ?_
  refine gP_X2_9 C ld_0 rfl wf_X2_76 dX2_beginAnew_28 ?_
  have h := h _ rfl
  obtain ⟨s6, e6⟩ : ∃ z, z = up s5 0 9 0 := ⟨_, rfl⟩
  rw [← e6] at h ⊢
  refine G_aload_n C dX2_beginAnew_31 rfl ?_
  refine G_iconst C dX2_beginAnew_32 ?_
  refine gP_X2_11 C ld_0 rfl wf_X2_79 dX2_beginAnew_33 ?_
  have h := h _ rfl
  obtain ⟨s7, e7⟩ : ∃ z, z = up s6 0 11 0 := ⟨_, rfl⟩
  rw [← e7] at h ⊢
  refine G_aload_n C dX2_beginAnew_36 rfl ?_
  refine gR_X2_15 C ld_0 rfl wf_X2_46 dX2_beginAnew_37 ?_
  refine G_callVV (K := []) (args := []) (T := TX4) (N := 5) C ld_14 rfl (Nat.le_of_ble_eq_true rfl) mo_X4_clear wc_X2_82 rfl dX2_beginAnew_40 h (fun s8 h => ?_)
  refine G_getsF C dX2_beginAnew_43 ?_
  refine G_iconst C dX2_beginAnew_46 ?_
  refine G_aload_n C dX2_beginAnew_47 rfl ?_
  refine gR_X2_4 C ld_0 rfl wf_X2_9 dX2_beginAnew_48 ?_
  refine G_iconst C dX2_beginAnew_51 ?_
  refine G_bipush C dX2_beginAnew_52 bi_7 ?_
  refine G_copyF C ld_1 (by decide) h1d (Nat.le_of_ble_eq_true rfl) ws_244 arw dX2_beginAnew_54 ?_
  have h := h _ rfl
  obtain ⟨s9, e9⟩ : ∃ z, z = cpyF s8 1 := ⟨_, rfl⟩
  rw [← e9] at h ⊢
  refine G_iconst C dX2_beginAnew_57 ?_
  refine G_istore_n (L' := [rv 0, iv v1, iv 0]) C dX2_beginAnew_58 (by decide) rfl ?_
  exact h
set_option maxRecDepth 20000 in
theorem kd_X2_beginAnew_59 {X : Cx} {d : Nat} {P : Sto → Prop} (C : Ok LD X RX2 cX2_beginAnew 3 d) (r : RetV LD X cX2_beginAnew P) {v1 v2 : Int} {s : Sto} (h : ((rg v2) ∧ ((24 ≤ v2 → G LD X 83 [rv 0, iv v1, iv 0] [] s) ∧ (v2 < 24 → ((0 ≤ v2 ∧ v2 < 24) ∧ (∀ s1 : Sto, s1 = up s 7 v2 0 → G LD X 59 [rv 0, iv v1, iv (v2 + 1)] [] s1)))))) : G LD X 59 [rv 0, iv v1, iv v2] [] s := by
  refine G_iload_n C dX2_beginAnew_59 rfl ?_
  refine G_aload_n C dX2_beginAnew_60 rfl ?_
  refine gR_X2_6 C ld_0 rfl wf_X2_22 dX2_beginAnew_61 ?_
  refine G_alen C ld_7 dX2_beginAnew_64 ?_
  refine G_top (b := 24) rfl ?_
  refine G_icmp_ge (tgt := 81) C dX2_beginAnew_65 (by decide) ⟨h.1, (by decide)⟩ (fun q => ?_) (fun q => ?_)
  · have h := h.2.1 q
    refine G_iconst C dX2_beginAnew_81 ?_
    refine G_istore_n (L' := [rv 0, iv v1, iv 0]) C dX2_beginAnew_82 (by decide) rfl ?_
    exact h
  · have h := h.2.2 q
    refine G_aload_n C dX2_beginAnew_68 rfl ?_
    refine gR_X2_6 C ld_0 rfl wf_X2_22 dX2_beginAnew_69 ?_
    refine G_iload_n C dX2_beginAnew_72 rfl ?_
    refine G_iconst C dX2_beginAnew_73 ?_
    refine G_iast C ld_7 (by decide) h.1 dX2_beginAnew_74 ?_
    have h := h.2
    have h := h _ rfl
    obtain ⟨s1, e1⟩ : ∃ z, z = up s 7 v2 0 := ⟨_, rfl⟩
    rw [← e1] at h ⊢
    refine G_iinc (L' := [rv 0, iv v1, iv (v2 + 1)]) C dX2_beginAnew_75 (by decide) rfl rfl ?_
    refine G_goto (tgt := 59) C dX2_beginAnew_78 (by decide) ?_
    exact h
set_option maxRecDepth 20000 in
theorem kd_X2_beginAnew_83 {X : Cx} {d : Nat} {P : Sto → Prop} (C : Ok LD X RX2 cX2_beginAnew 3 d) (r : RetV LD X cX2_beginAnew P) {v1 v2 : Int} {s : Sto} (h : ((rg v2) ∧ ((6 ≤ v2 → P s) ∧ (v2 < 6 → ((0 ≤ v2 ∧ v2 < 6) ∧ (∀ s1 : Sto, s1 = up s 8 v2 (-1) → ((0 ≤ v2 ∧ v2 < 6) ∧ (∀ s2 : Sto, s2 = up s1 9 v2 0 → G LD X 83 [rv 0, iv v1, iv (v2 + 1)] [] s2)))))))) : G LD X 83 [rv 0, iv v1, iv v2] [] s := by
  refine G_iload_n C dX2_beginAnew_83 rfl ?_
  refine G_bipush C dX2_beginAnew_84 bi_6 ?_
  refine G_icmp_ge (tgt := 109) C dX2_beginAnew_86 (by decide) ⟨h.1, (by decide)⟩ (fun q => ?_) (fun q => ?_)
  · have h := h.2.1 q
    exact r _ _ _ dX2_beginAnew_109 h
  · have h := h.2.2 q
    refine G_aload_n C dX2_beginAnew_89 rfl ?_
    refine gR_X2_7 C ld_0 rfl wf_X2_25 dX2_beginAnew_90 ?_
    refine G_iload_n C dX2_beginAnew_93 rfl ?_
    refine G_iconst C dX2_beginAnew_94 ?_
    refine G_iast C ld_8 (by decide) h.1 dX2_beginAnew_95 ?_
    have h := h.2
    have h := h _ rfl
    obtain ⟨s1, e1⟩ : ∃ z, z = up s 8 v2 (-1) := ⟨_, rfl⟩
    rw [← e1] at h ⊢
    refine G_aload_n C dX2_beginAnew_96 rfl ?_
    refine gR_X2_8 C ld_0 rfl wf_X2_28 dX2_beginAnew_97 ?_
    refine G_iload_n C dX2_beginAnew_100 rfl ?_
    refine G_iconst C dX2_beginAnew_101 ?_
    refine G_iast C ld_9 (by decide) h.1 dX2_beginAnew_102 ?_
    have h := h.2
    have h := h _ rfl
    obtain ⟨s2, e2⟩ : ∃ z, z = up s1 9 v2 0 := ⟨_, rfl⟩
    rw [← e2] at h ⊢
    refine G_iinc (L' := [rv 0, iv v1, iv (v2 + 1)]) C dX2_beginAnew_103 (by decide) rfl rfl ?_
    refine G_goto (tgt := 83) C dX2_beginAnew_106 (by decide) ?_
    exact h
set_option maxHeartbeats 2000000 in
theorem td_X5_plainOrder {K : Int} {s : Sto} (hK : 2 ≤ K ∧ K ≤ 8) : ClI LD 0 MX5_plainOrder [.inl K] s (fun r s' => s' = s ∧ r = pq 8 (fun i => i) K.toNat) := by
  refine ClI.intro (by decide) rfl (Nat.le_of_ble_eq_true rfl) (fun X C r => ?_)
  refine kd_X5_plainOrder_0 C r ?_
  refine (show G LD X 4 [iv K, iv (pq 8 (fun i => i) (0 : Int).toNat), iv 0] [] s from downI (P := fun k => G LD X 4 [iv K, iv (pq 8 (fun i => i) k.toNat), iv k] [] s) (a := 0) (b := K) (by omega) ?_ ?_)
  · refine kd_X5_plainOrder_4 C r ⟨⟨⟨by omega, by omega⟩, ⟨by omega, by omega⟩⟩, fun _ => ⟨rfl, rfl⟩, fun q => absurd q (by omega)⟩
  · intro k h1 h2 ih
    refine kd_X5_plainOrder_4 C r ⟨⟨⟨by omega, by omega⟩, ⟨by omega, by omega⟩⟩, fun q => absurd q (by omega), fun _ => ?_⟩
    have e := od_step (b := fun i => i + 97) (i := k.toNat) (by omega) (fun j hj => by constructor <;> omega)
    have e0 : (fun j : Int => j + 97 - 97) = fun j => j := by funext j; omega
    simp only [e0] at e
    rw [Int.toNat_of_nonneg h1, show k + 97 - 97 = k by omega] at e
    rw [e, show k.toNat + 1 = (k + 1).toNat by omega]
    exact ih
theorem td_X4_clear {s : Sto} : ClV LD 0 MX4_clear [.inr 14] s (fun s' => s' = up (up s 14 0 0) 14 1 0) := by
  refine ClV.intro (by decide) rfl (Nat.le_of_ble_eq_true rfl) (fun X C r => ?_)
  refine kd_X4_clear_0 C r ?_
  rintro s1 rfl
  rintro s2 rfl
  rfl
/-- a fresh LAND -/
def sL0 : Sto := fun c i => if c = 0 ∧ i = 0 then 5 else if c = 0 ∧ i = 2 then pq 8 (fun i => i) 5 else if c = 1 ∧ 0 ≤ i ∧ i < 7 then stA 502 i else if c = 8 ∧ 0 ≤ i ∧ i < 6 then -1 else 0
set_option maxHeartbeats 2000000 in
theorem td_X2_beginAnew : ClV LD 1 MX2_beginAnew [.inr 0, .inl 5] (fun _ _ => 0) (fun s' => s' = sL0) := by
  refine ClV.intro (by decide) rfl (Nat.le_of_ble_eq_true rfl) (fun X C r => ?_)
  refine kd_X2_beginAnew_0 C r (by omega) ?_
  rintro s1 rfl
  refine ⟨0, _, by decide, td_X5_plainOrder (by decide), ?_⟩
  rintro o s2 ⟨rfl, ho⟩
  rintro s3 rfl
  rintro s4 rfl
  rintro s5 rfl
  rintro s6 rfl
  rintro s7 rfl
  refine ⟨0, _, by decide, td_X4_clear, ?_⟩
  rintro s8 rfl
  rintro s9 rfl
  generalize hu : cpyF (up (up (up (up (up (up (up (up (fun _ _ => 0) 0 0 5) 0 2 o) 0 3 0) 2 0 0) 0 9 0) 0 11 0) 14 0 0) 14 1 0) 1 = u
  have hv : ∀ c i, u c i = if c = 1 ∧ 0 ≤ i ∧ i < 7 then stA 502 i else if c = 0 ∧ i = 0 then 5 else if c = 0 ∧ i = 2 then o else 0 := by
    intro c i
    rw [← hu]
    show (if c = 1 ∧ 0 ≤ i ∧ i < 7 then stA 502 i else _) = _
    by_cases h : c = 1 ∧ 0 ≤ i ∧ i < 7
    · rw [if_pos h, if_pos h]
    · rw [if_neg h, if_neg h]
      simp only [up]
      repeat' split
      all_goals first | rfl | omega
  clear hu
  have hend : ∀ S : Sto, (∀ c i, c ≠ 8 → S c i = u c i) → (∀ i, S 8 i = if 0 ≤ i ∧ i < 6 then -1 else 0) → S = sL0 := by
    intro S h1 h2
    funext c i
    show S c i = (if c = 0 ∧ i = 0 then 5 else if c = 0 ∧ i = 2 then pq 8 (fun i => i) 5 else if c = 1 ∧ 0 ≤ i ∧ i < 7 then stA 502 i else if c = 8 ∧ 0 ≤ i ∧ i < 6 then -1 else 0)
    by_cases h8 : c = 8
    · subst h8
      rw [h2, if_neg (by omega : ¬ ((8 : Nat) = 0 ∧ i = 0)), if_neg (by omega : ¬ ((8 : Nat) = 0 ∧ i = 2)), if_neg (by omega : ¬ ((8 : Nat) = 1 ∧ 0 ≤ i ∧ i < 7))]
      by_cases g : 0 ≤ i ∧ i < 6
      · rw [if_pos g, if_pos ⟨rfl, g⟩]
      · rw [if_neg g, if_neg (fun q => g q.2)]
    · rw [h1 c i h8, hv, if_neg (fun q => h8 q.1 : ¬ (c = 8 ∧ 0 ≤ i ∧ i < 6)), ho]
      by_cases g1 : c = 1
      · subst g1
        rw [if_neg (by omega : ¬ ((1 : Nat) = 0 ∧ i = 0)), if_neg (by omega : ¬ ((1 : Nat) = 0 ∧ i = 2)), if_neg (by omega : ¬ ((1 : Nat) = 0 ∧ i = 0)), if_neg (by omega : ¬ ((1 : Nat) = 0 ∧ i = 2))]
      · rw [if_neg (fun q => g1 q.1 : ¬ (c = 1 ∧ 0 ≤ i ∧ i < 7)), if_neg (fun q => g1 q.1 : ¬ (c = 1 ∧ 0 ≤ i ∧ i < 7))]
        rfl
  have h2u : ∀ i, u 8 i = 0 := fun i => by
    rw [hv, if_neg (by omega), if_neg (by omega), if_neg (by omega)]
  have h7u : ∀ c i, c ≠ 0 → c ≠ 1 → u c i = 0 := fun c i g1 g2 => by
    rw [hv, if_neg (by omega), if_neg (by omega), if_neg (by omega)]
  have e7 : ∀ c j, c ≠ 0 → c ≠ 1 → up u c j 0 = u := fun c j g1 g2 => by
    funext c' i'
    by_cases h : c' = c ∧ i' = j
    · rw [h.1, h.2, up_at, h7u c j g1 g2]
    · exact up_ne h
  suffices H : ∀ j : Int, 0 ≤ j → j ≤ 24 → G LD X 59 [rv 0, iv 5, iv j] [] u from H 0 (by decide) (by decide)
  intro j0 hj0 hj1
  refine downI (P := fun j => G LD X 59 [rv 0, iv 5, iv j] [] u) (a := j0) (b := 24) hj1 ?_ ?_
  · refine kd_X2_beginAnew_59 C r ⟨by decide, fun _ => ?_, fun q => absurd q (by decide)⟩
    suffices H : ∀ S : Sto, ((∀ c i, c ≠ 8 → S c i = u c i) ∧ ∀ i : Int, S 8 i = if 0 ≤ i ∧ i < 0 then -1 else 0) → G LD X 83 [rv 0, iv 5, iv 0] [] S from H u ⟨fun _ _ _ => rfl, fun i => by rw [h2u, if_neg (by omega)]⟩
    refine downI (P := fun j => ∀ S : Sto, ((∀ c i, c ≠ 8 → S c i = u c i) ∧ ∀ i : Int, S 8 i = if 0 ≤ i ∧ i < j then -1 else 0) → G LD X 83 [rv 0, iv 5, iv j] [] S) (a := 0) (b := 6) (by decide) ?_ ?_
    · rintro S ⟨h1, h2⟩
      exact kd_X2_beginAnew_83 C r ⟨by decide, fun _ => hend S h1 h2, fun q => absurd q (by decide)⟩
    · rintro j g1 g2 ih S ⟨h1, h2⟩
      refine kd_X2_beginAnew_83 C r ⟨⟨by omega, by omega⟩, fun q => absurd q (by omega), fun _ => ⟨⟨g1, g2⟩, ?_⟩⟩
      rintro s1 rfl
      refine ⟨⟨g1, g2⟩, ?_⟩
      rintro s2 rfl
      refine ih _ ⟨fun c i hc => ?_, fun i => ?_⟩
      · by_cases g9 : c = 9 ∧ i = j
        · rw [g9.1, g9.2, up_at, h7u 9 j (by decide) (by decide)]
        · rw [up_ne g9, up_ne (fun q => hc q.1), h1 c i hc]
      · rw [up_row (by decide), up_if, h2]
        by_cases g : i = j
        · rw [if_pos g, if_pos (by omega)]
        · rw [if_neg g]
          by_cases g3 : 0 ≤ i ∧ i < j
          · rw [if_pos g3, if_pos (by omega)]
          · rw [if_neg g3, if_neg (by omega)]
  · intro j g1 g2 ih
    refine kd_X2_beginAnew_59 C r ⟨⟨by omega, by omega⟩, fun q => absurd q (by omega), fun _ => ⟨⟨by omega, g2⟩, ?_⟩⟩
    rintro s1 rfl
    rw [e7 7 j (by decide) (by decide)]
    exact ih
