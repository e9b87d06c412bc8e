set_option maxRecDepth 20000 in
theorem kb_X3_harmOf_0 {X : Cx} {d : Nat} {P : Int → Sto → Prop} (C : Ok LY X RX3 cX3_harmOf 6 d) (r : RetI LY X cX3_harmOf P) {v3 : Int} {s : Sto} (h : (CallV LY d MX7_lineUp [.inr 46, .inr 3, .inl v3] s (fun s1 => G LY X 12 [rv 69, rv 3, rv 46, iv v3, iv 0, iv 0] [] s1))) : G LY X 0 [rv 69, rv 3, rv 46, iv v3, none, none] [] s := by
  refine G_aload_n C dX3_harmOf_0 rfl ?_
  refine G_aload_n C dX3_harmOf_1 rfl ?_
  refine G_iload_n C dX3_harmOf_2 rfl ?_
  refine G_callVV (K := []) (args := [.inr 3, .inl v3]) (T := TX7) (N := 5) C ly_46 rfl (Nat.le_of_ble_eq_true rfl) mo_X7_lineUp wc_X3_54 rfl dX3_harmOf_3 h (fun s1 h => ?_)
  refine G_iconst C dX3_harmOf_6 ?_
  refine G_istore (L' := [rv 69, rv 3, rv 46, iv v3, iv 0, none]) C dX3_harmOf_7 (by decide) rfl ?_
  refine G_iconst C dX3_harmOf_9 ?_
  refine G_istore (L' := [rv 69, rv 3, rv 46, iv v3, iv 0, iv 0]) C dX3_harmOf_10 (by decide) rfl ?_
  exact h
set_option maxRecDepth 20000 in
theorem kb_X3_harmOf_12 {X : Cx} {d : Nat} {P : Int → Sto → Prop} (C : Ok LY X RX3 cX3_harmOf 6 d) (r : RetI LY X cX3_harmOf P) (h1d : 1 ≤ d) {v3 v4 v5 : Int} {s : Sto} (h : ((rg v5 ∧ rg (s 5 0)) ∧ (((s 5 0) ≤ v5 → P v4 s) ∧ (v5 < (s 5 0) → ((0 ≤ v5 ∧ v5 < 20) ∧ (CallI LY d MX7_worthOf [.inr 46, .inl v5] s (fun r1 s1 => ((rg ((s 70 v5) - r1)) ∧ ((0 ≤ v5 ∧ v5 < 20) ∧ G LY X 12 [rv 69, rv 3, rv 46, iv v3, iv (v4 + ((max 0 ((s 70 v5) - r1)) * (s1 71 v5))), iv (v5 + 1)] [] s1))))))))) : G LY X 12 [rv 69, rv 3, rv 46, iv v3, iv v4, iv v5] [] s := by
  refine G_iload C dX3_harmOf_12 rfl ?_
  refine G_aload_n C dX3_harmOf_14 rfl ?_
  refine gR_X2_5 C ly_3 rfl wf_X3_34 dX3_harmOf_15 ?_
  refine gI_X6_0 C ly_5 rfl wf_X3_40 dX3_harmOf_18 ?_
  refine G_icmp_ge (tgt := 61) C dX3_harmOf_21 (by decide) ⟨h.1.1, h.1.2⟩ (fun q => ?_) (fun q => ?_)
  · have h := h.2.1 q
    refine G_iload C dX3_harmOf_61 rfl ?_
    exact r _ _ _ _ dX3_harmOf_63 h
  · have h := h.2.2 q
    refine G_iload C dX3_harmOf_24 rfl ?_
    refine G_iconst C dX3_harmOf_26 ?_
    refine G_aload_n C dX3_harmOf_27 rfl ?_
    refine gR_X3_0 C ly_69 rfl wf_X3_9 dX3_harmOf_28 ?_
    refine G_iload C dX3_harmOf_31 rfl ?_
    refine G_iald C ly_70 (by decide) h.1 dX3_harmOf_33 ?_
    have h := h.2
    refine G_aload_n C dX3_harmOf_34 rfl ?_
    refine G_iload C dX3_harmOf_35 rfl ?_
    refine G_callVI (K := [.inl (s 70 v5), .inl 0, .inl v4]) (args := [.inl v5]) (T := TX7) (N := 5) C ly_46 rfl (Nat.le_of_ble_eq_true rfl) mo_X7_worthOf wc_X3_58 rfl dX3_harmOf_37 h (fun r1 s1 h => ?_)
    refine G_isub C dX3_harmOf_40 ?_
    refine G_max C ⟨(by decide), h.1⟩ h1d (Nat.le_of_ble_eq_true rfl) ws_1089 mmaxw dX3_harmOf_41 ?_
    have h := h.2
    refine G_aload_n C dX3_harmOf_44 rfl ?_
    refine gR_X3_1 C ly_69 rfl wf_X3_15 dX3_harmOf_45 ?_
    refine G_iload C dX3_harmOf_48 rfl ?_
    refine G_iald C ly_71 (by decide) h.1 dX3_harmOf_50 ?_
    have h := h.2
    refine G_imul C dX3_harmOf_51 ?_
    refine G_iadd C dX3_harmOf_52 ?_
    refine G_istore (L' := [rv 69, rv 3, rv 46, iv v3, iv (v4 + ((max 0 ((s 70 v5) - r1)) * (s1 71 v5))), iv v5]) C dX3_harmOf_53 (by decide) rfl ?_
    refine G_iinc (L' := [rv 69, rv 3, rv 46, iv v3, iv (v4 + ((max 0 ((s 70 v5) - r1)) * (s1 71 v5))), iv (v5 + 1)]) C dX3_harmOf_55 (by decide) rfl rfl ?_
    refine G_goto (tgt := 12) C dX3_harmOf_58 (by decide) ?_
    exact h
set_option maxRecDepth 20000 in
theorem kb_X3_findLeastHarm_0 {X : Cx} {d : Nat} {P : Sto → Prop} (C : Ok LY X RX3 cX3_findLeastHarm 7 d) (r : RetV LY X cX3_findLeastHarm P) {s : Sto} (h : (CallV LY d MX3_weighPeople [.inr 69, .inr 3, .inr 46] s (fun s1 => (∀ s2 : Sto, s2 = up s1 69 5 (-1) → (∀ s3 : Sto, s3 = up s2 69 6 (s2 3 2) → G LY X 21 [rv 69, rv 3, rv 46, iv 0, none, none, none] [] s3))))) : G LY X 0 [rv 69, rv 3, rv 46, none, none, none, none] [] s := by
  refine G_aload_n C dX3_findLeastHarm_0 rfl ?_
  refine G_aload_n C dX3_findLeastHarm_1 rfl ?_
  refine G_aload_n C dX3_findLeastHarm_2 rfl ?_
  refine G_callVV (K := []) (args := [.inr 3, .inr 46]) (T := TX3) (N := 7) C ly_69 rfl (Nat.le_of_ble_eq_true rfl) mo_X3_weighPeople wc_X3_68 rfl dX3_findLeastHarm_3 h (fun s1 h => ?_)
  refine G_aload_n C dX3_findLeastHarm_6 rfl ?_
  refine G_iconst C dX3_findLeastHarm_7 ?_
  refine gP_X3_5 C ly_69 rfl wf_X3_27 dX3_findLeastHarm_8 ?_
  have h := h _ rfl
  obtain ⟨s2, e2⟩ : ∃ z, z = up s1 69 5 (-1) := ⟨_, rfl⟩
  rw [← e2] at h ⊢
  refine G_aload_n C dX3_findLeastHarm_11 rfl ?_
  refine G_aload_n C dX3_findLeastHarm_12 rfl ?_
  refine gI_X2_2 C ly_3 rfl wf_X3_51 dX3_findLeastHarm_13 ?_
  refine gP_X3_6 C ly_69 rfl wf_X3_31 dX3_findLeastHarm_16 ?_
  have h := h _ rfl
  obtain ⟨s3, e3⟩ : ∃ z, z = up s2 69 6 (s2 3 2) := ⟨_, rfl⟩
  rw [← e3] at h ⊢
  refine G_iconst C dX3_findLeastHarm_19 ?_
  refine G_istore_n (L' := [rv 69, rv 3, rv 46, iv 0, none, none, none]) C dX3_findLeastHarm_20 (by decide) rfl ?_
  exact h
set_option maxRecDepth 20000 in
theorem kb_X3_findLeastHarm_21 {X : Cx} {d : Nat} {P : Sto → Prop} (C : Ok LY X RX3 cX3_findLeastHarm 7 d) (r : RetV LY X cX3_findLeastHarm P) {v3 : Int} {s : Sto} (h : ((rg v3 ∧ rg (s 3 0)) ∧ (((s 3 0) ≤ v3 → G LY X 47 [rv 69, rv 3, rv 46, iv 1, iv 0, none, none] [] s) ∧ (v3 < (s 3 0) → ((0 ≤ v3 ∧ v3 < 8) ∧ (∀ s1 : Sto, s1 = up s 72 v3 v3 → G LY X 21 [rv 69, rv 3, rv 46, iv (v3 + 1), none, none, none] [] s1)))))) : G LY X 21 [rv 69, rv 3, rv 46, iv v3, none, none, none] [] s := by
  refine G_iload_n C dX3_findLeastHarm_21 rfl ?_
  refine G_aload_n C dX3_findLeastHarm_22 rfl ?_
  refine gI_X2_0 C ly_3 rfl wf_X3_72 dX3_findLeastHarm_23 ?_
  refine G_icmp_ge (tgt := 42) C dX3_findLeastHarm_26 (by decide) ⟨h.1.1, h.1.2⟩ (fun q => ?_) (fun q => ?_)
  · have h := h.2.1 q
    refine G_iconst C dX3_findLeastHarm_42 ?_
    refine G_istore_n (L' := [rv 69, rv 3, rv 46, iv 1, none, none, none]) C dX3_findLeastHarm_43 (by decide) rfl ?_
    refine G_iconst C dX3_findLeastHarm_44 ?_
    refine G_istore (L' := [rv 69, rv 3, rv 46, iv 1, iv 0, none, none]) C dX3_findLeastHarm_45 (by decide) rfl ?_
    exact h
  · have h := h.2.2 q
    refine G_aload_n C dX3_findLeastHarm_29 rfl ?_
    refine gR_X3_2 C ly_69 rfl wf_X3_18 dX3_findLeastHarm_30 ?_
    refine G_iload_n C dX3_findLeastHarm_33 rfl ?_
    refine G_iload_n C dX3_findLeastHarm_34 rfl ?_
    refine G_iast C ly_72 (by decide) h.1 dX3_findLeastHarm_35 ?_
    have h := h.2
    have h := h _ rfl
    obtain ⟨s1, e1⟩ : ∃ z, z = up s 72 v3 v3 := ⟨_, rfl⟩
    rw [← e1] at h ⊢
    refine G_iinc (L' := [rv 69, rv 3, rv 46, iv (v3 + 1), none, none, none]) C dX3_findLeastHarm_36 (by decide) rfl rfl ?_
    refine G_goto (tgt := 21) C dX3_findLeastHarm_39 (by decide) ?_
    exact h
set_option maxRecDepth 20000 in
theorem kb_X3_findLeastHarm_47 {X : Cx} {d : Nat} {P : Sto → Prop} (C : Ok LY X RX3 cX3_findLeastHarm 7 d) (r : RetV LY X cX3_findLeastHarm P) {v3 v4 : Int} {s : Sto} (h : ((rg v4) ∧ ((720 ≤ v4 → P s) ∧ (v4 < 720 → ((rg v3) ∧ ((v3 = 0 → P s) ∧ (v3 ≠ 0 → (CallI LY d MX3_packedRow [.inr 69, .inl (s 3 0)] s (fun r1 s1 => ((rg r1 ∧ rg (s1 3 2)) ∧ ((r1 = (s1 3 2) → (CallI LY d MX3_nextRow [.inr 69, .inl (s1 3 0)] s1 (fun r2 s2 => G LY X 47 [rv 69, rv 3, rv 46, iv r2, iv (v4 + 1), none, none] [] s2))) ∧ (r1 ≠ (s1 3 2) → (CallI LY d MX3_harmOf [.inr 69, .inr 3, .inr 46, .inl r1] s1 (fun r3 s3 => ((rg (s3 69 5)) ∧ (((s3 69 5) = (-1) → (∀ s4 : Sto, s4 = up s3 69 5 r3 → (∀ s5 : Sto, s5 = up s4 69 6 r1 → (CallI LY d MX3_nextRow [.inr 69, .inl (s5 3 0)] s5 (fun r6 s6 => G LY X 47 [rv 69, rv 3, rv 46, iv r6, iv (v4 + 1), none, none] [] s6))))) ∧ ((s3 69 5) ≠ (-1) → ((rg r3 ∧ rg (s3 69 5)) ∧ (((s3 69 5) ≤ r3 → (CallI LY d MX3_nextRow [.inr 69, .inl (s3 3 0)] s3 (fun r7 s7 => G LY X 47 [rv 69, rv 3, rv 46, iv r7, iv (v4 + 1), none, none] [] s7))) ∧ (r3 < (s3 69 5) → (∀ s8 : Sto, s8 = up s3 69 5 r3 → (∀ s9 : Sto, s9 = up s8 69 6 r1 → (CallI LY d MX3_nextRow [.inr 69, .inl (s9 3 0)] s9 (fun r10 s10 => G LY X 47 [rv 69, rv 3, rv 46, iv r10, iv (v4 + 1), none, none] [] s10)))))))))))))))))))))))) : G LY X 47 [rv 69, rv 3, rv 46, iv v3, iv v4, none, none] [] s := by
  refine G_iload C dX3_findLeastHarm_47 rfl ?_
  refine G_sipush C dX3_findLeastHarm_49 si_720 ?_
  refine G_icmp_ge (tgt := 132) C dX3_findLeastHarm_52 (by decide) ⟨h.1, (by decide)⟩ (fun q => ?_) (fun q => ?_)
  · have h := h.2.1 q
    exact r _ _ _ dX3_findLeastHarm_132 h
  · have h := h.2.2 q
    refine G_iload_n C dX3_findLeastHarm_55 rfl ?_
    refine G_if_eq (tgt := 132) C dX3_findLeastHarm_56 (by decide) h.1 (fun q => ?_) (fun q => ?_)
    · have h := h.2.1 q
      exact r _ _ _ dX3_findLeastHarm_132 h
    · have h := h.2.2 q
      refine G_aload_n C dX3_findLeastHarm_59 rfl ?_
      refine G_aload_n C dX3_findLeastHarm_60 rfl ?_
      refine gI_X2_0 C ly_3 rfl wf_X3_72 dX3_findLeastHarm_61 ?_
      refine G_callVI (K := []) (args := [.inl (s 3 0)]) (T := TX3) (N := 7) C ly_69 rfl (Nat.le_of_ble_eq_true rfl) mo_X3_packedRow wc_X3_75 rfl dX3_findLeastHarm_64 h (fun r1 s1 h => ?_)
      refine G_istore (L' := [rv 69, rv 3, rv 46, iv v3, iv v4, iv r1, none]) C dX3_findLeastHarm_67 (by decide) rfl ?_
      refine G_iload C dX3_findLeastHarm_69 rfl ?_
      refine G_aload_n C dX3_findLeastHarm_71 rfl ?_
      refine gI_X2_2 C ly_3 rfl wf_X3_51 dX3_findLeastHarm_72 ?_
      refine G_icmp_eq (tgt := 117) C dX3_findLeastHarm_75 (by decide) ⟨h.1.1, h.1.2⟩ (fun q => ?_) (fun q => ?_)
      · have h := h.2.1 q
        refine G_aload_n C dX3_findLeastHarm_117 rfl ?_
        refine G_aload_n C dX3_findLeastHarm_118 rfl ?_
        refine gI_X2_0 C ly_3 rfl wf_X3_72 dX3_findLeastHarm_119 ?_
        refine G_callVI (K := []) (args := [.inl (s1 3 0)]) (T := TX3) (N := 7) C ly_69 rfl (Nat.le_of_ble_eq_true rfl) mo_X3_nextRow wc_X3_82 rfl dX3_findLeastHarm_122 h (fun r2 s2 h => ?_)
        refine G_istore_n (L' := [rv 69, rv 3, rv 46, iv r2, iv v4, iv r1, none]) C dX3_findLeastHarm_125 (by decide) rfl ?_
        refine G_iinc (L' := [rv 69, rv 3, rv 46, iv r2, iv (v4 + 1), iv r1, none]) C dX3_findLeastHarm_126 (by decide) rfl rfl ?_
        refine G_goto (tgt := 47) C dX3_findLeastHarm_129 (by decide) ?_
        refine G_drop (i := 5) (L' := [rv 69, rv 3, rv 46, iv r2, iv (v4 + 1), none, none]) rfl ?_
        exact h
      · have h := h.2.2 q
        refine G_aload_n C dX3_findLeastHarm_78 rfl ?_
        refine G_aload_n C dX3_findLeastHarm_79 rfl ?_
        refine G_aload_n C dX3_findLeastHarm_80 rfl ?_
        refine G_iload C dX3_findLeastHarm_81 rfl ?_
        refine G_callVI (K := []) (args := [.inr 3, .inr 46, .inl r1]) (T := TX3) (N := 7) C ly_69 rfl (Nat.le_of_ble_eq_true rfl) mo_X3_harmOf wc_X3_78 rfl dX3_findLeastHarm_83 h (fun r3 s3 h => ?_)
        refine G_istore (L' := [rv 69, rv 3, rv 46, iv v3, iv v4, iv r1, iv r3]) C dX3_findLeastHarm_86 (by decide) rfl ?_
        refine G_aload_n C dX3_findLeastHarm_88 rfl ?_
        refine gI_X3_5 C ly_69 rfl wf_X3_27 dX3_findLeastHarm_89 ?_
        refine G_iconst C dX3_findLeastHarm_92 ?_
        refine G_icmp_eq (tgt := 105) C dX3_findLeastHarm_93 (by decide) ⟨h.1, (by decide)⟩ (fun q => ?_) (fun q => ?_)
        · have h := h.2.1 q
          refine G_aload_n C dX3_findLeastHarm_105 rfl ?_
          refine G_iload C dX3_findLeastHarm_106 rfl ?_
          refine gP_X3_5 C ly_69 rfl wf_X3_27 dX3_findLeastHarm_108 ?_
          have h := h _ rfl
          obtain ⟨s4, e4⟩ : ∃ z, z = up s3 69 5 r3 := ⟨_, rfl⟩
          rw [← e4] at h ⊢
          refine G_aload_n C dX3_findLeastHarm_111 rfl ?_
          refine G_iload C dX3_findLeastHarm_112 rfl ?_
          refine gP_X3_6 C ly_69 rfl wf_X3_31 dX3_findLeastHarm_114 ?_
          have h := h _ rfl
          obtain ⟨s5, e5⟩ : ∃ z, z = up s4 69 6 r1 := ⟨_, rfl⟩
          rw [← e5] at h ⊢
          refine G_aload_n C dX3_findLeastHarm_117 rfl ?_
          refine G_aload_n C dX3_findLeastHarm_118 rfl ?_
          refine gI_X2_0 C ly_3 rfl wf_X3_72 dX3_findLeastHarm_119 ?_
          refine G_callVI (K := []) (args := [.inl (s5 3 0)]) (T := TX3) (N := 7) C ly_69 rfl (Nat.le_of_ble_eq_true rfl) mo_X3_nextRow wc_X3_82 rfl dX3_findLeastHarm_122 h (fun r6 s6 h => ?_)
          refine G_istore_n (L' := [rv 69, rv 3, rv 46, iv r6, iv v4, iv r1, iv r3]) C dX3_findLeastHarm_125 (by decide) rfl ?_
          refine G_iinc (L' := [rv 69, rv 3, rv 46, iv r6, iv (v4 + 1), iv r1, iv r3]) C dX3_findLeastHarm_126 (by decide) rfl rfl ?_
          refine G_goto (tgt := 47) C dX3_findLeastHarm_129 (by decide) ?_
          refine G_drop (i := 5) (L' := [rv 69, rv 3, rv 46, iv r6, iv (v4 + 1), none, iv r3]) rfl ?_
          refine G_drop (i := 6) (L' := [rv 69, rv 3, rv 46, iv r6, iv (v4 + 1), none, none]) rfl ?_
          exact h
        · have h := h.2.2 q
          refine G_iload C dX3_findLeastHarm_96 rfl ?_
          refine G_aload_n C dX3_findLeastHarm_98 rfl ?_
          refine gI_X3_5 C ly_69 rfl wf_X3_27 dX3_findLeastHarm_99 ?_
          refine G_icmp_ge (tgt := 117) C dX3_findLeastHarm_102 (by decide) ⟨h.1.1, h.1.2⟩ (fun q => ?_) (fun q => ?_)
          · have h := h.2.1 q
            refine G_aload_n C dX3_findLeastHarm_117 rfl ?_
            refine G_aload_n C dX3_findLeastHarm_118 rfl ?_
            refine gI_X2_0 C ly_3 rfl wf_X3_72 dX3_findLeastHarm_119 ?_
            refine G_callVI (K := []) (args := [.inl (s3 3 0)]) (T := TX3) (N := 7) C ly_69 rfl (Nat.le_of_ble_eq_true rfl) mo_X3_nextRow wc_X3_82 rfl dX3_findLeastHarm_122 h (fun r7 s7 h => ?_)
            refine G_istore_n (L' := [rv 69, rv 3, rv 46, iv r7, iv v4, iv r1, iv r3]) C dX3_findLeastHarm_125 (by decide) rfl ?_
            refine G_iinc (L' := [rv 69, rv 3, rv 46, iv r7, iv (v4 + 1), iv r1, iv r3]) C dX3_findLeastHarm_126 (by decide) rfl rfl ?_
            refine G_goto (tgt := 47) C dX3_findLeastHarm_129 (by decide) ?_
            refine G_drop (i := 5) (L' := [rv 69, rv 3, rv 46, iv r7, iv (v4 + 1), none, iv r3]) rfl ?_
            refine G_drop (i := 6) (L' := [rv 69, rv 3, rv 46, iv r7, iv (v4 + 1), none, none]) rfl ?_
            exact h
          · have h := h.2.2 q
            refine G_aload_n C dX3_findLeastHarm_105 rfl ?_
            refine G_iload C dX3_findLeastHarm_106 rfl ?_
            refine gP_X3_5 C ly_69 rfl wf_X3_27 dX3_findLeastHarm_108 ?_
            have h := h _ rfl
            obtain ⟨s8, e8⟩ : ∃ z, z = up s3 69 5 r3 := ⟨_, rfl⟩
            rw [← e8] at h ⊢
            refine G_aload_n C dX3_findLeastHarm_111 rfl ?_
            refine G_iload C dX3_findLeastHarm_112 rfl ?_
            refine gP_X3_6 C ly_69 rfl wf_X3_31 dX3_findLeastHarm_114 ?_
            have h := h _ rfl
            obtain ⟨s9, e9⟩ : ∃ z, z = up s8 69 6 r1 := ⟨_, rfl⟩
            rw [← e9] at h ⊢
            refine G_aload_n C dX3_findLeastHarm_117 rfl ?_
            refine G_aload_n C dX3_findLeastHarm_118 rfl ?_
            refine gI_X2_0 C ly_3 rfl wf_X3_72 dX3_findLeastHarm_119 ?_
            refine G_callVI (K := []) (args := [.inl (s9 3 0)]) (T := TX3) (N := 7) C ly_69 rfl (Nat.le_of_ble_eq_true rfl) mo_X3_nextRow wc_X3_82 rfl dX3_findLeastHarm_122 h (fun r10 s10 h => ?_)
            refine G_istore_n (L' := [rv 69, rv 3, rv 46, iv r10, iv v4, iv r1, iv r3]) C dX3_findLeastHarm_125 (by decide) rfl ?_
            refine G_iinc (L' := [rv 69, rv 3, rv 46, iv r10, iv (v4 + 1), iv r1, iv r3]) C dX3_findLeastHarm_126 (by decide) rfl rfl ?_
            refine G_goto (tgt := 47) C dX3_findLeastHarm_129 (by decide) ?_
            refine G_drop (i := 5) (L' := [rv 69, rv 3, rv 46, iv r10, iv (v4 + 1), none, iv r3]) rfl ?_
            refine G_drop (i := 6) (L' := [rv 69, rv 3, rv 46, iv r10, iv (v4 + 1), none, none]) rfl ?_
            exact h
set_option maxRecDepth 20000 in
theorem kb_X3_whoStays_0 {X : Cx} {d : Nat} {P : Int → Sto → Prop} (C : Ok LY X RX3 cX3_whoStays 9 d) (r : RetI LY X cX3_whoStays P) (h1d : 1 ≤ d) {v3 : Int} {s : Sto} (h : (CallV LY d MX7_lineUp [.inr 46, .inr 3, .inl (s 3 2)] s (fun s1 => ((((0 : Int) ≤ 0 ∧ (0 : Int) ≤ 0 ∧ (0 : Int) ≤ (s 5 0)) ∧ 0 + (s 5 0) ≤ ((20 : Nat) : Int) ∧ 0 + (s 5 0) ≤ ((20 : Nat) : Int)) ∧ (∀ s2 : Sto, s2 = cpy s1 49 73 0 0 (s 5 0) → (CallV LY d MX7_lineUp [.inr 46, .inr 3, .inl v3] s2 (fun s3 => (CallI LY d MX3_mostInOrder [.inr 69, .inr 46, .inl (s 5 0), .inl ((xshl 1 (s 5 0)) - 1)] s3 (fun r4 s4 => G LY X 64 [rv 69, rv 3, rv 46, iv v3, iv (s 5 0), iv ((xshl 1 (s 5 0)) - 1), iv r4, iv ((s 5 0) - 1), none] [] s4))))))))) : G LY X 0 [rv 69, rv 3, rv 46, iv v3, none, none, none, none, none] [] s := by
  refine G_aload_n C dX3_whoStays_0 rfl ?_
  refine gR_X2_5 C ly_3 rfl wf_X3_34 dX3_whoStays_1 ?_
  refine gI_X6_0 C ly_5 rfl wf_X3_40 dX3_whoStays_4 ?_
  refine G_istore (L' := [rv 69, rv 3, rv 46, iv v3, iv (s 5 0), none, none, none, none]) C dX3_whoStays_7 (by decide) rfl ?_
  refine G_aload_n C dX3_whoStays_9 rfl ?_
  refine G_aload_n C dX3_whoStays_10 rfl ?_
  refine G_aload_n C dX3_whoStays_11 rfl ?_
  refine gI_X2_2 C ly_3 rfl wf_X3_51 dX3_whoStays_12 ?_
  refine G_callVV (K := []) (args := [.inr 3, .inl (s 3 2)]) (T := TX7) (N := 5) C ly_46 rfl (Nat.le_of_ble_eq_true rfl) mo_X7_lineUp wc_X3_54 rfl dX3_whoStays_15 h (fun s1 h => ?_)
  refine G_aload_n C dX3_whoStays_18 rfl ?_
  refine gR_X7_2 C ly_46 rfl wf_X3_90 dX3_whoStays_19 ?_
  refine G_iconst C dX3_whoStays_22 ?_
  refine G_aload_n C dX3_whoStays_23 rfl ?_
  refine gR_X3_3 C ly_69 rfl wf_X3_21 dX3_whoStays_24 ?_
  refine G_iconst C dX3_whoStays_27 ?_
  refine G_iload C dX3_whoStays_28 rfl ?_
  refine G_copy C ly_49 ly_73 (by decide) h.1 h1d (Nat.le_of_ble_eq_true rfl) ws_1120 arw dX3_whoStays_30 ?_
  have h := h.2
  have h := h _ rfl
  obtain ⟨s2, e2⟩ : ∃ z, z = cpy s1 49 73 0 0 (s 5 0) := ⟨_, rfl⟩
  rw [← e2] at h ⊢
  refine G_aload_n C dX3_whoStays_33 rfl ?_
  refine G_aload_n C dX3_whoStays_34 rfl ?_
  refine G_iload_n C dX3_whoStays_35 rfl ?_
  refine G_callVV (K := []) (args := [.inr 3, .inl v3]) (T := TX7) (N := 5) C ly_46 rfl (Nat.le_of_ble_eq_true rfl) mo_X7_lineUp wc_X3_54 rfl dX3_whoStays_36 h (fun s3 h => ?_)
  refine G_iconst C dX3_whoStays_39 ?_
  refine G_iload C dX3_whoStays_40 rfl ?_
  refine G_ishl C dX3_whoStays_42 ?_
  refine G_iconst C dX3_whoStays_43 ?_
  refine G_isub C dX3_whoStays_44 ?_
  refine G_istore (L' := [rv 69, rv 3, rv 46, iv v3, iv (s 5 0), iv ((xshl 1 (s 5 0)) - 1), none, none, none]) C dX3_whoStays_45 (by decide) rfl ?_
  refine G_aload_n C dX3_whoStays_47 rfl ?_
  refine G_aload_n C dX3_whoStays_48 rfl ?_
  refine G_iload C dX3_whoStays_49 rfl ?_
  refine G_iload C dX3_whoStays_51 rfl ?_
  refine G_callVI (K := []) (args := [.inr 46, .inl (s 5 0), .inl ((xshl 1 (s 5 0)) - 1)]) (T := TX3) (N := 7) C ly_69 rfl (Nat.le_of_ble_eq_true rfl) mo_X3_mostInOrder wc_X3_99 rfl dX3_whoStays_53 h (fun r4 s4 h => ?_)
  refine G_istore (L' := [rv 69, rv 3, rv 46, iv v3, iv (s 5 0), iv ((xshl 1 (s 5 0)) - 1), iv r4, none, none]) C dX3_whoStays_56 (by decide) rfl ?_
  refine G_iload C dX3_whoStays_58 rfl ?_
  refine G_iconst C dX3_whoStays_60 ?_
  refine G_isub C dX3_whoStays_61 ?_
  refine G_istore (L' := [rv 69, rv 3, rv 46, iv v3, iv (s 5 0), iv ((xshl 1 (s 5 0)) - 1), iv r4, iv ((s 5 0) - 1), none]) C dX3_whoStays_62 (by decide) rfl ?_
  exact h
set_option maxRecDepth 20000 in
theorem kb_X3_whoStays_64 {X : Cx} {d : Nat} {P : Int → Sto → Prop} (C : Ok LY X RX3 cX3_whoStays 9 d) (r : RetI LY X cX3_whoStays P) {v3 v4 v5 v6 v7 : Int} {s : Sto} (h : ((rg v7) ∧ ((v7 < 0 → P v5 s) ∧ (0 ≤ v7 → (CallI LY d MX3_mostInOrder [.inr 69, .inr 46, .inl v4, .inl (xand v5 (xxor (xshl 1 v7) (-1)))] s (fun r1 s1 => ((rg r1 ∧ rg v6) ∧ ((r1 ≠ v6 → G LY X 64 [rv 69, rv 3, rv 46, iv v3, iv v4, iv v5, iv v6, iv (v7 + (-1)), none] [] s1) ∧ (r1 = v6 → G LY X 64 [rv 69, rv 3, rv 46, iv v3, iv v4, iv (xand v5 (xxor (xshl 1 v7) (-1))), iv v6, iv (v7 + (-1)), none] [] s1))))))))) : G LY X 64 [rv 69, rv 3, rv 46, iv v3, iv v4, iv v5, iv v6, iv v7, none] [] s := by
  refine G_iload C dX3_whoStays_64 rfl ?_
  refine G_if_lt (tgt := 104) C dX3_whoStays_66 (by decide) h.1 (fun q => ?_) (fun q => ?_)
  · have h := h.2.1 q
    refine G_iload C dX3_whoStays_104 rfl ?_
    exact r _ _ _ _ dX3_whoStays_106 h
  · have h := h.2.2 q
    refine G_iload C dX3_whoStays_69 rfl ?_
    refine G_iconst C dX3_whoStays_71 ?_
    refine G_iload C dX3_whoStays_72 rfl ?_
    refine G_ishl C dX3_whoStays_74 ?_
    refine G_iconst C dX3_whoStays_75 ?_
    refine G_ixor C dX3_whoStays_76 ?_
    refine G_iand C dX3_whoStays_77 ?_
    refine G_istore (L' := [rv 69, rv 3, rv 46, iv v3, iv v4, iv v5, iv v6, iv v7, iv (xand v5 (xxor (xshl 1 v7) (-1)))]) C dX3_whoStays_78 (by decide) rfl ?_
    refine G_aload_n C dX3_whoStays_80 rfl ?_
    refine G_aload_n C dX3_whoStays_81 rfl ?_
    refine G_iload C dX3_whoStays_82 rfl ?_
    refine G_iload C dX3_whoStays_84 rfl ?_
    refine G_callVI (K := []) (args := [.inr 46, .inl v4, .inl (xand v5 (xxor (xshl 1 v7) (-1)))]) (T := TX3) (N := 7) C ly_69 rfl (Nat.le_of_ble_eq_true rfl) mo_X3_mostInOrder wc_X3_99 rfl dX3_whoStays_86 h (fun r1 s1 h => ?_)
    refine G_iload C dX3_whoStays_89 rfl ?_
    refine G_icmp_ne (tgt := 98) C dX3_whoStays_91 (by decide) ⟨h.1.1, h.1.2⟩ (fun q => ?_) (fun q => ?_)
    · have h := h.2.1 q
      refine G_iinc (L' := [rv 69, rv 3, rv 46, iv v3, iv v4, iv v5, iv v6, iv (v7 + (-1)), iv (xand v5 (xxor (xshl 1 v7) (-1)))]) C dX3_whoStays_98 (by decide) rfl rfl ?_
      refine G_goto (tgt := 64) C dX3_whoStays_101 (by decide) ?_
      refine G_drop (i := 8) (L' := [rv 69, rv 3, rv 46, iv v3, iv v4, iv v5, iv v6, iv (v7 + (-1)), none]) rfl ?_
      exact h
    · have h := h.2.2 q
      refine G_iload C dX3_whoStays_94 rfl ?_
      refine G_istore (L' := [rv 69, rv 3, rv 46, iv v3, iv v4, iv (xand v5 (xxor (xshl 1 v7) (-1))), iv v6, iv v7, iv (xand v5 (xxor (xshl 1 v7) (-1)))]) C dX3_whoStays_96 (by decide) rfl ?_
      refine G_iinc (L' := [rv 69, rv 3, rv 46, iv v3, iv v4, iv (xand v5 (xxor (xshl 1 v7) (-1))), iv v6, iv (v7 + (-1)), iv (xand v5 (xxor (xshl 1 v7) (-1)))]) C dX3_whoStays_98 (by decide) rfl rfl ?_
      refine G_goto (tgt := 64) C dX3_whoStays_101 (by decide) ?_
      refine G_drop (i := 8) (L' := [rv 69, rv 3, rv 46, iv v3, iv v4, iv (xand v5 (xxor (xshl 1 v7) (-1))), iv v6, iv (v7 + (-1)), none]) rfl ?_
      exact h
set_option maxRecDepth 20000 in
theorem kb_X11_passYear_0 {X : Cx} {d : Nat} {P : Sto → Prop} (C : Ok LY X RX11 cX11_passYear 2 d) (r : RetV LY X cX11_passYear P) {s : Sto} (h : (CallV LY d MX7_payPlaces [.inr 46, .inr 3] s (fun s1 => (CallV LY d MX7_lineUp [.inr 46, .inr 3, .inl (s1 3 2)] s1 (fun s2 => G LY X 31 [rv 0, iv 0] [] s2))))) : G LY X 0 [rv 0, none] [] s := by
  refine G_aload_n C dX11_passYear_0 rfl ?_
  refine gR_X11_5 C ly_0 rfl wf_X11_40 dX11_passYear_1 ?_
  refine G_aload_n C dX11_passYear_4 rfl ?_
  refine gR_X11_1 C ly_0 rfl wf_X11_19 dX11_passYear_5 ?_
  refine G_callVV (K := []) (args := [.inr 3]) (T := TX7) (N := 5) C ly_46 rfl (Nat.le_of_ble_eq_true rfl) mo_X7_payPlaces wc_X11_193 rfl dX11_passYear_8 h (fun s1 h => ?_)
  refine G_aload_n C dX11_passYear_11 rfl ?_
  refine gR_X11_5 C ly_0 rfl wf_X11_40 dX11_passYear_12 ?_
  refine G_aload_n C dX11_passYear_15 rfl ?_
  refine gR_X11_1 C ly_0 rfl wf_X11_19 dX11_passYear_16 ?_
  refine G_aload_n C dX11_passYear_19 rfl ?_
  refine gR_X11_1 C ly_0 rfl wf_X11_19 dX11_passYear_20 ?_
  refine gI_X2_2 C ly_3 rfl wf_X11_140 dX11_passYear_23 ?_
  refine G_callVV (K := []) (args := [.inr 3, .inl (s1 3 2)]) (T := TX7) (N := 5) C ly_46 rfl (Nat.le_of_ble_eq_true rfl) mo_X7_lineUp wc_X11_176 rfl dX11_passYear_26 h (fun s2 h => ?_)
  refine G_iconst C dX11_passYear_29 ?_
  refine G_istore_n (L' := [rv 0, iv 0]) C dX11_passYear_30 (by decide) rfl ?_
  exact h
set_option maxRecDepth 20000 in
theorem kb_X11_passYear_31 {X : Cx} {d : Nat} {P : Sto → Prop} (C : Ok LY X RX11 cX11_passYear 2 d) (r : RetV LY X cX11_passYear P) {v1 : Int} {s : Sto} (h : ((rg v1 ∧ rg (s 5 0)) ∧ (((s 5 0) ≤ v1 → G LY X 92 [rv 0, iv 0] [] s) ∧ (v1 < (s 5 0) → ((0 ≤ v1 ∧ v1 < 20) ∧ (CallI LY d MX7_worthOf [.inr 46, .inl v1] s (fun r1 s1 => ((0 ≤ v1 ∧ v1 < 20) ∧ (∀ s2 : Sto, s2 = up s1 9 v1 ((s 9 v1) + r1) → ((0 ≤ v1 ∧ v1 < 20) ∧ ((0 ≤ v1 ∧ v1 < 20) ∧ (∀ s3 : Sto, s3 = up s2 8 v1 ((s2 8 v1) + 1) → G LY X 31 [rv 0, iv (v1 + 1)] [] s3)))))))))))) : G LY X 31 [rv 0, iv v1] [] s := by
  refine G_iload_n C dX11_passYear_31 rfl ?_
  refine G_aload_n C dX11_passYear_32 rfl ?_
  refine gR_X11_1 C ly_0 rfl wf_X11_19 dX11_passYear_33 ?_
  refine gR_X2_5 C ly_3 rfl wf_X11_116 dX11_passYear_36 ?_
  refine gI_X6_0 C ly_5 rfl wf_X11_245 dX11_passYear_39 ?_
  refine G_icmp_ge (tgt := 90) C dX11_passYear_42 (by decide) ⟨h.1.1, h.1.2⟩ (fun q => ?_) (fun q => ?_)
  · have h := h.2.1 q
    refine G_iconst C dX11_passYear_90 ?_
    refine G_istore_n (L' := [rv 0, iv 0]) C dX11_passYear_91 (by decide) rfl ?_
    exact h
  · have h := h.2.2 q
    refine G_aload_n C dX11_passYear_45 rfl ?_
    refine gR_X11_1 C ly_0 rfl wf_X11_19 dX11_passYear_46 ?_
    refine gR_X2_5 C ly_3 rfl wf_X11_116 dX11_passYear_49 ?_
    refine gR_X6_4 C ly_5 rfl wf_X11_168 dX11_passYear_52 ?_
    refine G_iload_n C dX11_passYear_55 rfl ?_
    refine G_dup2 C dX11_passYear_56 ?_
    refine G_iald C ly_9 (by decide) h.1 dX11_passYear_57 ?_
    have h := h.2
    refine G_aload_n C dX11_passYear_58 rfl ?_
    refine gR_X11_5 C ly_0 rfl wf_X11_40 dX11_passYear_59 ?_
    refine G_iload_n C dX11_passYear_62 rfl ?_
    refine G_callVI (K := [.inl (s 9 v1), .inl v1, .inr 9]) (args := [.inl v1]) (T := TX7) (N := 5) C ly_46 rfl (Nat.le_of_ble_eq_true rfl) mo_X7_worthOf wc_X11_197 rfl dX11_passYear_63 h (fun r1 s1 h => ?_)
    refine G_iadd C dX11_passYear_66 ?_
    refine G_iast C ly_9 (by decide) h.1 dX11_passYear_67 ?_
    have h := h.2
    have h := h _ rfl
    obtain ⟨s2, e2⟩ : ∃ z, z = up s1 9 v1 ((s 9 v1) + r1) := ⟨_, rfl⟩
    rw [← e2] at h ⊢
    refine G_aload_n C dX11_passYear_68 rfl ?_
    refine gR_X11_1 C ly_0 rfl wf_X11_19 dX11_passYear_69 ?_
    refine gR_X2_5 C ly_3 rfl wf_X11_116 dX11_passYear_72 ?_
    refine gR_X6_3 C ly_5 rfl wf_X11_165 dX11_passYear_75 ?_
    refine G_iload_n C dX11_passYear_78 rfl ?_
    refine G_dup2 C dX11_passYear_79 ?_
    refine G_iald C ly_8 (by decide) h.1 dX11_passYear_80 ?_
    have h := h.2
    refine G_iconst C dX11_passYear_81 ?_
    refine G_iadd C dX11_passYear_82 ?_
    refine G_iast C ly_8 (by decide) h.1 dX11_passYear_83 ?_
    have h := h.2
    have h := h _ rfl
    obtain ⟨s3, e3⟩ : ∃ z, z = up s2 8 v1 ((s2 8 v1) + 1) := ⟨_, rfl⟩
    rw [← e3] at h ⊢
    refine G_iinc (L' := [rv 0, iv (v1 + 1)]) C dX11_passYear_84 (by decide) rfl rfl ?_
    refine G_goto (tgt := 31) C dX11_passYear_87 (by decide) ?_
    exact h
set_option maxRecDepth 20000 in
theorem kb_X11_passYear_92 {X : Cx} {d : Nat} {P : Sto → Prop} (C : Ok LY X RX11 cX11_passYear 2 d) (r : RetV LY X cX11_passYear P) {v1 : Int} {s : Sto} (h : ((rg v1 ∧ rg (s 5 0)) ∧ (((s 5 0) ≤ v1 → (∀ s1 : Sto, s1 = up s 3 3 ((s 3 3) + 1) → (((xrem (s1 3 3) 10) ≠ 0 → P s1) ∧ ((xrem (s1 3 3) 10) = 0 → (CallI LY d MX0_orderBy [.inr 59, .inr 3, .inl (s1 4 6)] s1 (fun r2 s2 => (∀ s3 : Sto, s3 = up s2 3 2 r2 → P s3))))))) ∧ (v1 < (s 5 0) → ((0 ≤ v1 ∧ v1 < 20) ∧ ((rg (s 8 v1)) ∧ (((s 8 v1) ≤ 99 → G LY X 92 [rv 0, iv (v1 + 1)] [] s) ∧ (99 < (s 8 v1) → (CallV LY d MX11_beBornAnew [.inr 0, .inl v1] s (fun s4 => G LY X 92 [rv 0, iv (v1 + 1)] [] s4)))))))))) : G LY X 92 [rv 0, iv v1] [] s := by
  refine G_iload_n C dX11_passYear_92 rfl ?_
  refine G_aload_n C dX11_passYear_93 rfl ?_
  refine gR_X11_1 C ly_0 rfl wf_X11_19 dX11_passYear_94 ?_
  refine gR_X2_5 C ly_3 rfl wf_X11_116 dX11_passYear_97 ?_
  refine gI_X6_0 C ly_5 rfl wf_X11_245 dX11_passYear_100 ?_
  refine G_icmp_ge (tgt := 134) C dX11_passYear_103 (by decide) ⟨h.1.1, h.1.2⟩ (fun q => ?_) (fun q => ?_)
  · have h := h.2.1 q
    refine G_aload_n C dX11_passYear_134 rfl ?_
    refine gR_X11_1 C ly_0 rfl wf_X11_19 dX11_passYear_135 ?_
    refine G_dup C dX11_passYear_138 ?_
    refine gI_X2_3 C ly_3 rfl wf_X11_309 dX11_passYear_139 ?_
    refine G_iconst C dX11_passYear_142 ?_
    refine G_iadd C dX11_passYear_143 ?_
    refine gP_X2_3 C ly_3 rfl wf_X11_309 dX11_passYear_144 ?_
    have h := h _ rfl
    obtain ⟨s1, e1⟩ : ∃ z, z = up s 3 3 ((s 3 3) + 1) := ⟨_, rfl⟩
    rw [← e1] at h ⊢
    refine G_aload_n C dX11_passYear_147 rfl ?_
    refine gR_X11_1 C ly_0 rfl wf_X11_19 dX11_passYear_148 ?_
    refine gI_X2_3 C ly_3 rfl wf_X11_309 dX11_passYear_151 ?_
    refine G_bipush C dX11_passYear_154 bi_10 ?_
    refine G_irem C dX11_passYear_156 (by decide) ?_
    refine G_if_ne (tgt := 188) C dX11_passYear_157 (by decide) (oI_rg _) (fun q => ?_) (fun q => ?_)
    · have h := h.1 q
      exact r _ _ _ dX11_passYear_188 h
    · have h := h.2 q
      refine G_aload_n C dX11_passYear_160 rfl ?_
      refine gR_X11_1 C ly_0 rfl wf_X11_19 dX11_passYear_161 ?_
      refine G_aload_n C dX11_passYear_164 rfl ?_
      refine gR_X11_8 C ly_0 rfl wf_X11_61 dX11_passYear_165 ?_
      refine G_aload_n C dX11_passYear_168 rfl ?_
      refine gR_X11_1 C ly_0 rfl wf_X11_19 dX11_passYear_169 ?_
      refine G_aload_n C dX11_passYear_172 rfl ?_
      refine gR_X11_1 C ly_0 rfl wf_X11_19 dX11_passYear_173 ?_
      refine gR_X2_4 C ly_3 rfl wf_X11_149 dX11_passYear_176 ?_
      refine G_bipush C dX11_passYear_179 bi_6 ?_
      refine G_iald C ly_4 (by decide) (by decide) dX11_passYear_181 ?_
      refine G_callVI (K := [.inr 3]) (args := [.inr 3, .inl (s1 4 6)]) (T := TX0) (N := 11) C ly_59 rfl (Nat.le_of_ble_eq_true rfl) mo_X0_orderBy wc_X11_261 rfl dX11_passYear_182 h (fun r2 s2 h => ?_)
      refine gP_X2_2 C ly_3 rfl wf_X11_140 dX11_passYear_185 ?_
      have h := h _ rfl
      obtain ⟨s3, e3⟩ : ∃ z, z = up s2 3 2 r2 := ⟨_, rfl⟩
      rw [← e3] at h ⊢
      exact r _ _ _ dX11_passYear_188 h
  · have h := h.2.2 q
    refine G_aload_n C dX11_passYear_106 rfl ?_
    refine gR_X11_1 C ly_0 rfl wf_X11_19 dX11_passYear_107 ?_
    refine gR_X2_5 C ly_3 rfl wf_X11_116 dX11_passYear_110 ?_
    refine gR_X6_3 C ly_5 rfl wf_X11_165 dX11_passYear_113 ?_
    refine G_iload_n C dX11_passYear_116 rfl ?_
    refine G_iald C ly_8 (by decide) h.1 dX11_passYear_117 ?_
    have h := h.2
    refine G_bipush C dX11_passYear_118 bi_99 ?_
    refine G_icmp_le (tgt := 128) C dX11_passYear_120 (by decide) ⟨h.1, (by decide)⟩ (fun q => ?_) (fun q => ?_)
    · have h := h.2.1 q
      refine G_iinc (L' := [rv 0, iv (v1 + 1)]) C dX11_passYear_128 (by decide) rfl rfl ?_
      refine G_goto (tgt := 92) C dX11_passYear_131 (by decide) ?_
      exact h
    · have h := h.2.2 q
      refine G_aload_n C dX11_passYear_123 rfl ?_
      refine G_iload_n C dX11_passYear_124 rfl ?_
      refine G_callVV (K := []) (args := [.inl v1]) (T := TX11) (N := 10) C ly_0 rfl (Nat.le_of_ble_eq_true rfl) mo_X11_beBornAnew wc_X11_312 rfl dX11_passYear_125 h (fun s4 h => ?_)
      refine G_iinc (L' := [rv 0, iv (v1 + 1)]) C dX11_passYear_128 (by decide) rfl rfl ?_
      refine G_goto (tgt := 92) C dX11_passYear_131 (by decide) ?_
      exact h
set_option maxRecDepth 20000 in
theorem kb_X2_copyFrom_0 {X : Cx} {d : Nat} {P : Sto → Prop} (C : Ok LY X RX2 cX2_copyFrom 2 d) (r : RetV LY X cX2_copyFrom P) (h1d : 1 ≤ d) {s : Sto} (h : (∀ s1 : Sto, s1 = up s 3 0 (s 21 0) → (∀ s2 : Sto, s2 = up s1 3 1 (s1 21 1) → (∀ s3 : Sto, s3 = up s2 3 2 (s2 21 2) → (∀ s4 : Sto, s4 = up s3 3 3 (s3 21 3) → (CallV LY d MX6_copyFrom [.inr 5, .inr 23] s4 (fun s5 => (∀ s6 : Sto, s6 = up s5 3 9 (s5 21 9) → (∀ s7 : Sto, s7 = up s6 3 11 (s6 21 11) → (CallV LY d MX4_copyFrom [.inr 17, .inr 35] s7 (fun s8 => (∀ s9 : Sto, s9 = cpy s8 22 4 0 0 7 → (∀ s10 : Sto, s10 = cpy s9 28 10 0 0 24 → (∀ s11 : Sto, s11 = cpy s10 29 11 0 0 6 → (∀ s12 : Sto, s12 = cpy s11 30 12 0 0 6 → (∀ s13 : Sto, s13 = cpy s12 31 13 0 0 10 → (∀ s14 : Sto, s14 = cpy s13 32 14 0 0 12 → (∀ s15 : Sto, s15 = cpy s14 33 15 0 0 12 → (∀ s16 : Sto, s16 = cpy s15 34 16 0 0 12 → P s16))))))))))))))))))) : G LY X 0 [rv 3, rv 21] [] s := by
  refine G_aload_n C dX2_copyFrom_0 rfl ?_
  refine G_aload_n C dX2_copyFrom_1 rfl ?_
  refine gI_X2_0 C ly_21 rfl wf_X2_58 dX2_copyFrom_2 ?_
  refine gP_X2_0 C ly_3 rfl wf_X2_58 dX2_copyFrom_5 ?_
  have h := h _ rfl
  obtain ⟨s1, e1⟩ : ∃ z, z = up s 3 0 (s 21 0) := ⟨_, rfl⟩
  rw [← e1] at h ⊢
  refine G_aload_n C dX2_copyFrom_8 rfl ?_
  refine G_aload_n C dX2_copyFrom_9 rfl ?_
  refine gI_X2_1 C ly_21 rfl wf_X2_50 dX2_copyFrom_10 ?_
  refine gP_X2_1 C ly_3 rfl wf_X2_50 dX2_copyFrom_13 ?_
  have h := h _ rfl
  obtain ⟨s2, e2⟩ : ∃ z, z = up s1 3 1 (s1 21 1) := ⟨_, rfl⟩
  rw [← e2] at h ⊢
  refine G_aload_n C dX2_copyFrom_16 rfl ?_
  refine G_aload_n C dX2_copyFrom_17 rfl ?_
  refine gI_X2_2 C ly_21 rfl wf_X2_67 dX2_copyFrom_18 ?_
  refine gP_X2_2 C ly_3 rfl wf_X2_67 dX2_copyFrom_21 ?_
  have h := h _ rfl
  obtain ⟨s3, e3⟩ : ∃ z, z = up s2 3 2 (s2 21 2) := ⟨_, rfl⟩
  rw [← e3] at h ⊢
  refine G_aload_n C dX2_copyFrom_24 rfl ?_
  refine G_aload_n C dX2_copyFrom_25 rfl ?_
  refine gI_X2_3 C ly_21 rfl wf_X2_70 dX2_copyFrom_26 ?_
  refine gP_X2_3 C ly_3 rfl wf_X2_70 dX2_copyFrom_29 ?_
  have h := h _ rfl
  obtain ⟨s4, e4⟩ : ∃ z, z = up s3 3 3 (s3 21 3) := ⟨_, rfl⟩
  rw [← e4] at h ⊢
  refine G_aload_n C dX2_copyFrom_32 rfl ?_
  refine gR_X2_5 C ly_3 rfl wf_X2_18 dX2_copyFrom_33 ?_
  refine G_aload_n C dX2_copyFrom_36 rfl ?_
  refine gR_X2_5 C ly_21 rfl wf_X2_18 dX2_copyFrom_37 ?_
  refine G_callVV (K := []) (args := [.inr 23]) (T := TX6) (N := 5) C ly_5 rfl (Nat.le_of_ble_eq_true rfl) mo_X6_copyFrom wc_X2_94 rfl dX2_copyFrom_40 h (fun s5 h => ?_)
  refine G_aload_n C dX2_copyFrom_43 rfl ?_
  refine G_aload_n C dX2_copyFrom_44 rfl ?_
  refine gI_X2_9 C ly_21 rfl wf_X2_76 dX2_copyFrom_45 ?_
  refine gP_X2_9 C ly_3 rfl wf_X2_76 dX2_copyFrom_48 ?_
  have h := h _ rfl
  obtain ⟨s6, e6⟩ : ∃ z, z = up s5 3 9 (s5 21 9) := ⟨_, rfl⟩
  rw [← e6] at h ⊢
  refine G_aload_n C dX2_copyFrom_51 rfl ?_
  refine G_aload_n C dX2_copyFrom_52 rfl ?_
  refine gI_X2_11 C ly_21 rfl wf_X2_79 dX2_copyFrom_53 ?_
  refine gP_X2_11 C ly_3 rfl wf_X2_79 dX2_copyFrom_56 ?_
  have h := h _ rfl
  obtain ⟨s7, e7⟩ : ∃ z, z = up s6 3 11 (s6 21 11) := ⟨_, rfl⟩
  rw [← e7] at h ⊢
  refine G_aload_n C dX2_copyFrom_59 rfl ?_
  refine gR_X2_15 C ly_3 rfl wf_X2_46 dX2_copyFrom_60 ?_
  refine G_aload_n C dX2_copyFrom_63 rfl ?_
  refine gR_X2_15 C ly_21 rfl wf_X2_46 dX2_copyFrom_64 ?_
  refine G_callVV (K := []) (args := [.inr 35]) (T := TX4) (N := 5) C ly_17 rfl (Nat.le_of_ble_eq_true rfl) mo_X4_copyFrom wc_X2_98 rfl dX2_copyFrom_67 h (fun s8 h => ?_)
  refine G_aload_n C dX2_copyFrom_70 rfl ?_
  refine gR_X2_4 C ly_21 rfl wf_X2_9 dX2_copyFrom_71 ?_
  refine G_iconst C dX2_copyFrom_74 ?_
  refine G_aload_n C dX2_copyFrom_75 rfl ?_
  refine gR_X2_4 C ly_3 rfl wf_X2_9 dX2_copyFrom_76 ?_
  refine G_iconst C dX2_copyFrom_79 ?_
  refine G_bipush C dX2_copyFrom_80 bi_7 ?_
  refine G_copy C ly_22 ly_4 (by decide) (by decide) h1d (Nat.le_of_ble_eq_true rfl) ws_244 arw dX2_copyFrom_82 ?_
  have h := h _ rfl
  obtain ⟨s9, e9⟩ : ∃ z, z = cpy s8 22 4 0 0 7 := ⟨_, rfl⟩
  rw [← e9] at h ⊢
  refine G_aload_n C dX2_copyFrom_85 rfl ?_
  refine gR_X2_6 C ly_21 rfl wf_X2_22 dX2_copyFrom_86 ?_
  refine G_iconst C dX2_copyFrom_89 ?_
  refine G_aload_n C dX2_copyFrom_90 rfl ?_
  refine gR_X2_6 C ly_3 rfl wf_X2_22 dX2_copyFrom_91 ?_
  refine G_iconst C dX2_copyFrom_94 ?_
  refine G_bipush C dX2_copyFrom_95 bi_24 ?_
  refine G_copy C ly_28 ly_10 (by decide) (by decide) h1d (Nat.le_of_ble_eq_true rfl) ws_244 arw dX2_copyFrom_97 ?_
  have h := h _ rfl
  obtain ⟨s10, e10⟩ : ∃ z, z = cpy s9 28 10 0 0 24 := ⟨_, rfl⟩
  rw [← e10] at h ⊢
  refine G_aload_n C dX2_copyFrom_100 rfl ?_
  refine gR_X2_7 C ly_21 rfl wf_X2_25 dX2_copyFrom_101 ?_
  refine G_iconst C dX2_copyFrom_104 ?_
  refine G_aload_n C dX2_copyFrom_105 rfl ?_
  refine gR_X2_7 C ly_3 rfl wf_X2_25 dX2_copyFrom_106 ?_
  refine G_iconst C dX2_copyFrom_109 ?_
  refine G_bipush C dX2_copyFrom_110 bi_6 ?_
  refine G_copy C ly_29 ly_11 (by decide) (by decide) h1d (Nat.le_of_ble_eq_true rfl) ws_244 arw dX2_copyFrom_112 ?_
  have h := h _ rfl
  obtain ⟨s11, e11⟩ : ∃ z, z = cpy s10 29 11 0 0 6 := ⟨_, rfl⟩
  rw [← e11] at h ⊢
  refine G_aload_n C dX2_copyFrom_115 rfl ?_
  refine gR_X2_8 C ly_21 rfl wf_X2_28 dX2_copyFrom_116 ?_
  refine G_iconst C dX2_copyFrom_119 ?_
  refine G_aload_n C dX2_copyFrom_120 rfl ?_
  refine gR_X2_8 C ly_3 rfl wf_X2_28 dX2_copyFrom_121 ?_
  refine G_iconst C dX2_copyFrom_124 ?_
  refine G_bipush C dX2_copyFrom_125 bi_6 ?_
  refine G_copy C ly_30 ly_12 (by decide) (by decide) h1d (Nat.le_of_ble_eq_true rfl) ws_244 arw dX2_copyFrom_127 ?_
  have h := h _ rfl
  obtain ⟨s12, e12⟩ : ∃ z, z = cpy s11 30 12 0 0 6 := ⟨_, rfl⟩
  rw [← e12] at h ⊢
  refine G_aload_n C dX2_copyFrom_130 rfl ?_
  refine gR_X2_10 C ly_21 rfl wf_X2_31 dX2_copyFrom_131 ?_
  refine G_iconst C dX2_copyFrom_134 ?_
  refine G_aload_n C dX2_copyFrom_135 rfl ?_
  refine gR_X2_10 C ly_3 rfl wf_X2_31 dX2_copyFrom_136 ?_
  refine G_iconst C dX2_copyFrom_139 ?_
  refine G_bipush C dX2_copyFrom_140 bi_10 ?_
  refine G_copy C ly_31 ly_13 (by decide) (by decide) h1d (Nat.le_of_ble_eq_true rfl) ws_244 arw dX2_copyFrom_142 ?_
  have h := h _ rfl
  obtain ⟨s13, e13⟩ : ∃ z, z = cpy s12 31 13 0 0 10 := ⟨_, rfl⟩
  rw [← e13] at h ⊢
  refine G_aload_n C dX2_copyFrom_145 rfl ?_
  refine gR_X2_12 C ly_21 rfl wf_X2_34 dX2_copyFrom_146 ?_
  refine G_iconst C dX2_copyFrom_149 ?_
  refine G_aload_n C dX2_copyFrom_150 rfl ?_
  refine gR_X2_12 C ly_3 rfl wf_X2_34 dX2_copyFrom_151 ?_
  refine G_iconst C dX2_copyFrom_154 ?_
  refine G_bipush C dX2_copyFrom_155 bi_12 ?_
  refine G_copy C ly_32 ly_14 (by decide) (by decide) h1d (Nat.le_of_ble_eq_true rfl) ws_244 arw dX2_copyFrom_157 ?_
  have h := h _ rfl
  obtain ⟨s14, e14⟩ : ∃ z, z = cpy s13 32 14 0 0 12 := ⟨_, rfl⟩
  rw [← e14] at h ⊢
  refine G_aload_n C dX2_copyFrom_160 rfl ?_
  refine gR_X2_13 C ly_21 rfl wf_X2_37 dX2_copyFrom_161 ?_
  refine G_iconst C dX2_copyFrom_164 ?_
  refine G_aload_n C dX2_copyFrom_165 rfl ?_
  refine gR_X2_13 C ly_3 rfl wf_X2_37 dX2_copyFrom_166 ?_
  refine G_iconst C dX2_copyFrom_169 ?_
  refine G_bipush C dX2_copyFrom_170 bi_12 ?_
  refine G_copy C ly_33 ly_15 (by decide) (by decide) h1d (Nat.le_of_ble_eq_true rfl) ws_244 arw dX2_copyFrom_172 ?_
  have h := h _ rfl
  obtain ⟨s15, e15⟩ : ∃ z, z = cpy s14 33 15 0 0 12 := ⟨_, rfl⟩
  rw [← e15] at h ⊢
  refine G_aload_n C dX2_copyFrom_175 rfl ?_
  refine gR_X2_14 C ly_21 rfl wf_X2_40 dX2_copyFrom_176 ?_
  refine G_iconst C dX2_copyFrom_179 ?_
  refine G_aload_n C dX2_copyFrom_180 rfl ?_
  refine gR_X2_14 C ly_3 rfl wf_X2_40 dX2_copyFrom_181 ?_
  refine G_iconst C dX2_copyFrom_184 ?_
  refine G_bipush C dX2_copyFrom_185 bi_12 ?_
  refine G_copy C ly_34 ly_16 (by decide) (by decide) h1d (Nat.le_of_ble_eq_true rfl) ws_244 arw dX2_copyFrom_187 ?_
  have h := h _ rfl
  obtain ⟨s16, e16⟩ : ∃ z, z = cpy s15 34 16 0 0 12 := ⟨_, rfl⟩
  rw [← e16] at h ⊢
  exact r _ _ _ dX2_copyFrom_190 h
set_option maxRecDepth 20000 in
theorem kb_X2_copyFromv1_0 {X : Cx} {d : Nat} {P : Sto → Prop} (C : Ok LY X RX2 cX2_copyFrom 2 d) (r : RetV LY X cX2_copyFrom P) (h1d : 1 ≤ d) {s : Sto} (h : (∀ s1 : Sto, s1 = up s 21 0 (s 3 0) → (∀ s2 : Sto, s2 = up s1 21 1 (s1 3 1) → (∀ s3 : Sto, s3 = up s2 21 2 (s2 3 2) → (∀ s4 : Sto, s4 = up s3 21 3 (s3 3 3) → (CallV LY d MX6_copyFrom [.inr 23, .inr 5] s4 (fun s5 => (∀ s6 : Sto, s6 = up s5 21 9 (s5 3 9) → (∀ s7 : Sto, s7 = up s6 21 11 (s6 3 11) → (CallV LY d MX4_copyFrom [.inr 35, .inr 17] s7 (fun s8 => (∀ s9 : Sto, s9 = cpy s8 4 22 0 0 7 → (∀ s10 : Sto, s10 = cpy s9 10 28 0 0 24 → (∀ s11 : Sto, s11 = cpy s10 11 29 0 0 6 → (∀ s12 : Sto, s12 = cpy s11 12 30 0 0 6 → (∀ s13 : Sto, s13 = cpy s12 13 31 0 0 10 → (∀ s14 : Sto, s14 = cpy s13 14 32 0 0 12 → (∀ s15 : Sto, s15 = cpy s14 15 33 0 0 12 → (∀ s16 : Sto, s16 = cpy s15 16 34 0 0 12 → P s16))))))))))))))))))) : G LY X 0 [rv 21, rv 3] [] s := by
  refine G_aload_n C dX2_copyFrom_0 rfl ?_
  refine G_aload_n C dX2_copyFrom_1 rfl ?_
  refine gI_X2_0 C ly_3 rfl wf_X2_58 dX2_copyFrom_2 ?_
  refine gP_X2_0 C ly_21 rfl wf_X2_58 dX2_copyFrom_5 ?_
  have h := h _ rfl
  obtain ⟨s1, e1⟩ : ∃ z, z = up s 21 0 (s 3 0) := ⟨_, rfl⟩
  rw [← e1] at h ⊢
  refine G_aload_n C dX2_copyFrom_8 rfl ?_
  refine G_aload_n C dX2_copyFrom_9 rfl ?_
  refine gI_X2_1 C ly_3 rfl wf_X2_50 dX2_copyFrom_10 ?_
  refine gP_X2_1 C ly_21 rfl wf_X2_50 dX2_copyFrom_13 ?_
  have h := h _ rfl
  obtain ⟨s2, e2⟩ : ∃ z, z = up s1 21 1 (s1 3 1) := ⟨_, rfl⟩
  rw [← e2] at h ⊢
  refine G_aload_n C dX2_copyFrom_16 rfl ?_
  refine G_aload_n C dX2_copyFrom_17 rfl ?_
  refine gI_X2_2 C ly_3 rfl wf_X2_67 dX2_copyFrom_18 ?_
  refine gP_X2_2 C ly_21 rfl wf_X2_67 dX2_copyFrom_21 ?_
  have h := h _ rfl
  obtain ⟨s3, e3⟩ : ∃ z, z = up s2 21 2 (s2 3 2) := ⟨_, rfl⟩
  rw [← e3] at h ⊢
  refine G_aload_n C dX2_copyFrom_24 rfl ?_
  refine G_aload_n C dX2_copyFrom_25 rfl ?_
  refine gI_X2_3 C ly_3 rfl wf_X2_70 dX2_copyFrom_26 ?_
  refine gP_X2_3 C ly_21 rfl wf_X2_70 dX2_copyFrom_29 ?_
  have h := h _ rfl
  obtain ⟨s4, e4⟩ : ∃ z, z = up s3 21 3 (s3 3 3) := ⟨_, rfl⟩
  rw [← e4] at h ⊢
  refine G_aload_n C dX2_copyFrom_32 rfl ?_
  refine gR_X2_5 C ly_21 rfl wf_X2_18 dX2_copyFrom_33 ?_
  refine G_aload_n C dX2_copyFrom_36 rfl ?_
  refine gR_X2_5 C ly_3 rfl wf_X2_18 dX2_copyFrom_37 ?_
  refine G_callVV (K := []) (args := [.inr 5]) (T := TX6) (N := 5) C ly_23 rfl (Nat.le_of_ble_eq_true rfl) mo_X6_copyFrom wc_X2_94 rfl dX2_copyFrom_40 h (fun s5 h => ?_)
  refine G_aload_n C dX2_copyFrom_43 rfl ?_
  refine G_aload_n C dX2_copyFrom_44 rfl ?_
  refine gI_X2_9 C ly_3 rfl wf_X2_76 dX2_copyFrom_45 ?_
  refine gP_X2_9 C ly_21 rfl wf_X2_76 dX2_copyFrom_48 ?_
  have h := h _ rfl
  obtain ⟨s6, e6⟩ : ∃ z, z = up s5 21 9 (s5 3 9) := ⟨_, rfl⟩
  rw [← e6] at h ⊢
  refine G_aload_n C dX2_copyFrom_51 rfl ?_
  refine G_aload_n C dX2_copyFrom_52 rfl ?_
  refine gI_X2_11 C ly_3 rfl wf_X2_79 dX2_copyFrom_53 ?_
  refine gP_X2_11 C ly_21 rfl wf_X2_79 dX2_copyFrom_56 ?_
  have h := h _ rfl
  obtain ⟨s7, e7⟩ : ∃ z, z = up s6 21 11 (s6 3 11) := ⟨_, rfl⟩
  rw [← e7] at h ⊢
  refine G_aload_n C dX2_copyFrom_59 rfl ?_
  refine gR_X2_15 C ly_21 rfl wf_X2_46 dX2_copyFrom_60 ?_
  refine G_aload_n C dX2_copyFrom_63 rfl ?_
  refine gR_X2_15 C ly_3 rfl wf_X2_46 dX2_copyFrom_64 ?_
  refine G_callVV (K := []) (args := [.inr 17]) (T := TX4) (N := 5) C ly_35 rfl (Nat.le_of_ble_eq_true rfl) mo_X4_copyFrom wc_X2_98 rfl dX2_copyFrom_67 h (fun s8 h => ?_)
  refine G_aload_n C dX2_copyFrom_70 rfl ?_
  refine gR_X2_4 C ly_3 rfl wf_X2_9 dX2_copyFrom_71 ?_
  refine G_iconst C dX2_copyFrom_74 ?_
  refine G_aload_n C dX2_copyFrom_75 rfl ?_
  refine gR_X2_4 C ly_21 rfl wf_X2_9 dX2_copyFrom_76 ?_
  refine G_iconst C dX2_copyFrom_79 ?_
  refine G_bipush C dX2_copyFrom_80 bi_7 ?_
  refine G_copy C ly_4 ly_22 (by decide) (by decide) h1d (Nat.le_of_ble_eq_true rfl) ws_244 arw dX2_copyFrom_82 ?_
  have h := h _ rfl
  obtain ⟨s9, e9⟩ : ∃ z, z = cpy s8 4 22 0 0 7 := ⟨_, rfl⟩
  rw [← e9] at h ⊢
  refine G_aload_n C dX2_copyFrom_85 rfl ?_
  refine gR_X2_6 C ly_3 rfl wf_X2_22 dX2_copyFrom_86 ?_
  refine G_iconst C dX2_copyFrom_89 ?_
  refine G_aload_n C dX2_copyFrom_90 rfl ?_
  refine gR_X2_6 C ly_21 rfl wf_X2_22 dX2_copyFrom_91 ?_
  refine G_iconst C dX2_copyFrom_94 ?_
  refine G_bipush C dX2_copyFrom_95 bi_24 ?_
  refine G_copy C ly_10 ly_28 (by decide) (by decide) h1d (Nat.le_of_ble_eq_true rfl) ws_244 arw dX2_copyFrom_97 ?_
  have h := h _ rfl
  obtain ⟨s10, e10⟩ : ∃ z, z = cpy s9 10 28 0 0 24 := ⟨_, rfl⟩
  rw [← e10] at h ⊢
  refine G_aload_n C dX2_copyFrom_100 rfl ?_
  refine gR_X2_7 C ly_3 rfl wf_X2_25 dX2_copyFrom_101 ?_
  refine G_iconst C dX2_copyFrom_104 ?_
  refine G_aload_n C dX2_copyFrom_105 rfl ?_
  refine gR_X2_7 C ly_21 rfl wf_X2_25 dX2_copyFrom_106 ?_
  refine G_iconst C dX2_copyFrom_109 ?_
  refine G_bipush C dX2_copyFrom_110 bi_6 ?_
  refine G_copy C ly_11 ly_29 (by decide) (by decide) h1d (Nat.le_of_ble_eq_true rfl) ws_244 arw dX2_copyFrom_112 ?_
  have h := h _ rfl
  obtain ⟨s11, e11⟩ : ∃ z, z = cpy s10 11 29 0 0 6 := ⟨_, rfl⟩
  rw [← e11] at h ⊢
  refine G_aload_n C dX2_copyFrom_115 rfl ?_
  refine gR_X2_8 C ly_3 rfl wf_X2_28 dX2_copyFrom_116 ?_
  refine G_iconst C dX2_copyFrom_119 ?_
  refine G_aload_n C dX2_copyFrom_120 rfl ?_
  refine gR_X2_8 C ly_21 rfl wf_X2_28 dX2_copyFrom_121 ?_
  refine G_iconst C dX2_copyFrom_124 ?_
  refine G_bipush C dX2_copyFrom_125 bi_6 ?_
  refine G_copy C ly_12 ly_30 (by decide) (by decide) h1d (Nat.le_of_ble_eq_true rfl) ws_244 arw dX2_copyFrom_127 ?_
  have h := h _ rfl
  obtain ⟨s12, e12⟩ : ∃ z, z = cpy s11 12 30 0 0 6 := ⟨_, rfl⟩
  rw [← e12] at h ⊢
  refine G_aload_n C dX2_copyFrom_130 rfl ?_
  refine gR_X2_10 C ly_3 rfl wf_X2_31 dX2_copyFrom_131 ?_
  refine G_iconst C dX2_copyFrom_134 ?_
  refine G_aload_n C dX2_copyFrom_135 rfl ?_
  refine gR_X2_10 C ly_21 rfl wf_X2_31 dX2_copyFrom_136 ?_
  refine G_iconst C dX2_copyFrom_139 ?_
  refine G_bipush C dX2_copyFrom_140 bi_10 ?_
  refine G_copy C ly_13 ly_31 (by decide) (by decide) h1d (Nat.le_of_ble_eq_true rfl) ws_244 arw dX2_copyFrom_142 ?_
  have h := h _ rfl
  obtain ⟨s13, e13⟩ : ∃ z, z = cpy s12 13 31 0 0 10 := ⟨_, rfl⟩
  rw [← e13] at h ⊢
  refine G_aload_n C dX2_copyFrom_145 rfl ?_
  refine gR_X2_12 C ly_3 rfl wf_X2_34 dX2_copyFrom_146 ?_
  refine G_iconst C dX2_copyFrom_149 ?_
  refine G_aload_n C dX2_copyFrom_150 rfl ?_
  refine gR_X2_12 C ly_21 rfl wf_X2_34 dX2_copyFrom_151 ?_
  refine G_iconst C dX2_copyFrom_154 ?_
  refine G_bipush C dX2_copyFrom_155 bi_12 ?_
  refine G_copy C ly_14 ly_32 (by decide) (by decide) h1d (Nat.le_of_ble_eq_true rfl) ws_244 arw dX2_copyFrom_157 ?_
  have h := h _ rfl
  obtain ⟨s14, e14⟩ : ∃ z, z = cpy s13 14 32 0 0 12 := ⟨_, rfl⟩
  rw [← e14] at h ⊢
  refine G_aload_n C dX2_copyFrom_160 rfl ?_
  refine gR_X2_13 C ly_3 rfl wf_X2_37 dX2_copyFrom_161 ?_
  refine G_iconst C dX2_copyFrom_164 ?_
  refine G_aload_n C dX2_copyFrom_165 rfl ?_
  refine gR_X2_13 C ly_21 rfl wf_X2_37 dX2_copyFrom_166 ?_
  refine G_iconst C dX2_copyFrom_169 ?_
  refine G_bipush C dX2_copyFrom_170 bi_12 ?_
  refine G_copy C ly_15 ly_33 (by decide) (by decide) h1d (Nat.le_of_ble_eq_true rfl) ws_244 arw dX2_copyFrom_172 ?_
  have h := h _ rfl
  obtain ⟨s15, e15⟩ : ∃ z, z = cpy s14 15 33 0 0 12 := ⟨_, rfl⟩
  rw [← e15] at h ⊢
  refine G_aload_n C dX2_copyFrom_175 rfl ?_
  refine gR_X2_14 C ly_3 rfl wf_X2_40 dX2_copyFrom_176 ?_
  refine G_iconst C dX2_copyFrom_179 ?_
  refine G_aload_n C dX2_copyFrom_180 rfl ?_
  refine gR_X2_14 C ly_21 rfl wf_X2_40 dX2_copyFrom_181 ?_
  refine G_iconst C dX2_copyFrom_184 ?_
  refine G_bipush C dX2_copyFrom_185 bi_12 ?_
  refine G_copy C ly_16 ly_34 (by decide) (by decide) h1d (Nat.le_of_ble_eq_true rfl) ws_244 arw dX2_copyFrom_187 ?_
  have h := h _ rfl
  obtain ⟨s16, e16⟩ : ∃ z, z = cpy s15 16 34 0 0 12 := ⟨_, rfl⟩
  rw [← e16] at h ⊢
  exact r _ _ _ dX2_copyFrom_190 h
set_option maxRecDepth 20000 in
theorem kb_X12_isIn_0 {X : Cx} {d : Nat} {P : Int → Sto → Prop} (C : Ok LY X RX12 cX12_isIn 4 d) (r : RetZ LY X cX12_isIn P) {v1 v2 v3 : Int} {s : Sto} (h : ((rg v1 ∧ rg v2) ∧ ((v1 < v2 → P 0 s) ∧ (v2 ≤ v1 → ((rg v1 ∧ rg v3) ∧ ((v3 < v1 → P 0 s) ∧ (v1 ≤ v3 → P 1 s))))))) : G LY X 0 [rv 75, iv v1, iv v2, iv v3] [] s := by
  refine G_iload_n C dX12_isIn_0 rfl ?_
  refine G_iload_n C dX12_isIn_1 rfl ?_
  refine G_icmp_lt (tgt := 14) C dX12_isIn_2 (by decide) ⟨h.1.1, h.1.2⟩ (fun q => ?_) (fun q => ?_)
  · have h := h.2.1 q
    refine G_iconst C dX12_isIn_14 ?_
    exact r _ _ _ _ dX12_isIn_15 (by decide) h
  · have h := h.2.2 q
    refine G_iload_n C dX12_isIn_5 rfl ?_
    refine G_iload_n C dX12_isIn_6 rfl ?_
    refine G_icmp_gt (tgt := 14) C dX12_isIn_7 (by decide) ⟨h.1.1, h.1.2⟩ (fun q => ?_) (fun q => ?_)
    · have h := h.2.1 q
      refine G_iconst C dX12_isIn_14 ?_
      exact r _ _ _ _ dX12_isIn_15 (by decide) h
    · have h := h.2.2 q
      refine G_iconst C dX12_isIn_10 ?_
      refine G_goto (tgt := 15) C dX12_isIn_11 (by decide) ?_
      exact r _ _ _ _ dX12_isIn_15 (by decide) h
set_option maxRecDepth 20000 in
theorem kb_X12_begins_0 {X : Cx} {d : Nat} {P : Sto → Prop} (C : Ok LY X RX12 cX12_begins 2 d) (r : RetV LY X cX12_begins P) {s : Sto} (h : ((rg (s 75 22)) ∧ (((s 75 22) = 0 → (∀ s1 : Sto, s1 = up s 75 22 1 → G LY X 15 [rv 75, iv 0] [] s1)) ∧ ((s 75 22) ≠ 0 → P s)))) : G LY X 0 [rv 75, none] [] s := by
  refine G_aload_n C dX12_begins_0 rfl ?_
  refine gI_X12_22 C ly_75 rfl wf_X12_164 dX12_begins_1 ?_
  refine G_if_eq (tgt := 8) C dX12_begins_4 (by decide) h.1 (fun q => ?_) (fun q => ?_)
  · have h := h.2.1 q
    refine G_aload_n C dX12_begins_8 rfl ?_
    refine G_iconst C dX12_begins_9 ?_
    refine gP_X12_22 C ly_75 rfl wf_X12_164 (by decide) dX12_begins_10 ?_
    have h := h _ rfl
    obtain ⟨s1, e1⟩ : ∃ z, z = up s 75 22 1 := ⟨_, rfl⟩
    rw [← e1] at h ⊢
    refine G_iconst C dX12_begins_13 ?_
    refine G_istore_n (L' := [rv 75, iv 0]) C dX12_begins_14 (by decide) rfl ?_
    exact h
  · have h := h.2.2 q
    exact r _ _ _ dX12_begins_7 h
set_option maxRecDepth 20000 in
theorem kb_X12_begins_15 {X : Cx} {d : Nat} {P : Sto → Prop} (C : Ok LY X RX12 cX12_begins 2 d) (r : RetV LY X cX12_begins P) {v1 : Int} {s : Sto} (h : ((rg v1) ∧ ((8 ≤ v1 → P s) ∧ (v1 < 8 → ((0 ≤ v1 ∧ v1 < 168) ∧ (∀ s1 : Sto, s1 = up s 81 v1 v1 → G LY X 15 [rv 75, iv (v1 + 1)] [] s1)))))) : G LY X 15 [rv 75, iv v1] [] s := by
  refine G_iload_n C dX12_begins_15 rfl ?_
  refine G_bipush C dX12_begins_16 bi_8 ?_
  refine G_icmp_ge (tgt := 34) C dX12_begins_18 (by decide) ⟨h.1, (by decide)⟩ (fun q => ?_) (fun q => ?_)
  · have h := h.2.1 q
    exact r _ _ _ dX12_begins_34 h
  · have h := h.2.2 q
    refine G_aload_n C dX12_begins_21 rfl ?_
    refine gR_X12_10 C ly_75 rfl wf_X12_29 dX12_begins_22 ?_
    refine G_iload_n C dX12_begins_25 rfl ?_
    refine G_iload_n C dX12_begins_26 rfl ?_
    refine G_iast C ly_81 (by decide) h.1 dX12_begins_27 ?_
    have h := h.2
    have h := h _ rfl
    obtain ⟨s1, e1⟩ : ∃ z, z = up s 81 v1 v1 := ⟨_, rfl⟩
    rw [← e1] at h ⊢
    refine G_iinc (L' := [rv 75, iv (v1 + 1)]) C dX12_begins_28 (by decide) rfl rfl ?_
    refine G_goto (tgt := 15) C dX12_begins_31 (by decide) ?_
    exact h
set_option maxRecDepth 20000 in
theorem kb_X12_takesName_0 {X : Cx} {d : Nat} {P : Int → Sto → Prop} (C : Ok LY X RX12 cX12_takesName 3 d) (r : RetZ LY X cX12_takesName P) {s : Sto} (h : (∀ s1 : Sto, s1 = up s 75 24 0 → ((rg (s 75 24)) ∧ (((s 75 24) ≤ 6 → G LY X 20 [rv 75, iv (s 75 24), iv 0] [] s1) ∧ (6 < (s 75 24) → P 0 s1))))) : G LY X 0 [rv 75, none, none] [] s := by
  refine G_aload_n C dX12_takesName_0 rfl ?_
  refine gI_X12_24 C ly_75 rfl wf_X12_157 dX12_takesName_1 ?_
  refine G_istore_n (L' := [rv 75, iv (s 75 24), none]) C dX12_takesName_4 (by decide) rfl ?_
  refine G_aload_n C dX12_takesName_5 rfl ?_
  refine G_iconst C dX12_takesName_6 ?_
  refine gP_X12_24 C ly_75 rfl wf_X12_157 dX12_takesName_7 ?_
  have h := h _ rfl
  obtain ⟨s1, e1⟩ : ∃ z, z = up s 75 24 0 := ⟨_, rfl⟩
  rw [← e1] at h ⊢
  refine G_iload_n C dX12_takesName_10 rfl ?_
  refine G_bipush C dX12_takesName_11 bi_6 ?_
  refine G_icmp_le (tgt := 18) C dX12_takesName_13 (by decide) ⟨h.1, (by decide)⟩ (fun q => ?_) (fun q => ?_)
  · have h := h.2.1 q
    refine G_iconst C dX12_takesName_18 ?_
    refine G_istore_n (L' := [rv 75, iv (s 75 24), iv 0]) C dX12_takesName_19 (by decide) rfl ?_
    exact h
  · have h := h.2.2 q
    refine G_iconst C dX12_takesName_16 ?_
    exact r _ _ _ _ dX12_takesName_17 (by decide) h
set_option maxRecDepth 20000 in
theorem kb_X12_takesName_20 {X : Cx} {d : Nat} {P : Int → Sto → Prop} (C : Ok LY X RX12 cX12_takesName 3 d) (r : RetZ LY X cX12_takesName P) {v1 v2 : Int} {s : Sto} (h : ((rg v2 ∧ rg v1) ∧ ((v1 ≤ v2 → (∀ s1 : Sto, s1 = up s 76 30 v1 → G LY X 60 [rv 75, iv v1, iv 0] [] s1)) ∧ (v2 < v1 → ((0 ≤ v2 ∧ v2 < 400) ∧ (CallI LY d MX12_isIn [.inr 75, .inl (s 91 v2), .inl 97, .inl 122] s (fun r2 s2 => ((rg r2) ∧ ((r2 ≠ 0 → G LY X 20 [rv 75, iv v1, iv (v2 + 1)] [] s2) ∧ (r2 = 0 → P 0 s2)))))))))) : G LY X 20 [rv 75, iv v1, iv v2] [] s := by
  refine G_iload_n C dX12_takesName_20 rfl ?_
  refine G_iload_n C dX12_takesName_21 rfl ?_
  refine G_icmp_ge (tgt := 50) C dX12_takesName_22 (by decide) ⟨h.1.1, h.1.2⟩ (fun q => ?_) (fun q => ?_)
  · have h := h.2.1 q
    refine G_aload_n C dX12_takesName_50 rfl ?_
    refine gR_X12_2 C ly_75 rfl wf_X12_7 dX12_takesName_51 ?_
    refine G_bipush C dX12_takesName_54 bi_30 ?_
    refine G_iload_n C dX12_takesName_56 rfl ?_
    refine G_iast C ly_76 (by decide) (by decide) dX12_takesName_57 ?_
    have h := h _ rfl
    obtain ⟨s1, e1⟩ : ∃ z, z = up s 76 30 v1 := ⟨_, rfl⟩
    rw [← e1] at h ⊢
    refine G_iconst C dX12_takesName_58 ?_
    refine G_istore_n (L' := [rv 75, iv v1, iv 0]) C dX12_takesName_59 (by decide) rfl ?_
    exact h
  · have h := h.2.2 q
    refine G_aload_n C dX12_takesName_25 rfl ?_
    refine G_aload_n C dX12_takesName_26 rfl ?_
    refine gR_X12_23 C ly_75 rfl wf_X12_59 dX12_takesName_27 ?_
    refine G_iload_n C dX12_takesName_30 rfl ?_
    refine G_iald C ly_91 (by decide) h.1 dX12_takesName_31 ?_
    have h := h.2
    refine G_bipush C dX12_takesName_32 bi_97 ?_
    refine G_bipush C dX12_takesName_34 bi_122 ?_
    refine G_callVI (K := []) (args := [.inl (s 91 v2), .inl 97, .inl 122]) (T := TX12) (N := 72) C ly_75 rfl (Nat.le_of_ble_eq_true rfl) mo_X12_isIn wc_X12_160 rfl dX12_takesName_36 h (fun r2 s2 h => ?_)
    refine G_if_ne (tgt := 44) C dX12_takesName_39 (by decide) h.1 (fun q => ?_) (fun q => ?_)
    · have h := h.2.1 q
      refine G_iinc (L' := [rv 75, iv v1, iv (v2 + 1)]) C dX12_takesName_44 (by decide) rfl rfl ?_
      refine G_goto (tgt := 20) C dX12_takesName_47 (by decide) ?_
      exact h
    · have h := h.2.2 q
      refine G_iconst C dX12_takesName_42 ?_
      exact r _ _ _ _ dX12_takesName_43 (by decide) h
set_option maxRecDepth 20000 in
theorem kb_X12_takesName_60 {X : Cx} {d : Nat} {P : Int → Sto → Prop} (C : Ok LY X RX12 cX12_takesName 3 d) (r : RetZ LY X cX12_takesName P) {v1 v2 : Int} {s : Sto} (h : ((rg v2 ∧ rg v1) ∧ ((v1 ≤ v2 → P 1 s) ∧ (v2 < v1 → ((0 ≤ v2 ∧ v2 < 400) ∧ ((0 ≤ (180 + v2) ∧ (180 + v2) < 306) ∧ (∀ s1 : Sto, s1 = up s 77 (180 + v2) ((s 91 v2) - 97) → G LY X 60 [rv 75, iv v1, iv (v2 + 1)] [] s1))))))) : G LY X 60 [rv 75, iv v1, iv v2] [] s := by
  refine G_iload_n C dX12_takesName_60 rfl ?_
  refine G_iload_n C dX12_takesName_61 rfl ?_
  refine G_icmp_ge (tgt := 90) C dX12_takesName_62 (by decide) ⟨h.1.1, h.1.2⟩ (fun q => ?_) (fun q => ?_)
  · have h := h.2.1 q
    refine G_iconst C dX12_takesName_90 ?_
    exact r _ _ _ _ dX12_takesName_91 (by decide) h
  · have h := h.2.2 q
    refine G_aload_n C dX12_takesName_65 rfl ?_
    refine gR_X12_3 C ly_75 rfl wf_X12_13 dX12_takesName_66 ?_
    refine G_sipush C dX12_takesName_69 si_180 ?_
    refine G_iload_n C dX12_takesName_72 rfl ?_
    refine G_iadd C dX12_takesName_73 ?_
    refine G_aload_n C dX12_takesName_74 rfl ?_
    refine gR_X12_23 C ly_75 rfl wf_X12_59 dX12_takesName_75 ?_
    refine G_iload_n C dX12_takesName_78 rfl ?_
    refine G_iald C ly_91 (by decide) h.1 dX12_takesName_79 ?_
    have h := h.2
    refine G_bipush C dX12_takesName_80 bi_97 ?_
    refine G_isub C dX12_takesName_82 ?_
    refine G_iast C ly_77 (by decide) h.1 dX12_takesName_83 ?_
    have h := h.2
    have h := h _ rfl
    obtain ⟨s1, e1⟩ : ∃ z, z = up s 77 (180 + v2) ((s 91 v2) - 97) := ⟨_, rfl⟩
    rw [← e1] at h ⊢
    refine G_iinc (L' := [rv 75, iv v1, iv (v2 + 1)]) C dX12_takesName_84 (by decide) rfl rfl ?_
    refine G_goto (tgt := 60) C dX12_takesName_87 (by decide) ?_
    exact h
set_option maxRecDepth 20000 in
theorem kb_X12_movesName_0 {X : Cx} {d : Nat} {P : Sto → Prop} (C : Ok LY X RX12 cX12_movesName 4 d) (r : RetV LY X cX12_movesName P) {v1 v2 : Int} {s : Sto} (h : ((0 ≤ v1 ∧ v1 < 51) ∧ ((0 ≤ v2 ∧ v2 < 51) ∧ (∀ s1 : Sto, s1 = up s 76 v2 (s 76 v1) → G LY X 14 [rv 75, iv v1, iv v2, iv 0] [] s1)))) : G LY X 0 [rv 75, iv v1, iv v2, none] [] s := by
  refine G_aload_n C dX12_movesName_0 rfl ?_
  refine gR_X12_2 C ly_75 rfl wf_X12_7 dX12_movesName_1 ?_
  refine G_iload_n C dX12_movesName_4 rfl ?_
  refine G_aload_n C dX12_movesName_5 rfl ?_
  refine gR_X12_2 C ly_75 rfl wf_X12_7 dX12_movesName_6 ?_
  refine G_iload_n C dX12_movesName_9 rfl ?_
  refine G_iald C ly_76 (by decide) h.1 dX12_movesName_10 ?_
  have h := h.2
  refine G_iast C ly_76 (by decide) h.1 dX12_movesName_11 ?_
  have h := h.2
  have h := h _ rfl
  obtain ⟨s1, e1⟩ : ∃ z, z = up s 76 v2 (s 76 v1) := ⟨_, rfl⟩
  rw [← e1] at h ⊢
  refine G_iconst C dX12_movesName_12 ?_
  refine G_istore_n (L' := [rv 75, iv v1, iv v2, iv 0]) C dX12_movesName_13 (by decide) rfl ?_
  exact h
set_option maxRecDepth 20000 in
theorem kb_X12_movesName_14 {X : Cx} {d : Nat} {P : Sto → Prop} (C : Ok LY X RX12 cX12_movesName 4 d) (r : RetV LY X cX12_movesName P) {v1 v2 v3 : Int} {s : Sto} (h : ((rg v3) ∧ ((6 ≤ v3 → P s) ∧ (v3 < 6 → ((0 ≤ ((6 * v1) + v3) ∧ ((6 * v1) + v3) < 306) ∧ ((0 ≤ ((6 * v2) + v3) ∧ ((6 * v2) + v3) < 306) ∧ (∀ s1 : Sto, s1 = up s 77 ((6 * v2) + v3) (s 77 ((6 * v1) + v3)) → G LY X 14 [rv 75, iv v1, iv v2, iv (v3 + 1)] [] s1))))))) : G LY X 14 [rv 75, iv v1, iv v2, iv v3] [] s := by
  refine G_iload_n C dX12_movesName_14 rfl ?_
  refine G_bipush C dX12_movesName_15 bi_6 ?_
  refine G_icmp_ge (tgt := 48) C dX12_movesName_17 (by decide) ⟨h.1, (by decide)⟩ (fun q => ?_) (fun q => ?_)
  · have h := h.2.1 q
    exact r _ _ _ dX12_movesName_48 h
  · have h := h.2.2 q
    refine G_aload_n C dX12_movesName_20 rfl ?_
    refine gR_X12_3 C ly_75 rfl wf_X12_13 dX12_movesName_21 ?_
    refine G_bipush C dX12_movesName_24 bi_6 ?_
    refine G_iload_n C dX12_movesName_26 rfl ?_
    refine G_imul C dX12_movesName_27 ?_
    refine G_iload_n C dX12_movesName_28 rfl ?_
    refine G_iadd C dX12_movesName_29 ?_
    refine G_aload_n C dX12_movesName_30 rfl ?_
    refine gR_X12_3 C ly_75 rfl wf_X12_13 dX12_movesName_31 ?_
    refine G_bipush C dX12_movesName_34 bi_6 ?_
    refine G_iload_n C dX12_movesName_36 rfl ?_
    refine G_imul C dX12_movesName_37 ?_
    refine G_iload_n C dX12_movesName_38 rfl ?_
    refine G_iadd C dX12_movesName_39 ?_
    refine G_iald C ly_77 (by decide) h.1 dX12_movesName_40 ?_
    have h := h.2
    refine G_iast C ly_77 (by decide) h.1 dX12_movesName_41 ?_
    have h := h.2
    have h := h _ rfl
    obtain ⟨s1, e1⟩ : ∃ z, z = up s 77 ((6 * v2) + v3) (s 77 ((6 * v1) + v3)) := ⟨_, rfl⟩
    rw [← e1] at h ⊢
    refine G_iinc (L' := [rv 75, iv v1, iv v2, iv (v3 + 1)]) C dX12_movesName_42 (by decide) rfl rfl ?_
    refine G_goto (tgt := 14) C dX12_movesName_45 (by decide) ?_
    exact h
set_option maxRecDepth 20000 in
theorem kb_X12_isOne_0 {X : Cx} {d : Nat} {P : Int → Sto → Prop} (C : Ok LY X RX12 cX12_isOne 2 d) (r : RetZ LY X cX12_isOne P) {v1 : Int} {s : Sto} (h : ((rg v1) ∧ ((v1 < 0 → P 0 s) ∧ (0 ≤ v1 → ((rg v1 ∧ rg (s 75 4)) ∧ (((s 75 4) ≤ v1 → P 0 s) ∧ (v1 < (s 75 4) → P 1 s))))))) : G LY X 0 [rv 75, iv v1] [] s := by
  refine G_iload_n C dX12_isOne_0 rfl ?_
  refine G_if_lt (tgt := 16) C dX12_isOne_1 (by decide) h.1 (fun q => ?_) (fun q => ?_)
  · have h := h.2.1 q
    refine G_iconst C dX12_isOne_16 ?_
    exact r _ _ _ _ dX12_isOne_17 (by decide) h
  · have h := h.2.2 q
    refine G_iload_n C dX12_isOne_4 rfl ?_
    refine G_aload_n C dX12_isOne_5 rfl ?_
    refine gI_X12_4 C ly_75 rfl wf_X12_154 dX12_isOne_6 ?_
    refine G_icmp_ge (tgt := 16) C dX12_isOne_9 (by decide) ⟨h.1.1, h.1.2⟩ (fun q => ?_) (fun q => ?_)
    · have h := h.2.1 q
      refine G_iconst C dX12_isOne_16 ?_
      exact r _ _ _ _ dX12_isOne_17 (by decide) h
    · have h := h.2.2 q
      refine G_iconst C dX12_isOne_12 ?_
      refine G_goto (tgt := 17) C dX12_isOne_13 (by decide) ?_
      exact r _ _ _ _ dX12_isOne_17 (by decide) h
set_option maxRecDepth 20000 in
theorem kb_X12_takesOrder_0 {X : Cx} {d : Nat} {P : Int → Sto → Prop} (C : Ok LY X RX12 cX12_takesOrder 5 d) (r : RetZ LY X cX12_takesOrder P) {s : Sto} (h : (CallV LY d MX12_begins [.inr 75] s (fun s1 => (∀ s2 : Sto, s2 = up s1 75 24 0 → ((rg (s1 75 24) ∧ rg (s2 75 9)) ∧ (((s1 75 24) = (s2 75 9) → G LY X 28 [rv 75, iv (s1 75 24), iv 0, iv 0, none] [] s2) ∧ ((s1 75 24) ≠ (s2 75 9) → P 0 s2))))))) : G LY X 0 [rv 75, none, none, none, none] [] s := by
  refine G_aload_n C dX12_takesOrder_0 rfl ?_
  refine G_callVV (K := []) (args := []) (T := TX12) (N := 72) C ly_75 rfl (Nat.le_of_ble_eq_true rfl) mo_X12_begins wc_X12_168 rfl dX12_takesOrder_1 h (fun s1 h => ?_)
  refine G_aload_n C dX12_takesOrder_4 rfl ?_
  refine gI_X12_24 C ly_75 rfl wf_X12_157 dX12_takesOrder_5 ?_
  refine G_istore_n (L' := [rv 75, iv (s1 75 24), none, none, none]) C dX12_takesOrder_8 (by decide) rfl ?_
  refine G_aload_n C dX12_takesOrder_9 rfl ?_
  refine G_iconst C dX12_takesOrder_10 ?_
  refine gP_X12_24 C ly_75 rfl wf_X12_157 dX12_takesOrder_11 ?_
  have h := h _ rfl
  obtain ⟨s2, e2⟩ : ∃ z, z = up s1 75 24 0 := ⟨_, rfl⟩
  rw [← e2] at h ⊢
  refine G_iload_n C dX12_takesOrder_14 rfl ?_
  refine G_aload_n C dX12_takesOrder_15 rfl ?_
  refine gI_X12_9 C ly_75 rfl wf_X12_25 dX12_takesOrder_16 ?_
  refine G_icmp_eq (tgt := 24) C dX12_takesOrder_19 (by decide) ⟨h.1.1, h.1.2⟩ (fun q => ?_) (fun q => ?_)
  · have h := h.2.1 q
    refine G_iconst C dX12_takesOrder_24 ?_
    refine G_istore_n (L' := [rv 75, iv (s1 75 24), iv 0, none, none]) C dX12_takesOrder_25 (by decide) rfl ?_
    refine G_iconst C dX12_takesOrder_26 ?_
    refine G_istore_n (L' := [rv 75, iv (s1 75 24), iv 0, iv 0, none]) C dX12_takesOrder_27 (by decide) rfl ?_
    exact h
  · have h := h.2.2 q
    refine G_iconst C dX12_takesOrder_22 ?_
    exact r _ _ _ _ dX12_takesOrder_23 (by decide) h
set_option maxRecDepth 20000 in
theorem kb_X12_takesOrder_28 {X : Cx} {d : Nat} {P : Int → Sto → Prop} (C : Ok LY X RX12 cX12_takesOrder 5 d) (r : RetZ LY X cX12_takesOrder P) {v1 v2 v3 : Int} {s : Sto} (h : ((rg v3 ∧ rg v1) ∧ ((v1 ≤ v3 → G LY X 85 [rv 75, iv v1, iv v2, iv 0, none] [] s) ∧ (v3 < v1 → ((0 ≤ v3 ∧ v3 < 400) ∧ ((rg ((s 91 v3) - 97)) ∧ ((((s 91 v3) - 97) < 0 → P 0 s) ∧ (0 ≤ ((s 91 v3) - 97) → ((rg ((s 91 v3) - 97) ∧ rg (s 75 9)) ∧ (((s 75 9) ≤ ((s 91 v3) - 97) → P 0 s) ∧ (((s 91 v3) - 97) < (s 75 9) → (((xand (xshr v2 ((s 91 v3) - 97)) 1) ≠ 1 → G LY X 28 [rv 75, iv v1, iv (xor_ v2 (xshl 1 ((s 91 v3) - 97))), iv (v3 + 1), none] [] s) ∧ ((xand (xshr v2 ((s 91 v3) - 97)) 1) = 1 → P 0 s))))))))))))) : G LY X 28 [rv 75, iv v1, iv v2, iv v3, none] [] s := by
  refine G_iload_n C dX12_takesOrder_28 rfl ?_
  refine G_iload_n C dX12_takesOrder_29 rfl ?_
  refine G_icmp_ge (tgt := 83) C dX12_takesOrder_30 (by decide) ⟨h.1.1, h.1.2⟩ (fun q => ?_) (fun q => ?_)
  · have h := h.2.1 q
    refine G_iconst C dX12_takesOrder_83 ?_
    refine G_istore_n (L' := [rv 75, iv v1, iv v2, iv 0, none]) C dX12_takesOrder_84 (by decide) rfl ?_
    exact h
  · have h := h.2.2 q
    refine G_aload_n C dX12_takesOrder_33 rfl ?_
    refine gR_X12_23 C ly_75 rfl wf_X12_59 dX12_takesOrder_34 ?_
    refine G_iload_n C dX12_takesOrder_37 rfl ?_
    refine G_iald C ly_91 (by decide) h.1 dX12_takesOrder_38 ?_
    have h := h.2
    refine G_bipush C dX12_takesOrder_39 bi_97 ?_
    refine G_isub C dX12_takesOrder_41 ?_
    refine G_istore (L' := [rv 75, iv v1, iv v2, iv v3, iv ((s 91 v3) - 97)]) C dX12_takesOrder_42 (by decide) rfl ?_
    refine G_iload C dX12_takesOrder_44 rfl ?_
    refine G_if_lt (tgt := 68) C dX12_takesOrder_46 (by decide) h.1 (fun q => ?_) (fun q => ?_)
    · have h := h.2.1 q
      refine G_iconst C dX12_takesOrder_68 ?_
      exact r _ _ _ _ dX12_takesOrder_69 (by decide) h
    · have h := h.2.2 q
      refine G_iload C dX12_takesOrder_49 rfl ?_
      refine G_aload_n C dX12_takesOrder_51 rfl ?_
      refine gI_X12_9 C ly_75 rfl wf_X12_25 dX12_takesOrder_52 ?_
      refine G_icmp_ge (tgt := 68) C dX12_takesOrder_55 (by decide) ⟨h.1.1, h.1.2⟩ (fun q => ?_) (fun q => ?_)
      · have h := h.2.1 q
        refine G_iconst C dX12_takesOrder_68 ?_
        exact r _ _ _ _ dX12_takesOrder_69 (by decide) h
      · have h := h.2.2 q
        refine G_iload_n C dX12_takesOrder_58 rfl ?_
        refine G_iload C dX12_takesOrder_59 rfl ?_
        refine G_ishr C dX12_takesOrder_61 ?_
        refine G_iconst C dX12_takesOrder_62 ?_
        refine G_iand C dX12_takesOrder_63 ?_
        refine G_iconst C dX12_takesOrder_64 ?_
        refine G_icmp_ne (tgt := 70) C dX12_takesOrder_65 (by decide) ⟨(oI_rg _), (by decide)⟩ (fun q => ?_) (fun q => ?_)
        · have h := h.1 q
          refine G_iload_n C dX12_takesOrder_70 rfl ?_
          refine G_iconst C dX12_takesOrder_71 ?_
          refine G_iload C dX12_takesOrder_72 rfl ?_
          refine G_ishl C dX12_takesOrder_74 ?_
          refine G_ior C dX12_takesOrder_75 ?_
          refine G_istore_n (L' := [rv 75, iv v1, iv (xor_ v2 (xshl 1 ((s 91 v3) - 97))), iv v3, iv ((s 91 v3) - 97)]) C dX12_takesOrder_76 (by decide) rfl ?_
          refine G_iinc (L' := [rv 75, iv v1, iv (xor_ v2 (xshl 1 ((s 91 v3) - 97))), iv (v3 + 1), iv ((s 91 v3) - 97)]) C dX12_takesOrder_77 (by decide) rfl rfl ?_
          refine G_goto (tgt := 28) C dX12_takesOrder_80 (by decide) ?_
          refine G_drop (i := 4) (L' := [rv 75, iv v1, iv (xor_ v2 (xshl 1 ((s 91 v3) - 97))), iv (v3 + 1), none]) rfl ?_
          exact h
        · have h := h.2 q
          refine G_iconst C dX12_takesOrder_68 ?_
          exact r _ _ _ _ dX12_takesOrder_69 (by decide) h
set_option maxRecDepth 20000 in
theorem kb_X12_takesOrder_85 {X : Cx} {d : Nat} {P : Int → Sto → Prop} (C : Ok LY X RX12 cX12_takesOrder 5 d) (r : RetZ LY X cX12_takesOrder P) {v1 v2 v3 : Int} {s : Sto} (h : ((rg v3 ∧ rg v1) ∧ ((v1 ≤ v3 → P 1 s) ∧ (v3 < v1 → ((0 ≤ v3 ∧ v3 < 400) ∧ ((0 ≤ (152 + v3) ∧ (152 + v3) < 168) ∧ (∀ s1 : Sto, s1 = up s 81 (152 + v3) ((s 91 v3) - 97) → G LY X 85 [rv 75, iv v1, iv v2, iv (v3 + 1), none] [] s1))))))) : G LY X 85 [rv 75, iv v1, iv v2, iv v3, none] [] s := by
  refine G_iload_n C dX12_takesOrder_85 rfl ?_
  refine G_iload_n C dX12_takesOrder_86 rfl ?_
  refine G_icmp_ge (tgt := 115) C dX12_takesOrder_87 (by decide) ⟨h.1.1, h.1.2⟩ (fun q => ?_) (fun q => ?_)
  · have h := h.2.1 q
    refine G_iconst C dX12_takesOrder_115 ?_
    exact r _ _ _ _ dX12_takesOrder_116 (by decide) h
  · have h := h.2.2 q
    refine G_aload_n C dX12_takesOrder_90 rfl ?_
    refine gR_X12_10 C ly_75 rfl wf_X12_29 dX12_takesOrder_91 ?_
    refine G_sipush C dX12_takesOrder_94 si_152 ?_
    refine G_iload_n C dX12_takesOrder_97 rfl ?_
    refine G_iadd C dX12_takesOrder_98 ?_
    refine G_aload_n C dX12_takesOrder_99 rfl ?_
    refine gR_X12_23 C ly_75 rfl wf_X12_59 dX12_takesOrder_100 ?_
    refine G_iload_n C dX12_takesOrder_103 rfl ?_
    refine G_iald C ly_91 (by decide) h.1 dX12_takesOrder_104 ?_
    have h := h.2
    refine G_bipush C dX12_takesOrder_105 bi_97 ?_
    refine G_isub C dX12_takesOrder_107 ?_
    refine G_iast C ly_81 (by decide) h.1 dX12_takesOrder_108 ?_
    have h := h.2
    have h := h _ rfl
    obtain ⟨s1, e1⟩ : ∃ z, z = up s 81 (152 + v3) ((s 91 v3) - 97) := ⟨_, rfl⟩
    rw [← e1] at h ⊢
    refine G_iinc (L' := [rv 75, iv v1, iv v2, iv (v3 + 1), none]) C dX12_takesOrder_109 (by decide) rfl rfl ?_
    refine G_goto (tgt := 85) C dX12_takesOrder_112 (by decide) ?_
    exact h
set_option maxRecDepth 20000 in
theorem kb_X12_movesOrder_0 {X : Cx} {d : Nat} {P : Sto → Prop} (C : Ok LY X RX12 cX12_movesOrder 4 d) (r : RetV LY X cX12_movesOrder P) {v1 v2 : Int} {s : Sto} (h : G LY X 2 [rv 75, iv v1, iv v2, iv 0] [] s) : G LY X 0 [rv 75, iv v1, iv v2, none] [] s := by
  refine G_iconst C dX12_movesOrder_0 ?_
  refine G_istore_n (L' := [rv 75, iv v1, iv v2, iv 0]) C dX12_movesOrder_1 (by decide) rfl ?_
  exact h
set_option maxRecDepth 20000 in
theorem kb_X12_movesOrder_2 {X : Cx} {d : Nat} {P : Sto → Prop} (C : Ok LY X RX12 cX12_movesOrder 4 d) (r : RetV LY X cX12_movesOrder P) {v1 v2 v3 : Int} {s : Sto} (h : ((rg v3) ∧ ((8 ≤ v3 → P s) ∧ (v3 < 8 → ((0 ≤ ((8 * v1) + v3) ∧ ((8 * v1) + v3) < 168) ∧ ((0 ≤ ((8 * v2) + v3) ∧ ((8 * v2) + v3) < 168) ∧ (∀ s1 : Sto, s1 = up s 81 ((8 * v2) + v3) (s 81 ((8 * v1) + v3)) → G LY X 2 [rv 75, iv v1, iv v2, iv (v3 + 1)] [] s1))))))) : G LY X 2 [rv 75, iv v1, iv v2, iv v3] [] s := by
  refine G_iload_n C dX12_movesOrder_2 rfl ?_
  refine G_bipush C dX12_movesOrder_3 bi_8 ?_
  refine G_icmp_ge (tgt := 36) C dX12_movesOrder_5 (by decide) ⟨h.1, (by decide)⟩ (fun q => ?_) (fun q => ?_)
  · have h := h.2.1 q
    exact r _ _ _ dX12_movesOrder_36 h
  · have h := h.2.2 q
    refine G_aload_n C dX12_movesOrder_8 rfl ?_
    refine gR_X12_10 C ly_75 rfl wf_X12_29 dX12_movesOrder_9 ?_
    refine G_bipush C dX12_movesOrder_12 bi_8 ?_
    refine G_iload_n C dX12_movesOrder_14 rfl ?_
    refine G_imul C dX12_movesOrder_15 ?_
    refine G_iload_n C dX12_movesOrder_16 rfl ?_
    refine G_iadd C dX12_movesOrder_17 ?_
    refine G_aload_n C dX12_movesOrder_18 rfl ?_
    refine gR_X12_10 C ly_75 rfl wf_X12_29 dX12_movesOrder_19 ?_
    refine G_bipush C dX12_movesOrder_22 bi_8 ?_
    refine G_iload_n C dX12_movesOrder_24 rfl ?_
    refine G_imul C dX12_movesOrder_25 ?_
    refine G_iload_n C dX12_movesOrder_26 rfl ?_
    refine G_iadd C dX12_movesOrder_27 ?_
    refine G_iald C ly_81 (by decide) h.1 dX12_movesOrder_28 ?_
    have h := h.2
    refine G_iast C ly_81 (by decide) h.1 dX12_movesOrder_29 ?_
    have h := h.2
    have h := h _ rfl
    obtain ⟨s1, e1⟩ : ∃ z, z = up s 81 ((8 * v2) + v3) (s 81 ((8 * v1) + v3)) := ⟨_, rfl⟩
    rw [← e1] at h ⊢
    refine G_iinc (L' := [rv 75, iv v1, iv v2, iv (v3 + 1)]) C dX12_movesOrder_30 (by decide) rfl rfl ?_
    refine G_goto (tgt := 2) C dX12_movesOrder_33 (by decide) ?_
    exact h
set_option maxRecDepth 20000 in
theorem kb_X12_leastOf_0 {X : Cx} {d : Nat} {P : Int → Sto → Prop} (C : Ok LY X RX12 cX12_leastOf 2 d) (r : RetI LY X cX12_leastOf P) {v1 : Int} {s : Sto} (h : ((rg v1) ∧ ((v1 ≠ 5 → P 0 s) ∧ (v1 = 5 → P 1 s)))) : G LY X 0 [rv 75, iv v1] [] s := by
  refine G_iload_n C dX12_leastOf_0 rfl ?_
  refine G_iconst C dX12_leastOf_1 ?_
  refine G_icmp_ne (tgt := 9) C dX12_leastOf_2 (by decide) ⟨h.1, (by decide)⟩ (fun q => ?_) (fun q => ?_)
  · have h := h.2.1 q
    refine G_iconst C dX12_leastOf_9 ?_
    exact r _ _ _ _ dX12_leastOf_10 h
  · have h := h.2.2 q
    refine G_iconst C dX12_leastOf_5 ?_
    refine G_goto (tgt := 10) C dX12_leastOf_6 (by decide) ?_
    exact r _ _ _ _ dX12_leastOf_10 h
set_option maxRecDepth 20000 in
theorem kb_X12_mostOf_0 {X : Cx} {d : Nat} {P : Int → Sto → Prop} (C : Ok LY X RX12 cX12_mostOf 2 d) (r : RetI LY X cX12_mostOf P) {v1 : Int} {s : Sto} (h : ((rg v1) ∧ ((v1 < 2 → P 2 s) ∧ (2 ≤ v1 → ((rg v1) ∧ ((v1 ≠ 6 → P 99 s) ∧ (v1 = 6 → P 2 s))))))) : G LY X 0 [rv 75, iv v1] [] s := by
  refine G_iload_n C dX12_mostOf_0 rfl ?_
  refine G_iconst C dX12_mostOf_1 ?_
  refine G_icmp_lt (tgt := 11) C dX12_mostOf_2 (by decide) ⟨h.1, (by decide)⟩ (fun q => ?_) (fun q => ?_)
  · have h := h.2.1 q
    refine G_iconst C dX12_mostOf_11 ?_
    refine G_goto (tgt := 17) C dX12_mostOf_12 (by decide) ?_
    exact r _ _ _ _ dX12_mostOf_17 h
  · have h := h.2.2 q
    refine G_iload_n C dX12_mostOf_5 rfl ?_
    refine G_bipush C dX12_mostOf_6 bi_6 ?_
    refine G_icmp_ne (tgt := 15) C dX12_mostOf_8 (by decide) ⟨h.1, (by decide)⟩ (fun q => ?_) (fun q => ?_)
    · have h := h.2.1 q
      refine G_bipush C dX12_mostOf_15 bi_99 ?_
      exact r _ _ _ _ dX12_mostOf_17 h
    · have h := h.2.2 q
      refine G_iconst C dX12_mostOf_11 ?_
      refine G_goto (tgt := 17) C dX12_mostOf_12 (by decide) ?_
      exact r _ _ _ _ dX12_mostOf_17 h
set_option maxRecDepth 20000 in
theorem kb_X12_types_0 {X : Cx} {d : Nat} {P : Sto → Prop} (C : Ok LY X RX12 cX12_types 3 d) (r : RetV LY X cX12_types P) {v1 : Int} {s : Sto} (h : G LY X 3 [rv 75, iv v1, iv 24] [] s) : G LY X 0 [rv 75, iv v1, none] [] s := by
  refine G_bipush C dX12_types_0 bi_24 ?_
  refine G_istore_n (L' := [rv 75, iv v1, iv 24]) C dX12_types_2 (by decide) rfl ?_
  exact h
set_option maxRecDepth 20000 in
theorem kb_X12_types_3 {X : Cx} {d : Nat} {P : Sto → Prop} (C : Ok LY X RX12 cX12_types 3 d) (r : RetV LY X cX12_types P) {v1 v2 : Int} {s : Sto} (h : ((rg v2) ∧ ((v2 < 0 → P s) ∧ (0 ≤ v2 → ((0 ≤ (s 75 24) ∧ (s 75 24) < 400) ∧ (∀ s1 : Sto, s1 = up s 91 (s 75 24) (xand (xshr v1 v2) 255) → (∀ s2 : Sto, s2 = up s1 75 24 ((s1 75 24) + 1) → G LY X 3 [rv 75, iv v1, iv (v2 + (-8))] [] s2))))))) : G LY X 3 [rv 75, iv v1, iv v2] [] s := by
  refine G_iload_n C dX12_types_3 rfl ?_
  refine G_if_lt (tgt := 39) C dX12_types_4 (by decide) h.1 (fun q => ?_) (fun q => ?_)
  · have h := h.2.1 q
    exact r _ _ _ dX12_types_39 h
  · have h := h.2.2 q
    refine G_aload_n C dX12_types_7 rfl ?_
    refine gR_X12_23 C ly_75 rfl wf_X12_59 dX12_types_8 ?_
    refine G_aload_n C dX12_types_11 rfl ?_
    refine gI_X12_24 C ly_75 rfl wf_X12_157 dX12_types_12 ?_
    refine G_iload_n C dX12_types_15 rfl ?_
    refine G_iload_n C dX12_types_16 rfl ?_
    refine G_ishr C dX12_types_17 ?_
    refine G_sipush C dX12_types_18 si_255 ?_
    refine G_iand C dX12_types_21 ?_
    refine G_iast C ly_91 (by decide) h.1 dX12_types_22 ?_
    have h := h.2
    have h := h _ rfl
    obtain ⟨s1, e1⟩ : ∃ z, z = up s 91 (s 75 24) (xand (xshr v1 v2) 255) := ⟨_, rfl⟩
    rw [← e1] at h ⊢
    refine G_aload_n C dX12_types_23 rfl ?_
    refine G_aload_n C dX12_types_24 rfl ?_
    refine gI_X12_24 C ly_75 rfl wf_X12_157 dX12_types_25 ?_
    refine G_iconst C dX12_types_28 ?_
    refine G_iadd C dX12_types_29 ?_
    refine gP_X12_24 C ly_75 rfl wf_X12_157 dX12_types_30 ?_
    have h := h _ rfl
    obtain ⟨s2, e2⟩ : ∃ z, z = up s1 75 24 ((s1 75 24) + 1) := ⟨_, rfl⟩
    rw [← e2] at h ⊢
    refine G_iinc (L' := [rv 75, iv v1, iv (v2 + (-8))]) C dX12_types_33 (by decide) rfl rfl ?_
    refine G_goto (tgt := 3) C dX12_types_36 (by decide) ?_
    exact h
set_option maxRecDepth 20000 in
theorem kb_X12_reads_0 {X : Cx} {d : Nat} {P : Sto → Prop} (C : Ok LY X RX12 cX12_reads 2 d) (r : RetV LY X cX12_reads P) {s : Sto} (h : (CallI LY d MX12_raw [.inr 75, .inl (s 75 25)] s (fun r1 s1 => ((rg r1) ∧ ((r1 = 32 → (∀ s2 : Sto, s2 = up s1 75 25 ((s1 75 25) + 1) → G LY X 0 [rv 75, none] [] s2)) ∧ (r1 ≠ 32 → (CallI LY d MX12_raw [.inr 75, .inl (s1 75 25)] s1 (fun r3 s3 => ((rg r3) ∧ ((r3 ≠ 10 → (∀ s4 : Sto, s4 = up s3 75 26 (s3 75 25) → (∀ s5 : Sto, s5 = up s4 75 27 1 → (CallI LY d MX12_raw [.inr 75, .inl (s5 75 25)] s5 (fun r6 s6 => ((rg r6) ∧ ((r6 ≠ (-1) → (∀ s7 : Sto, s7 = up s6 75 25 ((s6 75 25) + 1) → (∀ s8 : Sto, s8 = up s7 75 28 r6 → (CallI LY d MX12_isLetter [.inr 75, .inl r6] s8 (fun r9 s9 => ((rg r9) ∧ ((r9 = 0 → (CallI LY d MX12_isDigit [.inr 75, .inl r6] s9 (fun r10 s10 => ((rg r10) ∧ ((r10 = 0 → (CallI LY d MX12_isMarkSign [.inr 75, .inl r6] s10 (fun r11 s11 => ((rg r11) ∧ ((r11 = 0 → P s11) ∧ (r11 ≠ 0 → (∀ s12 : Sto, s12 = up s11 75 27 4 → P s12))))))) ∧ (r10 ≠ 0 → (∀ s13 : Sto, s13 = up s10 75 28 (r6 - 48) → G LY X 171 [rv 75, iv r6] [] s13))))))) ∧ (r9 ≠ 0 → G LY X 95 [rv 75, iv r6] [] s9)))))))) ∧ (r6 = (-1) → (∀ s14 : Sto, s14 = up s6 75 27 0 → P s14))))))))) ∧ (r3 = 10 → (∀ s15 : Sto, s15 = up s3 75 25 ((s3 75 25) + 1) → G LY X 0 [rv 75, none] [] s15)))))))))))) : G LY X 0 [rv 75, none] [] s := by
  refine G_aload_n C dX12_reads_0 rfl ?_
  refine G_aload_n C dX12_reads_1 rfl ?_
  refine gI_X12_25 C ly_75 rfl wf_X12_212 dX12_reads_2 ?_
  refine G_callVI (K := []) (args := [.inl (s 75 25)]) (T := TX12) (N := 72) C ly_75 rfl (Nat.le_of_ble_eq_true rfl) mo_X12_raw wc_X12_215 rfl dX12_reads_5 h (fun r1 s1 h => ?_)
  refine G_bipush C dX12_reads_8 bi_32 ?_
  refine G_icmp_eq (tgt := 26) C dX12_reads_10 (by decide) ⟨h.1, (by decide)⟩ (fun q => ?_) (fun q => ?_)
  · have h := h.2.1 q
    refine G_aload_n C dX12_reads_26 rfl ?_
    refine G_aload_n C dX12_reads_27 rfl ?_
    refine gI_X12_25 C ly_75 rfl wf_X12_212 dX12_reads_28 ?_
    refine G_iconst C dX12_reads_31 ?_
    refine G_iadd C dX12_reads_32 ?_
    refine gP_X12_25 C ly_75 rfl wf_X12_212 dX12_reads_33 ?_
    have h := h _ rfl
    obtain ⟨s2, e2⟩ : ∃ z, z = up s1 75 25 ((s1 75 25) + 1) := ⟨_, rfl⟩
    rw [← e2] at h ⊢
    refine G_goto (tgt := 0) C dX12_reads_36 (by decide) ?_
    exact h
  · have h := h.2.2 q
    refine G_aload_n C dX12_reads_13 rfl ?_
    refine G_aload_n C dX12_reads_14 rfl ?_
    refine gI_X12_25 C ly_75 rfl wf_X12_212 dX12_reads_15 ?_
    refine G_callVI (K := []) (args := [.inl (s1 75 25)]) (T := TX12) (N := 72) C ly_75 rfl (Nat.le_of_ble_eq_true rfl) mo_X12_raw wc_X12_215 rfl dX12_reads_18 h (fun r3 s3 h => ?_)
    refine G_bipush C dX12_reads_21 bi_10 ?_
    refine G_icmp_ne (tgt := 39) C dX12_reads_23 (by decide) ⟨h.1, (by decide)⟩ (fun q => ?_) (fun q => ?_)
    · have h := h.2.1 q
      refine G_aload_n C dX12_reads_39 rfl ?_
      refine G_aload_n C dX12_reads_40 rfl ?_
      refine gI_X12_25 C ly_75 rfl wf_X12_212 dX12_reads_41 ?_
      refine gP_X12_26 C ly_75 rfl wf_X12_218 dX12_reads_44 ?_
      have h := h _ rfl
      obtain ⟨s4, e4⟩ : ∃ z, z = up s3 75 26 (s3 75 25) := ⟨_, rfl⟩
      rw [← e4] at h ⊢
      refine G_aload_n C dX12_reads_47 rfl ?_
      refine G_iconst C dX12_reads_48 ?_
      refine gP_X12_27 C ly_75 rfl wf_X12_221 dX12_reads_49 ?_
      have h := h _ rfl
      obtain ⟨s5, e5⟩ : ∃ z, z = up s4 75 27 1 := ⟨_, rfl⟩
      rw [← e5] at h ⊢
      refine G_aload_n C dX12_reads_52 rfl ?_
      refine G_aload_n C dX12_reads_53 rfl ?_
      refine gI_X12_25 C ly_75 rfl wf_X12_212 dX12_reads_54 ?_
      refine G_callVI (K := []) (args := [.inl (s5 75 25)]) (T := TX12) (N := 72) C ly_75 rfl (Nat.le_of_ble_eq_true rfl) mo_X12_raw wc_X12_215 rfl dX12_reads_57 h (fun r6 s6 h => ?_)
      refine G_istore_n (L' := [rv 75, iv r6]) C dX12_reads_60 (by decide) rfl ?_
      refine G_iload_n C dX12_reads_61 rfl ?_
      refine G_iconst C dX12_reads_62 ?_
      refine G_icmp_ne (tgt := 72) C dX12_reads_63 (by decide) ⟨h.1, (by decide)⟩ (fun q => ?_) (fun q => ?_)
      · have h := h.2.1 q
        refine G_aload_n C dX12_reads_72 rfl ?_
        refine G_aload_n C dX12_reads_73 rfl ?_
        refine gI_X12_25 C ly_75 rfl wf_X12_212 dX12_reads_74 ?_
        refine G_iconst C dX12_reads_77 ?_
        refine G_iadd C dX12_reads_78 ?_
        refine gP_X12_25 C ly_75 rfl wf_X12_212 dX12_reads_79 ?_
        have h := h _ rfl
        obtain ⟨s7, e7⟩ : ∃ z, z = up s6 75 25 ((s6 75 25) + 1) := ⟨_, rfl⟩
        rw [← e7] at h ⊢
        refine G_aload_n C dX12_reads_82 rfl ?_
        refine G_iload_n C dX12_reads_83 rfl ?_
        refine gP_X12_28 C ly_75 rfl wf_X12_224 dX12_reads_84 ?_
        have h := h _ rfl
        obtain ⟨s8, e8⟩ : ∃ z, z = up s7 75 28 r6 := ⟨_, rfl⟩
        rw [← e8] at h ⊢
        refine G_aload_n C dX12_reads_87 rfl ?_
        refine G_iload_n C dX12_reads_88 rfl ?_
        refine G_callVI (K := []) (args := [.inl r6]) (T := TX12) (N := 72) C ly_75 rfl (Nat.le_of_ble_eq_true rfl) mo_X12_isLetter wc_X12_227 rfl dX12_reads_89 h (fun r9 s9 h => ?_)
        refine G_if_eq (tgt := 155) C dX12_reads_92 (by decide) h.1 (fun q => ?_) (fun q => ?_)
        · have h := h.2.1 q
          refine G_aload_n C dX12_reads_155 rfl ?_
          refine G_iload_n C dX12_reads_156 rfl ?_
          refine G_callVI (K := []) (args := [.inl r6]) (T := TX12) (N := 72) C ly_75 rfl (Nat.le_of_ble_eq_true rfl) mo_X12_isDigit wc_X12_234 rfl dX12_reads_157 h (fun r10 s10 h => ?_)
          refine G_if_eq (tgt := 260) C dX12_reads_160 (by decide) h.1 (fun q => ?_) (fun q => ?_)
          · have h := h.2.1 q
            refine G_aload_n C dX12_reads_260 rfl ?_
            refine G_iload_n C dX12_reads_261 rfl ?_
            refine G_callVI (K := []) (args := [.inl r6]) (T := TX12) (N := 72) C ly_75 rfl (Nat.le_of_ble_eq_true rfl) mo_X12_isMarkSign wc_X12_237 rfl dX12_reads_262 h (fun r11 s11 h => ?_)
            refine G_if_eq (tgt := 273) C dX12_reads_265 (by decide) h.1 (fun q => ?_) (fun q => ?_)
            · have h := h.2.1 q
              exact r _ _ _ dX12_reads_273 h
            · have h := h.2.2 q
              refine G_aload_n C dX12_reads_268 rfl ?_
              refine G_iconst C dX12_reads_269 ?_
              refine gP_X12_27 C ly_75 rfl wf_X12_221 dX12_reads_270 ?_
              have h := h _ rfl
              obtain ⟨s12, e12⟩ : ∃ z, z = up s11 75 27 4 := ⟨_, rfl⟩
              rw [← e12] at h ⊢
              exact r _ _ _ dX12_reads_273 h
          · have h := h.2.2 q
            refine G_aload_n C dX12_reads_163 rfl ?_
            refine G_iload_n C dX12_reads_164 rfl ?_
            refine G_bipush C dX12_reads_165 bi_48 ?_
            refine G_isub C dX12_reads_167 ?_
            refine gP_X12_28 C ly_75 rfl wf_X12_224 dX12_reads_168 ?_
            have h := h _ rfl
            obtain ⟨s13, e13⟩ : ∃ z, z = up s10 75 28 (r6 - 48) := ⟨_, rfl⟩
            rw [← e13] at h ⊢
            exact h
        · have h := h.2.2 q
          exact h
      · have h := h.2.2 q
        refine G_aload_n C dX12_reads_66 rfl ?_
        refine G_iconst C dX12_reads_67 ?_
        refine gP_X12_27 C ly_75 rfl wf_X12_221 dX12_reads_68 ?_
        have h := h _ rfl
        obtain ⟨s14, e14⟩ : ∃ z, z = up s6 75 27 0 := ⟨_, rfl⟩
        rw [← e14] at h ⊢
        exact r _ _ _ dX12_reads_71 h
    · have h := h.2.2 q
      refine G_aload_n C dX12_reads_26 rfl ?_
      refine G_aload_n C dX12_reads_27 rfl ?_
      refine gI_X12_25 C ly_75 rfl wf_X12_212 dX12_reads_28 ?_
      refine G_iconst C dX12_reads_31 ?_
      refine G_iadd C dX12_reads_32 ?_
      refine gP_X12_25 C ly_75 rfl wf_X12_212 dX12_reads_33 ?_
      have h := h _ rfl
      obtain ⟨s15, e15⟩ : ∃ z, z = up s3 75 25 ((s3 75 25) + 1) := ⟨_, rfl⟩
      rw [← e15] at h ⊢
      refine G_goto (tgt := 0) C dX12_reads_36 (by decide) ?_
      exact h
set_option maxRecDepth 20000 in
theorem kb_X12_reads_95 {X : Cx} {d : Nat} {P : Sto → Prop} (C : Ok LY X RX12 cX12_reads 2 d) (r : RetV LY X cX12_reads P) {v1 : Int} {s : Sto} (h : (CallI LY d MX12_raw [.inr 75, .inl (s 75 25)] s (fun r1 s1 => (CallI LY d MX12_isLetter [.inr 75, .inl r1] s1 (fun r2 s2 => ((rg r2) ∧ ((r2 = 0 → (CallI LY d MX12_wordAt [.inr 75, .inl (s2 75 26), .inl (s2 75 25)] s2 (fun r3 s3 => (∀ s4 : Sto, s4 = up s3 75 28 r3 → ((rg (s4 75 28)) ∧ (((s4 75 28) = (-1) → P s4) ∧ ((s4 75 28) ≠ (-1) → (∀ s5 : Sto, s5 = up s4 75 27 2 → P s5)))))))) ∧ (r2 ≠ 0 → (∀ s6 : Sto, s6 = up s2 75 25 ((s2 75 25) + 1) → G LY X 95 [rv 75, iv v1] [] s6))))))))) : G LY X 95 [rv 75, iv v1] [] s := by
  refine G_aload_n C dX12_reads_95 rfl ?_
  refine G_aload_n C dX12_reads_96 rfl ?_
  refine G_aload_n C dX12_reads_97 rfl ?_
  refine gI_X12_25 C ly_75 rfl wf_X12_212 dX12_reads_98 ?_
  refine G_callVI (K := [.inr 75]) (args := [.inl (s 75 25)]) (T := TX12) (N := 72) C ly_75 rfl (Nat.le_of_ble_eq_true rfl) mo_X12_raw wc_X12_215 rfl dX12_reads_101 h (fun r1 s1 h => ?_)
  refine G_callVI (K := []) (args := [.inl r1]) (T := TX12) (N := 72) C ly_75 rfl (Nat.le_of_ble_eq_true rfl) mo_X12_isLetter wc_X12_227 rfl dX12_reads_104 h (fun r2 s2 h => ?_)
  refine G_if_eq (tgt := 123) C dX12_reads_107 (by decide) h.1 (fun q => ?_) (fun q => ?_)
  · have h := h.2.1 q
    refine G_aload_n C dX12_reads_123 rfl ?_
    refine G_aload_n C dX12_reads_124 rfl ?_
    refine G_aload_n C dX12_reads_125 rfl ?_
    refine gI_X12_26 C ly_75 rfl wf_X12_218 dX12_reads_126 ?_
    refine G_aload_n C dX12_reads_129 rfl ?_
    refine gI_X12_25 C ly_75 rfl wf_X12_212 dX12_reads_130 ?_
    refine G_callVI (K := [.inr 75]) (args := [.inl (s2 75 26), .inl (s2 75 25)]) (T := TX12) (N := 72) C ly_75 rfl (Nat.le_of_ble_eq_true rfl) mo_X12_wordAt wc_X12_230 rfl dX12_reads_133 h (fun r3 s3 h => ?_)
    refine gP_X12_28 C ly_75 rfl wf_X12_224 dX12_reads_136 ?_
    have h := h _ rfl
    obtain ⟨s4, e4⟩ : ∃ z, z = up s3 75 28 r3 := ⟨_, rfl⟩
    rw [← e4] at h ⊢
    refine G_aload_n C dX12_reads_139 rfl ?_
    refine gI_X12_28 C ly_75 rfl wf_X12_224 dX12_reads_140 ?_
    refine G_iconst C dX12_reads_143 ?_
    refine G_icmp_eq (tgt := 273) C dX12_reads_144 (by decide) ⟨h.1, (by decide)⟩ (fun q => ?_) (fun q => ?_)
    · have h := h.2.1 q
      exact r _ _ _ dX12_reads_273 h
    · have h := h.2.2 q
      refine G_aload_n C dX12_reads_147 rfl ?_
      refine G_iconst C dX12_reads_148 ?_
      refine gP_X12_27 C ly_75 rfl wf_X12_221 dX12_reads_149 ?_
      have h := h _ rfl
      obtain ⟨s5, e5⟩ : ∃ z, z = up s4 75 27 2 := ⟨_, rfl⟩
      rw [← e5] at h ⊢
      refine G_goto (tgt := 273) C dX12_reads_152 (by decide) ?_
      exact r _ _ _ dX12_reads_273 h
  · have h := h.2.2 q
    refine G_aload_n C dX12_reads_110 rfl ?_
    refine G_aload_n C dX12_reads_111 rfl ?_
    refine gI_X12_25 C ly_75 rfl wf_X12_212 dX12_reads_112 ?_
    refine G_iconst C dX12_reads_115 ?_
    refine G_iadd C dX12_reads_116 ?_
    refine gP_X12_25 C ly_75 rfl wf_X12_212 dX12_reads_117 ?_
    have h := h _ rfl
    obtain ⟨s6, e6⟩ : ∃ z, z = up s2 75 25 ((s2 75 25) + 1) := ⟨_, rfl⟩
    rw [← e6] at h ⊢
    refine G_goto (tgt := 95) C dX12_reads_120 (by decide) ?_
    exact h
set_option maxRecDepth 20000 in
theorem kb_X12_reads_171 {X : Cx} {d : Nat} {P : Sto → Prop} (C : Ok LY X RX12 cX12_reads 2 d) (r : RetV LY X cX12_reads P) {v1 : Int} {s : Sto} (h : (CallI LY d MX12_raw [.inr 75, .inl (s 75 25)] s (fun r1 s1 => (CallI LY d MX12_isDigit [.inr 75, .inl r1] s1 (fun r2 s2 => ((rg r2) ∧ ((r2 = 0 → ((rg ((s2 75 25) - (s2 75 26))) ∧ ((5 ≤ ((s2 75 25) - (s2 75 26)) → P s2) ∧ (((s2 75 25) - (s2 75 26)) < 5 → (∀ s3 : Sto, s3 = up s2 75 27 3 → P s3))))) ∧ (r2 ≠ 0 → ((rg (s2 75 28)) ∧ ((10000 ≤ (s2 75 28) → (∀ s4 : Sto, s4 = up s2 75 28 (s2 75 28) → (∀ s5 : Sto, s5 = up s4 75 25 ((s4 75 25) + 1) → G LY X 171 [rv 75, iv v1] [] s5))) ∧ ((s2 75 28) < 10000 → (CallI LY d MX12_raw [.inr 75, .inl (s2 75 25)] s2 (fun r6 s6 => (∀ s7 : Sto, s7 = up s6 75 28 (((10 * (s2 75 28)) + r6) - 48) → (∀ s8 : Sto, s8 = up s7 75 25 ((s7 75 25) + 1) → G LY X 171 [rv 75, iv v1] [] s8))))))))))))))) : G LY X 171 [rv 75, iv v1] [] s := by
  refine G_aload_n C dX12_reads_171 rfl ?_
  refine G_aload_n C dX12_reads_172 rfl ?_
  refine G_aload_n C dX12_reads_173 rfl ?_
  refine gI_X12_25 C ly_75 rfl wf_X12_212 dX12_reads_174 ?_
  refine G_callVI (K := [.inr 75]) (args := [.inl (s 75 25)]) (T := TX12) (N := 72) C ly_75 rfl (Nat.le_of_ble_eq_true rfl) mo_X12_raw wc_X12_215 rfl dX12_reads_177 h (fun r1 s1 h => ?_)
  refine G_callVI (K := []) (args := [.inl r1]) (T := TX12) (N := 72) C ly_75 rfl (Nat.le_of_ble_eq_true rfl) mo_X12_isDigit wc_X12_234 rfl dX12_reads_180 h (fun r2 s2 h => ?_)
  refine G_if_eq (tgt := 239) C dX12_reads_183 (by decide) h.1 (fun q => ?_) (fun q => ?_)
  · have h := h.2.1 q
    refine G_aload_n C dX12_reads_239 rfl ?_
    refine gI_X12_25 C ly_75 rfl wf_X12_212 dX12_reads_240 ?_
    refine G_aload_n C dX12_reads_243 rfl ?_
    refine gI_X12_26 C ly_75 rfl wf_X12_218 dX12_reads_244 ?_
    refine G_isub C dX12_reads_247 ?_
    refine G_iconst C dX12_reads_248 ?_
    refine G_icmp_ge (tgt := 273) C dX12_reads_249 (by decide) ⟨h.1, (by decide)⟩ (fun q => ?_) (fun q => ?_)
    · have h := h.2.1 q
      exact r _ _ _ dX12_reads_273 h
    · have h := h.2.2 q
      refine G_aload_n C dX12_reads_252 rfl ?_
      refine G_iconst C dX12_reads_253 ?_
      refine gP_X12_27 C ly_75 rfl wf_X12_221 dX12_reads_254 ?_
      have h := h _ rfl
      obtain ⟨s3, e3⟩ : ∃ z, z = up s2 75 27 3 := ⟨_, rfl⟩
      rw [← e3] at h ⊢
      refine G_goto (tgt := 273) C dX12_reads_257 (by decide) ?_
      exact r _ _ _ dX12_reads_273 h
  · have h := h.2.2 q
    refine G_aload_n C dX12_reads_186 rfl ?_
    refine G_aload_n C dX12_reads_187 rfl ?_
    refine gI_X12_28 C ly_75 rfl wf_X12_224 dX12_reads_188 ?_
    refine G_sipush C dX12_reads_191 si_10000 ?_
    refine G_icmp_ge (tgt := 219) C dX12_reads_194 (by decide) ⟨h.1, (by decide)⟩ (fun q => ?_) (fun q => ?_)
    · have h := h.2.1 q
      refine G_aload_n C dX12_reads_219 rfl ?_
      refine gI_X12_28 C ly_75 rfl wf_X12_224 dX12_reads_220 ?_
      refine gP_X12_28 C ly_75 rfl wf_X12_224 dX12_reads_223 ?_
      have h := h _ rfl
      obtain ⟨s4, e4⟩ : ∃ z, z = up s2 75 28 (s2 75 28) := ⟨_, rfl⟩
      rw [← e4] at h ⊢
      refine G_aload_n C dX12_reads_226 rfl ?_
      refine G_aload_n C dX12_reads_227 rfl ?_
      refine gI_X12_25 C ly_75 rfl wf_X12_212 dX12_reads_228 ?_
      refine G_iconst C dX12_reads_231 ?_
      refine G_iadd C dX12_reads_232 ?_
      refine gP_X12_25 C ly_75 rfl wf_X12_212 dX12_reads_233 ?_
      have h := h _ rfl
      obtain ⟨s5, e5⟩ : ∃ z, z = up s4 75 25 ((s4 75 25) + 1) := ⟨_, rfl⟩
      rw [← e5] at h ⊢
      refine G_goto (tgt := 171) C dX12_reads_236 (by decide) ?_
      exact h
    · have h := h.2.2 q
      refine G_bipush C dX12_reads_197 bi_10 ?_
      refine G_aload_n C dX12_reads_199 rfl ?_
      refine gI_X12_28 C ly_75 rfl wf_X12_224 dX12_reads_200 ?_
      refine G_imul C dX12_reads_203 ?_
      refine G_aload_n C dX12_reads_204 rfl ?_
      refine G_aload_n C dX12_reads_205 rfl ?_
      refine gI_X12_25 C ly_75 rfl wf_X12_212 dX12_reads_206 ?_
      refine G_callVI (K := [.inl (10 * (s2 75 28)), .inr 75]) (args := [.inl (s2 75 25)]) (T := TX12) (N := 72) C ly_75 rfl (Nat.le_of_ble_eq_true rfl) mo_X12_raw wc_X12_215 rfl dX12_reads_209 h (fun r6 s6 h => ?_)
      refine G_iadd C dX12_reads_212 ?_
      refine G_bipush C dX12_reads_213 bi_48 ?_
      refine G_isub C dX12_reads_215 ?_
      refine G_goto (tgt := 223) C dX12_reads_216 (by decide) ?_
      refine gP_X12_28 C ly_75 rfl wf_X12_224 dX12_reads_223 ?_
      have h := h _ rfl
      obtain ⟨s7, e7⟩ : ∃ z, z = up s6 75 28 (((10 * (s2 75 28)) + r6) - 48) := ⟨_, rfl⟩
      rw [← e7] at h ⊢
      refine G_aload_n C dX12_reads_226 rfl ?_
      refine G_aload_n C dX12_reads_227 rfl ?_
      refine gI_X12_25 C ly_75 rfl wf_X12_212 dX12_reads_228 ?_
      refine G_iconst C dX12_reads_231 ?_
      refine G_iadd C dX12_reads_232 ?_
      refine gP_X12_25 C ly_75 rfl wf_X12_212 dX12_reads_233 ?_
      have h := h _ rfl
      obtain ⟨s8, e8⟩ : ∃ z, z = up s7 75 25 ((s7 75 25) + 1) := ⟨_, rfl⟩
      rw [← e8] at h ⊢
      refine G_goto (tgt := 171) C dX12_reads_236 (by decide) ?_
      exact h
set_option maxRecDepth 20000 in
theorem kb_X12_readText_0 {X : Cx} {d : Nat} {P : Int → Sto → Prop} (C : Ok LY X RX12 cX12_readText 3 d) (r : RetI LY X cX12_readText P) {s : Sto} (h : G LY X 2 [rv 75, iv 0, none] [] s) : G LY X 0 [rv 75, none, none] [] s := by
  refine G_iconst C dX12_readText_0 ?_
  refine G_istore_n (L' := [rv 75, iv 0, none]) C dX12_readText_1 (by decide) rfl ?_
  exact h
set_option maxRecDepth 20000 in
theorem kb_X12_readText_2 {X : Cx} {d : Nat} {P : Int → Sto → Prop} (C : Ok LY X RX12 cX12_readText 3 d) (r : RetI LY X cX12_readText P) {v1 : Int} {s : Sto} (h : ((rg (s 75 27)) ∧ (((s 75 27) ≠ 2 → ((rg (s 75 27)) ∧ (((s 75 27) ≠ 0 → (CallI LY d MX12_errs [.inr 75, .inl 1] s (fun r1 s1 => P r1 s1))) ∧ ((s 75 27) = 0 → P v1 s)))) ∧ ((s 75 27) = 2 → ((rg (s 75 28)) ∧ ((1 < (s 75 28) → ((rg (s 75 27)) ∧ (((s 75 27) ≠ 0 → (CallI LY d MX12_errs [.inr 75, .inl 1] s (fun r2 s2 => P r2 s2))) ∧ ((s 75 27) = 0 → P v1 s)))) ∧ ((s 75 28) ≤ 1 → ((rg v1) ∧ ((v1 ≠ 16 → ((0 ≤ (16 + v1) ∧ (16 + v1) < 32) ∧ (∀ s3 : Sto, s3 = up s 93 (16 + v1) (s 75 28) → (CallV LY d MX12_reads [.inr 75] s3 (fun s4 => ((0 ≤ (16 + v1) ∧ (16 + v1) < 32) ∧ (∀ s5 : Sto, s5 = up s4 94 (16 + v1) (s4 75 36) → (CallI LY d MX12_isWord [.inr 75, .inl 2] s5 (fun r6 s6 => ((rg r6) ∧ ((r6 = 0 → ((0 ≤ (16 + v1) ∧ (16 + v1) < 32) ∧ (∀ s7 : Sto, s7 = up s6 95 (16 + v1) (s6 75 36) → (CallI LY d MX12_isSign [.inr 75, .inl 59] s7 (fun r8 s8 => ((rg r8) ∧ ((r8 ≠ 0 → (CallV LY d MX12_reads [.inr 75] s8 (fun s9 => G LY X 2 [rv 75, iv (v1 + 1), none] [] s9))) ∧ (r8 = 0 → (CallI LY d MX12_errs [.inr 75, .inl 1] s8 (fun r10 s10 => P r10 s10)))))))))) ∧ (r6 ≠ 0 → (CallV LY d MX12_reads [.inr 75] s6 (fun s11 => (CallI LY d MX12_readAny [.inr 75] s11 (fun r12 s12 => ((rg r12) ∧ ((r12 ≠ (-1) → ((0 ≤ (16 + v1) ∧ (16 + v1) < 32) ∧ (∀ s13 : Sto, s13 = up s12 95 (16 + v1) (s12 75 36) → (CallI LY d MX12_isSign [.inr 75, .inl 59] s13 (fun r14 s14 => ((rg r14) ∧ ((r14 ≠ 0 → (CallV LY d MX12_reads [.inr 75] s14 (fun s15 => G LY X 2 [rv 75, iv (v1 + 1), none] [] s15))) ∧ (r14 = 0 → (CallI LY d MX12_errs [.inr 75, .inl 1] s14 (fun r16 s16 => P r16 s16)))))))))) ∧ (r12 = (-1) → P (-1) s12))))))))))))))))))) ∧ (v1 = 16 → (CallI LY d MX12_errs [.inr 75, .inl 3] s (fun r17 s17 => P r17 s17)))))))))))) : G LY X 2 [rv 75, iv v1, none] [] s := by
  refine G_aload_n C dX12_readText_2 rfl ?_
  refine gI_X12_27 C ly_75 rfl wf_X12_221 dX12_readText_3 ?_
  refine G_iconst C dX12_readText_6 ?_
  refine G_icmp_ne (tgt := 117) C dX12_readText_7 (by decide) ⟨h.1, (by decide)⟩ (fun q => ?_) (fun q => ?_)
  · have h := h.2.1 q
    refine G_aload_n C dX12_readText_117 rfl ?_
    refine gI_X12_27 C ly_75 rfl wf_X12_221 dX12_readText_118 ?_
    refine G_if_ne (tgt := 128) C dX12_readText_121 (by decide) h.1 (fun q => ?_) (fun q => ?_)
    · have h := h.2.1 q
      refine G_aload_n C dX12_readText_128 rfl ?_
      refine G_iconst C dX12_readText_129 ?_
      refine G_callVI (K := []) (args := [.inl 1]) (T := TX12) (N := 72) C ly_75 rfl (Nat.le_of_ble_eq_true rfl) mo_X12_errs wc_X12_249 rfl dX12_readText_130 h (fun r1 s1 h => ?_)
      exact r _ _ _ _ dX12_readText_133 h
    · have h := h.2.2 q
      refine G_iload_n C dX12_readText_124 rfl ?_
      refine G_goto (tgt := 133) C dX12_readText_125 (by decide) ?_
      exact r _ _ _ _ dX12_readText_133 h
  · have h := h.2.2 q
    refine G_aload_n C dX12_readText_10 rfl ?_
    refine gI_X12_28 C ly_75 rfl wf_X12_224 dX12_readText_11 ?_
    refine G_iconst C dX12_readText_14 ?_
    refine G_icmp_gt (tgt := 117) C dX12_readText_15 (by decide) ⟨h.1, (by decide)⟩ (fun q => ?_) (fun q => ?_)
    · have h := h.2.1 q
      refine G_aload_n C dX12_readText_117 rfl ?_
      refine gI_X12_27 C ly_75 rfl wf_X12_221 dX12_readText_118 ?_
      refine G_if_ne (tgt := 128) C dX12_readText_121 (by decide) h.1 (fun q => ?_) (fun q => ?_)
      · have h := h.2.1 q
        refine G_aload_n C dX12_readText_128 rfl ?_
        refine G_iconst C dX12_readText_129 ?_
        refine G_callVI (K := []) (args := [.inl 1]) (T := TX12) (N := 72) C ly_75 rfl (Nat.le_of_ble_eq_true rfl) mo_X12_errs wc_X12_249 rfl dX12_readText_130 h (fun r2 s2 h => ?_)
        exact r _ _ _ _ dX12_readText_133 h
      · have h := h.2.2 q
        refine G_iload_n C dX12_readText_124 rfl ?_
        refine G_goto (tgt := 133) C dX12_readText_125 (by decide) ?_
        exact r _ _ _ _ dX12_readText_133 h
    · have h := h.2.2 q
      refine G_iload_n C dX12_readText_18 rfl ?_
      refine G_bipush C dX12_readText_19 bi_16 ?_
      refine G_icmp_ne (tgt := 30) C dX12_readText_21 (by decide) ⟨h.1, (by decide)⟩ (fun q => ?_) (fun q => ?_)
      · have h := h.2.1 q
        refine G_bipush C dX12_readText_30 bi_16 ?_
        refine G_iload_n C dX12_readText_32 rfl ?_
        refine G_iadd C dX12_readText_33 ?_
        refine G_istore_n (L' := [rv 75, iv v1, iv (16 + v1)]) C dX12_readText_34 (by decide) rfl ?_
        refine G_aload_n C dX12_readText_35 rfl ?_
        refine gR_X12_31 C ly_75 rfl wf_X12_65 dX12_readText_36 ?_
        refine G_iload_n C dX12_readText_39 rfl ?_
        refine G_aload_n C dX12_readText_40 rfl ?_
        refine gI_X12_28 C ly_75 rfl wf_X12_224 dX12_readText_41 ?_
        refine G_iast C ly_93 (by decide) h.1 dX12_readText_44 ?_
        have h := h.2
        have h := h _ rfl
        obtain ⟨s3, e3⟩ : ∃ z, z = up s 93 (16 + v1) (s 75 28) := ⟨_, rfl⟩
        rw [← e3] at h ⊢
        refine G_aload_n C dX12_readText_45 rfl ?_
        refine G_callVV (K := []) (args := []) (T := TX12) (N := 72) C ly_75 rfl (Nat.le_of_ble_eq_true rfl) mo_X12_reads wc_X12_255 rfl dX12_readText_46 h (fun s4 h => ?_)
        refine G_aload_n C dX12_readText_49 rfl ?_
        refine gR_X12_32 C ly_75 rfl wf_X12_68 dX12_readText_50 ?_
        refine G_iload_n C dX12_readText_53 rfl ?_
        refine G_aload_n C dX12_readText_54 rfl ?_
        refine gI_X12_36 C ly_75 rfl wf_X12_246 dX12_readText_55 ?_
        refine G_iast C ly_94 (by decide) h.1 dX12_readText_58 ?_
        have h := h.2
        have h := h _ rfl
        obtain ⟨s5, e5⟩ : ∃ z, z = up s4 94 (16 + v1) (s4 75 36) := ⟨_, rfl⟩
        rw [← e5] at h ⊢
        refine G_aload_n C dX12_readText_59 rfl ?_
        refine G_iconst C dX12_readText_60 ?_
        refine G_callVI (K := []) (args := [.inl 2]) (T := TX12) (N := 72) C ly_75 rfl (Nat.le_of_ble_eq_true rfl) mo_X12_isWord wc_X12_277 rfl dX12_readText_61 h (fun r6 s6 h => ?_)
        refine G_if_eq (tgt := 81) C dX12_readText_64 (by decide) h.1 (fun q => ?_) (fun q => ?_)
        · have h := h.2.1 q
          refine G_aload_n C dX12_readText_81 rfl ?_
          refine gR_X12_33 C ly_75 rfl wf_X12_71 dX12_readText_82 ?_
          refine G_iload_n C dX12_readText_85 rfl ?_
          refine G_aload_n C dX12_readText_86 rfl ?_
          refine gI_X12_36 C ly_75 rfl wf_X12_246 dX12_readText_87 ?_
          refine G_iast C ly_95 (by decide) h.1 dX12_readText_90 ?_
          have h := h.2
          have h := h _ rfl
          obtain ⟨s7, e7⟩ : ∃ z, z = up s6 95 (16 + v1) (s6 75 36) := ⟨_, rfl⟩
          rw [← e7] at h ⊢
          refine G_aload_n C dX12_readText_91 rfl ?_
          refine G_bipush C dX12_readText_92 bi_59 ?_
          refine G_callVI (K := []) (args := [.inl 59]) (T := TX12) (N := 72) C ly_75 rfl (Nat.le_of_ble_eq_true rfl) mo_X12_isSign wc_X12_262 rfl dX12_readText_94 h (fun r8 s8 h => ?_)
          refine G_if_ne (tgt := 106) C dX12_readText_97 (by decide) h.1 (fun q => ?_) (fun q => ?_)
          · have h := h.2.1 q
            refine G_aload_n C dX12_readText_106 rfl ?_
            refine G_callVV (K := []) (args := []) (T := TX12) (N := 72) C ly_75 rfl (Nat.le_of_ble_eq_true rfl) mo_X12_reads wc_X12_255 rfl dX12_readText_107 h (fun s9 h => ?_)
            refine G_iload_n C dX12_readText_110 rfl ?_
            refine G_iconst C dX12_readText_111 ?_
            refine G_iadd C dX12_readText_112 ?_
            refine G_istore_n (L' := [rv 75, iv (v1 + 1), iv (16 + v1)]) C dX12_readText_113 (by decide) rfl ?_
            refine G_goto (tgt := 2) C dX12_readText_114 (by decide) ?_
            refine G_drop (i := 2) (L' := [rv 75, iv (v1 + 1), none]) rfl ?_
            exact h
          · have h := h.2.2 q
            refine G_aload_n C dX12_readText_100 rfl ?_
            refine G_iconst C dX12_readText_101 ?_
            refine G_callVI (K := []) (args := [.inl 1]) (T := TX12) (N := 72) C ly_75 rfl (Nat.le_of_ble_eq_true rfl) mo_X12_errs wc_X12_249 rfl dX12_readText_102 h (fun r10 s10 h => ?_)
            exact r _ _ _ _ dX12_readText_105 h
        · have h := h.2.2 q
          refine G_aload_n C dX12_readText_67 rfl ?_
          refine G_callVV (K := []) (args := []) (T := TX12) (N := 72) C ly_75 rfl (Nat.le_of_ble_eq_true rfl) mo_X12_reads wc_X12_255 rfl dX12_readText_68 h (fun s11 h => ?_)
          refine G_aload_n C dX12_readText_71 rfl ?_
          refine G_callVI (K := []) (args := []) (T := TX12) (N := 72) C ly_75 rfl (Nat.le_of_ble_eq_true rfl) mo_X12_readAny wc_X12_289 rfl dX12_readText_72 h (fun r12 s12 h => ?_)
          refine G_iconst C dX12_readText_75 ?_
          refine G_icmp_ne (tgt := 81) C dX12_readText_76 (by decide) ⟨h.1, (by decide)⟩ (fun q => ?_) (fun q => ?_)
          · have h := h.2.1 q
            refine G_aload_n C dX12_readText_81 rfl ?_
            refine gR_X12_33 C ly_75 rfl wf_X12_71 dX12_readText_82 ?_
            refine G_iload_n C dX12_readText_85 rfl ?_
            refine G_aload_n C dX12_readText_86 rfl ?_
            refine gI_X12_36 C ly_75 rfl wf_X12_246 dX12_readText_87 ?_
            refine G_iast C ly_95 (by decide) h.1 dX12_readText_90 ?_
            have h := h.2
            have h := h _ rfl
            obtain ⟨s13, e13⟩ : ∃ z, z = up s12 95 (16 + v1) (s12 75 36) := ⟨_, rfl⟩
            rw [← e13] at h ⊢
            refine G_aload_n C dX12_readText_91 rfl ?_
            refine G_bipush C dX12_readText_92 bi_59 ?_
            refine G_callVI (K := []) (args := [.inl 59]) (T := TX12) (N := 72) C ly_75 rfl (Nat.le_of_ble_eq_true rfl) mo_X12_isSign wc_X12_262 rfl dX12_readText_94 h (fun r14 s14 h => ?_)
            refine G_if_ne (tgt := 106) C dX12_readText_97 (by decide) h.1 (fun q => ?_) (fun q => ?_)
            · have h := h.2.1 q
              refine G_aload_n C dX12_readText_106 rfl ?_
              refine G_callVV (K := []) (args := []) (T := TX12) (N := 72) C ly_75 rfl (Nat.le_of_ble_eq_true rfl) mo_X12_reads wc_X12_255 rfl dX12_readText_107 h (fun s15 h => ?_)
              refine G_iload_n C dX12_readText_110 rfl ?_
              refine G_iconst C dX12_readText_111 ?_
              refine G_iadd C dX12_readText_112 ?_
              refine G_istore_n (L' := [rv 75, iv (v1 + 1), iv (16 + v1)]) C dX12_readText_113 (by decide) rfl ?_
              refine G_goto (tgt := 2) C dX12_readText_114 (by decide) ?_
              refine G_drop (i := 2) (L' := [rv 75, iv (v1 + 1), none]) rfl ?_
              exact h
            · have h := h.2.2 q
              refine G_aload_n C dX12_readText_100 rfl ?_
              refine G_iconst C dX12_readText_101 ?_
              refine G_callVI (K := []) (args := [.inl 1]) (T := TX12) (N := 72) C ly_75 rfl (Nat.le_of_ble_eq_true rfl) mo_X12_errs wc_X12_249 rfl dX12_readText_102 h (fun r16 s16 h => ?_)
              exact r _ _ _ _ dX12_readText_105 h
          · have h := h.2.2 q
            refine G_iconst C dX12_readText_79 ?_
            exact r _ _ _ _ dX12_readText_80 h
      · have h := h.2.2 q
        refine G_aload_n C dX12_readText_24 rfl ?_
        refine G_iconst C dX12_readText_25 ?_
        refine G_callVI (K := []) (args := [.inl 3]) (T := TX12) (N := 72) C ly_75 rfl (Nat.le_of_ble_eq_true rfl) mo_X12_errs wc_X12_249 rfl dX12_readText_26 h (fun r17 s17 h => ?_)
        exact r _ _ _ _ dX12_readText_29 h
set_option maxRecDepth 20000 in
theorem kb_X12_queues_0 {X : Cx} {d : Nat} {P : Sto → Prop} (C : Ok LY X RX12 cX12_queues 4 d) (r : RetV LY X cX12_queues P) {v1 : Int} {s : Sto} (h : (CallV LY d MX12_takesPlaces [.inr 75, .inl v1] s (fun s1 => G LY X 7 [rv 75, iv v1, iv 0, none] [] s1))) : G LY X 0 [rv 75, iv v1, none, none] [] s := by
  refine G_aload_n C dX12_queues_0 rfl ?_
  refine G_iload_n C dX12_queues_1 rfl ?_
  refine G_callVV (K := []) (args := [.inl v1]) (T := TX12) (N := 72) C ly_75 rfl (Nat.le_of_ble_eq_true rfl) mo_X12_takesPlaces wc_X12_311 rfl dX12_queues_2 h (fun s1 h => ?_)
  refine G_iconst C dX12_queues_5 ?_
  refine G_istore_n (L' := [rv 75, iv v1, iv 0, none]) C dX12_queues_6 (by decide) rfl ?_
  exact h
set_option maxRecDepth 20000 in
theorem kb_X12_queues_7 {X : Cx} {d : Nat} {P : Sto → Prop} (C : Ok LY X RX12 cX12_queues 4 d) (r : RetV LY X cX12_queues P) {v1 v2 : Int} {s : Sto} (h : ((rg v2 ∧ rg (s 75 4)) ∧ (((s 75 4) ≤ v2 → P s) ∧ (v2 < (s 75 4) → G LY X 17 [rv 75, iv v1, iv v2, iv v2] [] s)))) : G LY X 7 [rv 75, iv v1, iv v2, none] [] s := by
  refine G_iload_n C dX12_queues_7 rfl ?_
  refine G_aload_n C dX12_queues_8 rfl ?_
  refine gI_X12_4 C ly_75 rfl wf_X12_154 dX12_queues_9 ?_
  refine G_icmp_ge (tgt := 71) C dX12_queues_12 (by decide) ⟨h.1.1, h.1.2⟩ (fun q => ?_) (fun q => ?_)
  · have h := h.2.1 q
    exact r _ _ _ dX12_queues_71 h
  · have h := h.2.2 q
    refine G_iload_n C dX12_queues_15 rfl ?_
    refine G_istore_n (L' := [rv 75, iv v1, iv v2, iv v2]) C dX12_queues_16 (by decide) rfl ?_
    exact h
set_option maxRecDepth 20000 in
theorem kb_X12_queues_17 {X : Cx} {d : Nat} {P : Sto → Prop} (C : Ok LY X RX12 cX12_queues 4 d) (r : RetV LY X cX12_queues P) {v1 v2 v3 : Int} {s : Sto} (h : ((rg v3) ∧ ((v3 ≤ 0 → ((0 ≤ v3 ∧ v3 < 20) ∧ (∀ s1 : Sto, s1 = up s 102 v3 v2 → G LY X 7 [rv 75, iv v1, iv (v2 + 1), none] [] s1))) ∧ (0 < v3 → ((0 ≤ (v3 - 1) ∧ (v3 - 1) < 20) ∧ (CallI LY d MX12_isAhead [.inr 75, .inl v2, .inl (s 102 (v3 - 1))] s (fun r2 s2 => ((rg r2) ∧ ((r2 = 0 → ((0 ≤ v3 ∧ v3 < 20) ∧ (∀ s3 : Sto, s3 = up s2 102 v3 v2 → G LY X 7 [rv 75, iv v1, iv (v2 + 1), none] [] s3))) ∧ (r2 ≠ 0 → ((0 ≤ (v3 - 1) ∧ (v3 - 1) < 20) ∧ ((0 ≤ v3 ∧ v3 < 20) ∧ (∀ s4 : Sto, s4 = up s2 102 v3 (s2 102 (v3 - 1)) → G LY X 17 [rv 75, iv v1, iv v2, iv (v3 - 1)] [] s4))))))))))))) : G LY X 17 [rv 75, iv v1, iv v2, iv v3] [] s := by
  refine G_iload_n C dX12_queues_17 rfl ?_
  refine G_if_le (tgt := 58) C dX12_queues_18 (by decide) h.1 (fun q => ?_) (fun q => ?_)
  · have h := h.2.1 q
    refine G_aload_n C dX12_queues_58 rfl ?_
    refine gR_X12_47 C ly_75 rfl wf_X12_95 dX12_queues_59 ?_
    refine G_iload_n C dX12_queues_62 rfl ?_
    refine G_iload_n C dX12_queues_63 rfl ?_
    refine G_iast C ly_102 (by decide) h.1 dX12_queues_64 ?_
    have h := h.2
    have h := h _ rfl
    obtain ⟨s1, e1⟩ : ∃ z, z = up s 102 v3 v2 := ⟨_, rfl⟩
    rw [← e1] at h ⊢
    refine G_iinc (L' := [rv 75, iv v1, iv (v2 + 1), iv v3]) C dX12_queues_65 (by decide) rfl rfl ?_
    refine G_goto (tgt := 7) C dX12_queues_68 (by decide) ?_
    refine G_drop (i := 3) (L' := [rv 75, iv v1, iv (v2 + 1), none]) rfl ?_
    exact h
  · have h := h.2.2 q
    refine G_aload_n C dX12_queues_21 rfl ?_
    refine G_iload_n C dX12_queues_22 rfl ?_
    refine G_aload_n C dX12_queues_23 rfl ?_
    refine gR_X12_47 C ly_75 rfl wf_X12_95 dX12_queues_24 ?_
    refine G_iload_n C dX12_queues_27 rfl ?_
    refine G_iconst C dX12_queues_28 ?_
    refine G_isub C dX12_queues_29 ?_
    refine G_iald C ly_102 (by decide) h.1 dX12_queues_30 ?_
    have h := h.2
    refine G_callVI (K := []) (args := [.inl v2, .inl (s 102 (v3 - 1))]) (T := TX12) (N := 72) C ly_75 rfl (Nat.le_of_ble_eq_true rfl) mo_X12_isAhead wc_X12_314 rfl dX12_queues_31 h (fun r2 s2 h => ?_)
    refine G_if_eq (tgt := 58) C dX12_queues_34 (by decide) h.1 (fun q => ?_) (fun q => ?_)
    · have h := h.2.1 q
      refine G_aload_n C dX12_queues_58 rfl ?_
      refine gR_X12_47 C ly_75 rfl wf_X12_95 dX12_queues_59 ?_
      refine G_iload_n C dX12_queues_62 rfl ?_
      refine G_iload_n C dX12_queues_63 rfl ?_
      refine G_iast C ly_102 (by decide) h.1 dX12_queues_64 ?_
      have h := h.2
      have h := h _ rfl
      obtain ⟨s3, e3⟩ : ∃ z, z = up s2 102 v3 v2 := ⟨_, rfl⟩
      rw [← e3] at h ⊢
      refine G_iinc (L' := [rv 75, iv v1, iv (v2 + 1), iv v3]) C dX12_queues_65 (by decide) rfl rfl ?_
      refine G_goto (tgt := 7) C dX12_queues_68 (by decide) ?_
      refine G_drop (i := 3) (L' := [rv 75, iv v1, iv (v2 + 1), none]) rfl ?_
      exact h
    · have h := h.2.2 q
      refine G_aload_n C dX12_queues_37 rfl ?_
      refine gR_X12_47 C ly_75 rfl wf_X12_95 dX12_queues_38 ?_
      refine G_iload_n C dX12_queues_41 rfl ?_
      refine G_aload_n C dX12_queues_42 rfl ?_
      refine gR_X12_47 C ly_75 rfl wf_X12_95 dX12_queues_43 ?_
      refine G_iload_n C dX12_queues_46 rfl ?_
      refine G_iconst C dX12_queues_47 ?_
      refine G_isub C dX12_queues_48 ?_
      refine G_iald C ly_102 (by decide) h.1 dX12_queues_49 ?_
      have h := h.2
      refine G_iast C ly_102 (by decide) h.1 dX12_queues_50 ?_
      have h := h.2
      have h := h _ rfl
      obtain ⟨s4, e4⟩ : ∃ z, z = up s2 102 v3 (s2 102 (v3 - 1)) := ⟨_, rfl⟩
      rw [← e4] at h ⊢
      refine G_iload_n C dX12_queues_51 rfl ?_
      refine G_iconst C dX12_queues_52 ?_
      refine G_isub C dX12_queues_53 ?_
      refine G_istore_n (L' := [rv 75, iv v1, iv v2, iv (v3 - 1)]) C dX12_queues_54 (by decide) rfl ?_
      refine G_goto (tgt := 17) C dX12_queues_55 (by decide) ?_
      exact h
set_option maxRecDepth 20000 in
theorem kb_X12_worthOf_0 {X : Cx} {d : Nat} {P : Int → Sto → Prop} (C : Ok LY X RX12 cX12_worthOf 3 d) (r : RetI LY X cX12_worthOf P) {v1 v2 : Int} {s : Sto} (h : (CallV LY d MX12_findsWorths [.inr 75, .inl v2] s (fun s1 => ((0 ≤ v1 ∧ v1 < 20) ∧ P (s1 103 v1) s1)))) : G LY X 0 [rv 75, iv v1, iv v2] [] s := by
  refine G_aload_n C dX12_worthOf_0 rfl ?_
  refine G_iload_n C dX12_worthOf_1 rfl ?_
  refine G_callVV (K := []) (args := [.inl v2]) (T := TX12) (N := 72) C ly_75 rfl (Nat.le_of_ble_eq_true rfl) mo_X12_findsWorths wc_X12_324 rfl dX12_worthOf_2 h (fun s1 h => ?_)
  refine G_aload_n C dX12_worthOf_5 rfl ?_
  refine gR_X12_48 C ly_75 rfl wf_X12_98 dX12_worthOf_6 ?_
  refine G_iload_n C dX12_worthOf_9 rfl ?_
  refine G_iald C ly_103 (by decide) h.1 dX12_worthOf_10 ?_
  have h := h.2
  exact r _ _ _ _ dX12_worthOf_11 h
set_option maxRecDepth 20000 in
theorem kb_X12_worthWith_0 {X : Cx} {d : Nat} {P : Int → Sto → Prop} (C : Ok LY X RX12 cX12_worthWith 6 d) (r : RetI LY X cX12_worthWith P) {v1 v2 : Int} {s : Sto} (h : ((0 ≤ v1 ∧ v1 < 51) ∧ G LY X 10 [rv 75, iv v1, iv v2, iv (s 76 v1), iv 0, none] [] s)) : G LY X 0 [rv 75, iv v1, iv v2, none, none, none] [] s := by
  refine G_aload_n C dX12_worthWith_0 rfl ?_
  refine gR_X12_2 C ly_75 rfl wf_X12_7 dX12_worthWith_1 ?_
  refine G_iload_n C dX12_worthWith_4 rfl ?_
  refine G_iald C ly_76 (by decide) h.1 dX12_worthWith_5 ?_
  have h := h.2
  refine G_istore_n (L' := [rv 75, iv v1, iv v2, iv (s 76 v1), none, none]) C dX12_worthWith_6 (by decide) rfl ?_
  refine G_iconst C dX12_worthWith_7 ?_
  refine G_istore (L' := [rv 75, iv v1, iv v2, iv (s 76 v1), iv 0, none]) C dX12_worthWith_8 (by decide) rfl ?_
  exact h
set_option maxRecDepth 20000 in
theorem kb_X12_worthWith_10 {X : Cx} {d : Nat} {P : Int → Sto → Prop} (C : Ok LY X RX12 cX12_worthWith 6 d) (r : RetI LY X cX12_worthWith P) {v1 v2 v3 v4 : Int} {s : Sto} (h : ((rg v4) ∧ ((6 ≤ v4 → (CallV LY d MX12_movesName [.inr 75, .inl v2, .inl v1] s (fun s1 => (CallI LY d MX12_worthOf [.inr 75, .inl v1, .inl 0] s1 (fun r2 s2 => ((0 ≤ v1 ∧ v1 < 51) ∧ (∀ s3 : Sto, s3 = up s2 76 v1 v3 → G LY X 66 [rv 75, iv v1, iv v2, iv v3, iv r2, iv 0] [] s3))))))) ∧ (v4 < 6 → ((0 ≤ ((6 * v1) + v4) ∧ ((6 * v1) + v4) < 306) ∧ ((0 ≤ v4 ∧ v4 < 6) ∧ (∀ s4 : Sto, s4 = up s 106 v4 (s 77 ((6 * v1) + v4)) → G LY X 10 [rv 75, iv v1, iv v2, iv v3, iv (v4 + 1), none] [] s4))))))) : G LY X 10 [rv 75, iv v1, iv v2, iv v3, iv v4, none] [] s := by
  refine G_iload C dX12_worthWith_10 rfl ?_
  refine G_bipush C dX12_worthWith_12 bi_6 ?_
  refine G_icmp_ge (tgt := 42) C dX12_worthWith_14 (by decide) ⟨h.1, (by decide)⟩ (fun q => ?_) (fun q => ?_)
  · have h := h.2.1 q
    refine G_aload_n C dX12_worthWith_42 rfl ?_
    refine G_iload_n C dX12_worthWith_43 rfl ?_
    refine G_iload_n C dX12_worthWith_44 rfl ?_
    refine G_callVV (K := []) (args := [.inl v2, .inl v1]) (T := TX12) (N := 72) C ly_75 rfl (Nat.le_of_ble_eq_true rfl) mo_X12_movesName wc_X12_187 rfl dX12_worthWith_45 h (fun s1 h => ?_)
    refine G_aload_n C dX12_worthWith_48 rfl ?_
    refine G_iload_n C dX12_worthWith_49 rfl ?_
    refine G_iconst C dX12_worthWith_50 ?_
    refine G_callVI (K := []) (args := [.inl v1, .inl 0]) (T := TX12) (N := 72) C ly_75 rfl (Nat.le_of_ble_eq_true rfl) mo_X12_worthOf wc_X12_328 rfl dX12_worthWith_51 h (fun r2 s2 h => ?_)
    refine G_istore (L' := [rv 75, iv v1, iv v2, iv v3, iv r2, none]) C dX12_worthWith_54 (by decide) rfl ?_
    refine G_aload_n C dX12_worthWith_56 rfl ?_
    refine gR_X12_2 C ly_75 rfl wf_X12_7 dX12_worthWith_57 ?_
    refine G_iload_n C dX12_worthWith_60 rfl ?_
    refine G_iload_n C dX12_worthWith_61 rfl ?_
    refine G_iast C ly_76 (by decide) h.1 dX12_worthWith_62 ?_
    have h := h.2
    have h := h _ rfl
    obtain ⟨s3, e3⟩ : ∃ z, z = up s2 76 v1 v3 := ⟨_, rfl⟩
    rw [← e3] at h ⊢
    refine G_iconst C dX12_worthWith_63 ?_
    refine G_istore (L' := [rv 75, iv v1, iv v2, iv v3, iv r2, iv 0]) C dX12_worthWith_64 (by decide) rfl ?_
    exact h
  · have h := h.2.2 q
    refine G_aload_n C dX12_worthWith_17 rfl ?_
    refine gR_X12_51 C ly_75 rfl wf_X12_107 dX12_worthWith_18 ?_
    refine G_iload C dX12_worthWith_21 rfl ?_
    refine G_aload_n C dX12_worthWith_23 rfl ?_
    refine gR_X12_3 C ly_75 rfl wf_X12_13 dX12_worthWith_24 ?_
    refine G_bipush C dX12_worthWith_27 bi_6 ?_
    refine G_iload_n C dX12_worthWith_29 rfl ?_
    refine G_imul C dX12_worthWith_30 ?_
    refine G_iload C dX12_worthWith_31 rfl ?_
    refine G_iadd C dX12_worthWith_33 ?_
    refine G_iald C ly_77 (by decide) h.1 dX12_worthWith_34 ?_
    have h := h.2
    refine G_iast C ly_106 (by decide) h.1 dX12_worthWith_35 ?_
    have h := h.2
    have h := h _ rfl
    obtain ⟨s4, e4⟩ : ∃ z, z = up s 106 v4 (s 77 ((6 * v1) + v4)) := ⟨_, rfl⟩
    rw [← e4] at h ⊢
    refine G_iinc (L' := [rv 75, iv v1, iv v2, iv v3, iv (v4 + 1), none]) C dX12_worthWith_36 (by decide) rfl rfl ?_
    refine G_goto (tgt := 10) C dX12_worthWith_39 (by decide) ?_
    exact h
set_option maxRecDepth 20000 in
theorem kb_X12_worthWith_66 {X : Cx} {d : Nat} {P : Int → Sto → Prop} (C : Ok LY X RX12 cX12_worthWith 6 d) (r : RetI LY X cX12_worthWith P) {v1 v2 v3 v4 v5 : Int} {s : Sto} (h : ((rg v5) ∧ ((6 ≤ v5 → P v4 s) ∧ (v5 < 6 → ((0 ≤ v5 ∧ v5 < 6) ∧ ((0 ≤ ((6 * v1) + v5) ∧ ((6 * v1) + v5) < 306) ∧ (∀ s1 : Sto, s1 = up s 77 ((6 * v1) + v5) (s 106 v5) → G LY X 66 [rv 75, iv v1, iv v2, iv v3, iv v4, iv (v5 + 1)] [] s1))))))) : G LY X 66 [rv 75, iv v1, iv v2, iv v3, iv v4, iv v5] [] s := by
  refine G_iload C dX12_worthWith_66 rfl ?_
  refine G_bipush C dX12_worthWith_68 bi_6 ?_
  refine G_icmp_ge (tgt := 98) C dX12_worthWith_70 (by decide) ⟨h.1, (by decide)⟩ (fun q => ?_) (fun q => ?_)
  · have h := h.2.1 q
    refine G_iload C dX12_worthWith_98 rfl ?_
    exact r _ _ _ _ dX12_worthWith_100 h
  · have h := h.2.2 q
    refine G_aload_n C dX12_worthWith_73 rfl ?_
    refine gR_X12_3 C ly_75 rfl wf_X12_13 dX12_worthWith_74 ?_
    refine G_bipush C dX12_worthWith_77 bi_6 ?_
    refine G_iload_n C dX12_worthWith_79 rfl ?_
    refine G_imul C dX12_worthWith_80 ?_
    refine G_iload C dX12_worthWith_81 rfl ?_
    refine G_iadd C dX12_worthWith_83 ?_
    refine G_aload_n C dX12_worthWith_84 rfl ?_
    refine gR_X12_51 C ly_75 rfl wf_X12_107 dX12_worthWith_85 ?_
    refine G_iload C dX12_worthWith_88 rfl ?_
    refine G_iald C ly_106 (by decide) h.1 dX12_worthWith_90 ?_
    have h := h.2
    refine G_iast C ly_77 (by decide) h.1 dX12_worthWith_91 ?_
    have h := h.2
    have h := h _ rfl
    obtain ⟨s1, e1⟩ : ∃ z, z = up s 77 ((6 * v1) + v5) (s 106 v5) := ⟨_, rfl⟩
    rw [← e1] at h ⊢
    refine G_iinc (L' := [rv 75, iv v1, iv v2, iv v3, iv v4, iv (v5 + 1)]) C dX12_worthWith_92 (by decide) rfl rfl ?_
    refine G_goto (tgt := 66) C dX12_worthWith_95 (by decide) ?_
    exact h
set_option maxRecDepth 20000 in
theorem kb_X12_gainOf_0 {X : Cx} {d : Nat} {P : Int → Sto → Prop} (C : Ok LY X RX12 cX12_gainOf 4 d) (r : RetI LY X cX12_gainOf P) {v1 v2 : Int} {s : Sto} (h : (CallI LY d MX12_worthOf [.inr 75, .inl v1, .inl 0] s (fun r1 s1 => (CallI LY d MX12_worthWith [.inr 75, .inl v1, .inl v2] s1 (fun r2 s2 => (CallI LY d MX12_feeOf [.inr 75, .inl v1, .inl v2] s2 (fun r3 s3 => P (((s1 82 5) * (r2 - r1)) - r3) s3))))))) : G LY X 0 [rv 75, iv v1, iv v2, none] [] s := by
  refine G_aload_n C dX12_gainOf_0 rfl ?_
  refine G_iload_n C dX12_gainOf_1 rfl ?_
  refine G_iconst C dX12_gainOf_2 ?_
  refine G_callVI (K := []) (args := [.inl v1, .inl 0]) (T := TX12) (N := 72) C ly_75 rfl (Nat.le_of_ble_eq_true rfl) mo_X12_worthOf wc_X12_328 rfl dX12_gainOf_3 h (fun r1 s1 h => ?_)
  refine G_istore_n (L' := [rv 75, iv v1, iv v2, iv r1]) C dX12_gainOf_6 (by decide) rfl ?_
  refine G_aload_n C dX12_gainOf_7 rfl ?_
  refine gR_X12_11 C ly_75 rfl wf_X12_32 dX12_gainOf_8 ?_
  refine G_iconst C dX12_gainOf_11 ?_
  refine G_iald C ly_82 (by decide) (by decide) dX12_gainOf_12 ?_
  refine G_aload_n C dX12_gainOf_13 rfl ?_
  refine G_iload_n C dX12_gainOf_14 rfl ?_
  refine G_iload_n C dX12_gainOf_15 rfl ?_
  refine G_callVI (K := [.inl (s1 82 5)]) (args := [.inl v1, .inl v2]) (T := TX12) (N := 72) C ly_75 rfl (Nat.le_of_ble_eq_true rfl) mo_X12_worthWith wc_X12_334 rfl dX12_gainOf_16 h (fun r2 s2 h => ?_)
  refine G_iload_n C dX12_gainOf_19 rfl ?_
  refine G_isub C dX12_gainOf_20 ?_
  refine G_imul C dX12_gainOf_21 ?_
  refine G_aload_n C dX12_gainOf_22 rfl ?_
  refine G_iload_n C dX12_gainOf_23 rfl ?_
  refine G_iload_n C dX12_gainOf_24 rfl ?_
  refine G_callVI (K := [.inl ((s1 82 5) * (r2 - r1))]) (args := [.inl v1, .inl v2]) (T := TX12) (N := 72) C ly_75 rfl (Nat.le_of_ble_eq_true rfl) mo_X12_feeOf wc_X12_337 rfl dX12_gainOf_25 h (fun r3 s3 h => ?_)
  refine G_isub C dX12_gainOf_28 ?_
  exact r _ _ _ _ dX12_gainOf_29 h
