set_option maxRecDepth 20000 in
theorem kb_X1_gatherFacts_0 {X : Cx} {d : Nat} {P : Sto → Prop} (C : Ok LY X RX1 cX1_gatherFacts 11 d) (r : RetV LY X cX1_gatherFacts P) {v2 : Int} {s : Sto} (h : (CallI LY d MX5_nameLength [.inl v2] s (fun r1 s1 => G LY X 33 [rv 52, rv 3, iv v2, iv r1, iv 0, iv 0, iv 0, iv ((s1 3 0) + 1), iv ((s1 3 0) + 1), iv 0, none] [] s1))) : G LY X 0 [rv 52, rv 3, iv v2, none, none, none, none, none, none, none, none] [] s := by
  refine G_iload_n C dX1_gatherFacts_0 rfl ?_
  refine G_callSI (K := []) (args := [.inl v2]) C (Nat.le_of_ble_eq_true rfl) mo_X5_nameLength wc_X1_21 rfl dX1_gatherFacts_1 h (fun r1 s1 h => ?_)
  refine G_istore_n (L' := [rv 52, rv 3, iv v2, iv r1, none, none, none, none, none, none, none]) C dX1_gatherFacts_4 (by decide) rfl ?_
  refine G_iconst C dX1_gatherFacts_5 ?_
  refine G_istore (L' := [rv 52, rv 3, iv v2, iv r1, iv 0, none, none, none, none, none, none]) C dX1_gatherFacts_6 (by decide) rfl ?_
  refine G_iconst C dX1_gatherFacts_8 ?_
  refine G_istore (L' := [rv 52, rv 3, iv v2, iv r1, iv 0, iv 0, none, none, none, none, none]) C dX1_gatherFacts_9 (by decide) rfl ?_
  refine G_iconst C dX1_gatherFacts_11 ?_
  refine G_istore (L' := [rv 52, rv 3, iv v2, iv r1, iv 0, iv 0, iv 0, none, none, none, none]) C dX1_gatherFacts_12 (by decide) rfl ?_
  refine G_aload_n C dX1_gatherFacts_14 rfl ?_
  refine gI_X2_0 C ly_3 rfl wf_X1_83 dX1_gatherFacts_15 ?_
  refine G_iconst C dX1_gatherFacts_18 ?_
  refine G_iadd C dX1_gatherFacts_19 ?_
  refine G_istore (L' := [rv 52, rv 3, iv v2, iv r1, iv 0, iv 0, iv 0, iv ((s1 3 0) + 1), none, none, none]) C dX1_gatherFacts_20 (by decide) rfl ?_
  refine G_aload_n C dX1_gatherFacts_22 rfl ?_
  refine gI_X2_0 C ly_3 rfl wf_X1_83 dX1_gatherFacts_23 ?_
  refine G_iconst C dX1_gatherFacts_26 ?_
  refine G_iadd C dX1_gatherFacts_27 ?_
  refine G_istore (L' := [rv 52, rv 3, iv v2, iv r1, iv 0, iv 0, iv 0, iv ((s1 3 0) + 1), iv ((s1 3 0) + 1), none, none]) C dX1_gatherFacts_28 (by decide) rfl ?_
  refine G_iconst C dX1_gatherFacts_30 ?_
  refine G_istore (L' := [rv 52, rv 3, iv v2, iv r1, iv 0, iv 0, iv 0, iv ((s1 3 0) + 1), iv ((s1 3 0) + 1), iv 0, none]) C dX1_gatherFacts_31 (by decide) rfl ?_
  exact h
set_option maxRecDepth 20000 in
theorem kb_X1_gatherFacts_33 {X : Cx} {d : Nat} {P : Sto → Prop} (C : Ok LY X RX1 cX1_gatherFacts 11 d) (r : RetV LY X cX1_gatherFacts P) {v2 v3 v4 v5 v6 v7 v8 v9 : Int} {s : Sto} (h : ((rg v9 ∧ rg v3) ∧ ((v3 ≤ v9 → (∀ s1 : Sto, s1 = up s 53 0 v3 → (∀ s2 : Sto, s2 = up s1 53 1 v7 → (∀ s3 : Sto, s3 = up s2 53 2 v8 → (∀ s4 : Sto, s4 = up s3 53 4 v4 → (∀ s5 : Sto, s5 = up s4 53 5 v5 → P s5)))))) ∧ (v9 < v3 → (CallI LY d MX5_nameLetter [.inl v2, .inl v9] s (fun r6 s6 => ((rg r6 ∧ rg (s6 3 0)) ∧ ((r6 < (s6 3 0) → (CallI LY d MX5_orderPlace [.inl (s6 3 2), .inl (s6 3 0), .inl r6] s6 (fun r7 s7 => ((rg v9) ∧ ((v9 ≠ 0 → G LY X 33 [rv 52, rv 3, iv v2, iv v3, iv (v4 + 0), iv (xor_ v5 (xand (xshr v6 r6) 1)), iv (xor_ v6 (xshl 1 r6)), iv v7, iv r7, iv (v9 + 1), none] [] s7) ∧ (v9 = 0 → G LY X 33 [rv 52, rv 3, iv v2, iv v3, iv (v4 + 0), iv (xor_ v5 (xand (xshr v6 r6) 1)), iv (xor_ v6 (xshl 1 r6)), iv r7, iv r7, iv (v9 + 1), none] [] s7)))))) ∧ ((s6 3 0) ≤ r6 → (CallI LY d MX5_orderPlace [.inl (s6 3 2), .inl (s6 3 0), .inl r6] s6 (fun r8 s8 => ((rg v9) ∧ ((v9 ≠ 0 → G LY X 33 [rv 52, rv 3, iv v2, iv v3, iv (v4 + 1), iv (xor_ v5 (xand (xshr v6 r6) 1)), iv (xor_ v6 (xshl 1 r6)), iv v7, iv r8, iv (v9 + 1), none] [] s8) ∧ (v9 = 0 → G LY X 33 [rv 52, rv 3, iv v2, iv v3, iv (v4 + 1), iv (xor_ v5 (xand (xshr v6 r6) 1)), iv (xor_ v6 (xshl 1 r6)), iv r8, iv r8, iv (v9 + 1), none] [] s8)))))))))))))) : G LY X 33 [rv 52, rv 3, iv v2, iv v3, iv v4, iv v5, iv v6, iv v7, iv v8, iv v9, none] [] s := by
  refine G_iload C dX1_gatherFacts_33 rfl ?_
  refine G_iload_n C dX1_gatherFacts_35 rfl ?_
  refine G_icmp_ge (tgt := 122) C dX1_gatherFacts_36 (by decide) ⟨h.1.1, h.1.2⟩ (fun q => ?_) (fun q => ?_)
  · have h := h.2.1 q
    refine G_aload_n C dX1_gatherFacts_122 rfl ?_
    refine gR_X1_0 C ly_52 rfl wf_X1_9 dX1_gatherFacts_123 ?_
    refine G_iconst C dX1_gatherFacts_126 ?_
    refine G_iload_n C dX1_gatherFacts_127 rfl ?_
    refine G_iast C ly_53 (by decide) (by decide) dX1_gatherFacts_128 ?_
    have h := h _ rfl
    obtain ⟨s1, e1⟩ : ∃ z, z = up s 53 0 v3 := ⟨_, rfl⟩
    rw [← e1] at h ⊢
    refine G_aload_n C dX1_gatherFacts_129 rfl ?_
    refine gR_X1_0 C ly_52 rfl wf_X1_9 dX1_gatherFacts_130 ?_
    refine G_iconst C dX1_gatherFacts_133 ?_
    refine G_iload C dX1_gatherFacts_134 rfl ?_
    refine G_iast C ly_53 (by decide) (by decide) dX1_gatherFacts_136 ?_
    have h := h _ rfl
    obtain ⟨s2, e2⟩ : ∃ z, z = up s1 53 1 v7 := ⟨_, rfl⟩
    rw [← e2] at h ⊢
    refine G_aload_n C dX1_gatherFacts_137 rfl ?_
    refine gR_X1_0 C ly_52 rfl wf_X1_9 dX1_gatherFacts_138 ?_
    refine G_iconst C dX1_gatherFacts_141 ?_
    refine G_iload C dX1_gatherFacts_142 rfl ?_
    refine G_iast C ly_53 (by decide) (by decide) dX1_gatherFacts_144 ?_
    have h := h _ rfl
    obtain ⟨s3, e3⟩ : ∃ z, z = up s2 53 2 v8 := ⟨_, rfl⟩
    rw [← e3] at h ⊢
    refine G_aload_n C dX1_gatherFacts_145 rfl ?_
    refine gR_X1_0 C ly_52 rfl wf_X1_9 dX1_gatherFacts_146 ?_
    refine G_iconst C dX1_gatherFacts_149 ?_
    refine G_iload C dX1_gatherFacts_150 rfl ?_
    refine G_iast C ly_53 (by decide) (by decide) dX1_gatherFacts_152 ?_
    have h := h _ rfl
    obtain ⟨s4, e4⟩ : ∃ z, z = up s3 53 4 v4 := ⟨_, rfl⟩
    rw [← e4] at h ⊢
    refine G_aload_n C dX1_gatherFacts_153 rfl ?_
    refine gR_X1_0 C ly_52 rfl wf_X1_9 dX1_gatherFacts_154 ?_
    refine G_iconst C dX1_gatherFacts_157 ?_
    refine G_iload C dX1_gatherFacts_158 rfl ?_
    refine G_iast C ly_53 (by decide) (by decide) dX1_gatherFacts_160 ?_
    have h := h _ rfl
    obtain ⟨s5, e5⟩ : ∃ z, z = up s4 53 5 v5 := ⟨_, rfl⟩
    rw [← e5] at h ⊢
    exact r _ _ _ dX1_gatherFacts_161 h
  · have h := h.2.2 q
    refine G_iload_n C dX1_gatherFacts_39 rfl ?_
    refine G_iload C dX1_gatherFacts_40 rfl ?_
    refine G_callSI (K := []) (args := [.inl v2, .inl v9]) C (Nat.le_of_ble_eq_true rfl) mo_X5_nameLetter wc_X1_27 rfl dX1_gatherFacts_42 h (fun r6 s6 h => ?_)
    refine G_istore (L' := [rv 52, rv 3, iv v2, iv v3, iv v4, iv v5, iv v6, iv v7, iv v8, iv v9, iv r6]) C dX1_gatherFacts_45 (by decide) rfl ?_
    refine G_iload C dX1_gatherFacts_47 rfl ?_
    refine G_iload C dX1_gatherFacts_49 rfl ?_
    refine G_aload_n C dX1_gatherFacts_51 rfl ?_
    refine gI_X2_0 C ly_3 rfl wf_X1_83 dX1_gatherFacts_52 ?_
    refine G_icmp_lt (tgt := 62) C dX1_gatherFacts_55 (by decide) ⟨h.1.1, h.1.2⟩ (fun q => ?_) (fun q => ?_)
    · have h := h.2.1 q
      refine G_iconst C dX1_gatherFacts_62 ?_
      refine G_iadd C dX1_gatherFacts_63 ?_
      refine G_istore (L' := [rv 52, rv 3, iv v2, iv v3, iv (v4 + 0), iv v5, iv v6, iv v7, iv v8, iv v9, iv r6]) C dX1_gatherFacts_64 (by decide) rfl ?_
      refine G_iload C dX1_gatherFacts_66 rfl ?_
      refine G_iload C dX1_gatherFacts_68 rfl ?_
      refine G_iload C dX1_gatherFacts_70 rfl ?_
      refine G_ishr C dX1_gatherFacts_72 ?_
      refine G_iconst C dX1_gatherFacts_73 ?_
      refine G_iand C dX1_gatherFacts_74 ?_
      refine G_ior C dX1_gatherFacts_75 ?_
      refine G_istore (L' := [rv 52, rv 3, iv v2, iv v3, iv (v4 + 0), iv (xor_ v5 (xand (xshr v6 r6) 1)), iv v6, iv v7, iv v8, iv v9, iv r6]) C dX1_gatherFacts_76 (by decide) rfl ?_
      refine G_iload C dX1_gatherFacts_78 rfl ?_
      refine G_iconst C dX1_gatherFacts_80 ?_
      refine G_iload C dX1_gatherFacts_81 rfl ?_
      refine G_ishl C dX1_gatherFacts_83 ?_
      refine G_ior C dX1_gatherFacts_84 ?_
      refine G_istore (L' := [rv 52, rv 3, iv v2, iv v3, iv (v4 + 0), iv (xor_ v5 (xand (xshr v6 r6) 1)), iv (xor_ v6 (xshl 1 r6)), iv v7, iv v8, iv v9, iv r6]) C dX1_gatherFacts_85 (by decide) rfl ?_
      refine G_aload_n C dX1_gatherFacts_87 rfl ?_
      refine gI_X2_2 C ly_3 rfl wf_X1_86 dX1_gatherFacts_88 ?_
      refine G_aload_n C dX1_gatherFacts_91 rfl ?_
      refine gI_X2_0 C ly_3 rfl wf_X1_83 dX1_gatherFacts_92 ?_
      refine G_iload C dX1_gatherFacts_95 rfl ?_
      refine G_callSI (K := []) (args := [.inl (s6 3 2), .inl (s6 3 0), .inl r6]) C (Nat.le_of_ble_eq_true rfl) mo_X5_orderPlace wc_X1_89 rfl dX1_gatherFacts_97 h (fun r7 s7 h => ?_)
      refine G_istore (L' := [rv 52, rv 3, iv v2, iv v3, iv (v4 + 0), iv (xor_ v5 (xand (xshr v6 r6) 1)), iv (xor_ v6 (xshl 1 r6)), iv v7, iv r7, iv v9, iv r6]) C dX1_gatherFacts_100 (by decide) rfl ?_
      refine G_iload C dX1_gatherFacts_102 rfl ?_
      refine G_if_ne (tgt := 112) C dX1_gatherFacts_104 (by decide) h.1 (fun q => ?_) (fun q => ?_)
      · have h := h.2.1 q
        refine G_iload C dX1_gatherFacts_112 rfl ?_
        refine G_istore (L' := [rv 52, rv 3, iv v2, iv v3, iv (v4 + 0), iv (xor_ v5 (xand (xshr v6 r6) 1)), iv (xor_ v6 (xshl 1 r6)), iv v7, iv r7, iv v9, iv r6]) C dX1_gatherFacts_114 (by decide) rfl ?_
        refine G_iinc (L' := [rv 52, rv 3, iv v2, iv v3, iv (v4 + 0), iv (xor_ v5 (xand (xshr v6 r6) 1)), iv (xor_ v6 (xshl 1 r6)), iv v7, iv r7, iv (v9 + 1), iv r6]) C dX1_gatherFacts_116 (by decide) rfl rfl ?_
        refine G_goto (tgt := 33) C dX1_gatherFacts_119 (by decide) ?_
        refine G_drop (i := 10) (L' := [rv 52, rv 3, iv v2, iv v3, iv (v4 + 0), iv (xor_ v5 (xand (xshr v6 r6) 1)), iv (xor_ v6 (xshl 1 r6)), iv v7, iv r7, iv (v9 + 1), none]) rfl ?_
        exact h
      · have h := h.2.2 q
        refine G_iload C dX1_gatherFacts_107 rfl ?_
        refine G_goto (tgt := 114) C dX1_gatherFacts_109 (by decide) ?_
        refine G_istore (L' := [rv 52, rv 3, iv v2, iv v3, iv (v4 + 0), iv (xor_ v5 (xand (xshr v6 r6) 1)), iv (xor_ v6 (xshl 1 r6)), iv r7, iv r7, iv v9, iv r6]) C dX1_gatherFacts_114 (by decide) rfl ?_
        refine G_iinc (L' := [rv 52, rv 3, iv v2, iv v3, iv (v4 + 0), iv (xor_ v5 (xand (xshr v6 r6) 1)), iv (xor_ v6 (xshl 1 r6)), iv r7, iv r7, iv (v9 + 1), iv r6]) C dX1_gatherFacts_116 (by decide) rfl rfl ?_
        refine G_goto (tgt := 33) C dX1_gatherFacts_119 (by decide) ?_
        refine G_drop (i := 10) (L' := [rv 52, rv 3, iv v2, iv v3, iv (v4 + 0), iv (xor_ v5 (xand (xshr v6 r6) 1)), iv (xor_ v6 (xshl 1 r6)), iv r7, iv r7, iv (v9 + 1), none]) rfl ?_
        exact h
    · have h := h.2.2 q
      refine G_iconst C dX1_gatherFacts_58 ?_
      refine G_goto (tgt := 63) C dX1_gatherFacts_59 (by decide) ?_
      refine G_iadd C dX1_gatherFacts_63 ?_
      refine G_istore (L' := [rv 52, rv 3, iv v2, iv v3, iv (v4 + 1), iv v5, iv v6, iv v7, iv v8, iv v9, iv r6]) C dX1_gatherFacts_64 (by decide) rfl ?_
      refine G_iload C dX1_gatherFacts_66 rfl ?_
      refine G_iload C dX1_gatherFacts_68 rfl ?_
      refine G_iload C dX1_gatherFacts_70 rfl ?_
      refine G_ishr C dX1_gatherFacts_72 ?_
      refine G_iconst C dX1_gatherFacts_73 ?_
      refine G_iand C dX1_gatherFacts_74 ?_
      refine G_ior C dX1_gatherFacts_75 ?_
      refine G_istore (L' := [rv 52, rv 3, iv v2, iv v3, iv (v4 + 1), iv (xor_ v5 (xand (xshr v6 r6) 1)), iv v6, iv v7, iv v8, iv v9, iv r6]) C dX1_gatherFacts_76 (by decide) rfl ?_
      refine G_iload C dX1_gatherFacts_78 rfl ?_
      refine G_iconst C dX1_gatherFacts_80 ?_
      refine G_iload C dX1_gatherFacts_81 rfl ?_
      refine G_ishl C dX1_gatherFacts_83 ?_
      refine G_ior C dX1_gatherFacts_84 ?_
      refine G_istore (L' := [rv 52, rv 3, iv v2, iv v3, iv (v4 + 1), iv (xor_ v5 (xand (xshr v6 r6) 1)), iv (xor_ v6 (xshl 1 r6)), iv v7, iv v8, iv v9, iv r6]) C dX1_gatherFacts_85 (by decide) rfl ?_
      refine G_aload_n C dX1_gatherFacts_87 rfl ?_
      refine gI_X2_2 C ly_3 rfl wf_X1_86 dX1_gatherFacts_88 ?_
      refine G_aload_n C dX1_gatherFacts_91 rfl ?_
      refine gI_X2_0 C ly_3 rfl wf_X1_83 dX1_gatherFacts_92 ?_
      refine G_iload C dX1_gatherFacts_95 rfl ?_
      refine G_callSI (K := []) (args := [.inl (s6 3 2), .inl (s6 3 0), .inl r6]) C (Nat.le_of_ble_eq_true rfl) mo_X5_orderPlace wc_X1_89 rfl dX1_gatherFacts_97 h (fun r8 s8 h => ?_)
      refine G_istore (L' := [rv 52, rv 3, iv v2, iv v3, iv (v4 + 1), iv (xor_ v5 (xand (xshr v6 r6) 1)), iv (xor_ v6 (xshl 1 r6)), iv v7, iv r8, iv v9, iv r6]) C dX1_gatherFacts_100 (by decide) rfl ?_
      refine G_iload C dX1_gatherFacts_102 rfl ?_
      refine G_if_ne (tgt := 112) C dX1_gatherFacts_104 (by decide) h.1 (fun q => ?_) (fun q => ?_)
      · have h := h.2.1 q
        refine G_iload C dX1_gatherFacts_112 rfl ?_
        refine G_istore (L' := [rv 52, rv 3, iv v2, iv v3, iv (v4 + 1), iv (xor_ v5 (xand (xshr v6 r6) 1)), iv (xor_ v6 (xshl 1 r6)), iv v7, iv r8, iv v9, iv r6]) C dX1_gatherFacts_114 (by decide) rfl ?_
        refine G_iinc (L' := [rv 52, rv 3, iv v2, iv v3, iv (v4 + 1), iv (xor_ v5 (xand (xshr v6 r6) 1)), iv (xor_ v6 (xshl 1 r6)), iv v7, iv r8, iv (v9 + 1), iv r6]) C dX1_gatherFacts_116 (by decide) rfl rfl ?_
        refine G_goto (tgt := 33) C dX1_gatherFacts_119 (by decide) ?_
        refine G_drop (i := 10) (L' := [rv 52, rv 3, iv v2, iv v3, iv (v4 + 1), iv (xor_ v5 (xand (xshr v6 r6) 1)), iv (xor_ v6 (xshl 1 r6)), iv v7, iv r8, iv (v9 + 1), none]) rfl ?_
        exact h
      · have h := h.2.2 q
        refine G_iload C dX1_gatherFacts_107 rfl ?_
        refine G_goto (tgt := 114) C dX1_gatherFacts_109 (by decide) ?_
        refine G_istore (L' := [rv 52, rv 3, iv v2, iv v3, iv (v4 + 1), iv (xor_ v5 (xand (xshr v6 r6) 1)), iv (xor_ v6 (xshl 1 r6)), iv r8, iv r8, iv v9, iv r6]) C dX1_gatherFacts_114 (by decide) rfl ?_
        refine G_iinc (L' := [rv 52, rv 3, iv v2, iv v3, iv (v4 + 1), iv (xor_ v5 (xand (xshr v6 r6) 1)), iv (xor_ v6 (xshl 1 r6)), iv r8, iv r8, iv (v9 + 1), iv r6]) C dX1_gatherFacts_116 (by decide) rfl rfl ?_
        refine G_goto (tgt := 33) C dX1_gatherFacts_119 (by decide) ?_
        refine G_drop (i := 10) (L' := [rv 52, rv 3, iv v2, iv v3, iv (v4 + 1), iv (xor_ v5 (xand (xshr v6 r6) 1)), iv (xor_ v6 (xshl 1 r6)), iv r8, iv r8, iv (v9 + 1), none]) rfl ?_
        exact h
set_option maxRecDepth 20000 in
theorem kb_X1_lettersInCommon_0 {X : Cx} {d : Nat} {P : Int → Sto → Prop} (C : Ok LY X RX1 cX1_lettersInCommon 4 d) (r : RetI LY X cX1_lettersInCommon P) (h1d : 1 ≤ d) {v0 v1 : Int} {s : Sto} (h : (CallI LY d MX5_nameLength [.inl v0] s (fun r1 s1 => (CallI LY d MX5_nameLength [.inl v1] s1 (fun r2 s2 => ((rg r1 ∧ rg r2) ∧ G LY X 14 [iv v0, iv v1, iv (min r1 r2), iv 0] [] s2)))))) : G LY X 0 [iv v0, iv v1, none, none] [] s := by
  refine G_iload_n C dX1_lettersInCommon_0 rfl ?_
  refine G_callSI (K := []) (args := [.inl v0]) C (Nat.le_of_ble_eq_true rfl) mo_X5_nameLength wc_X1_21 rfl dX1_lettersInCommon_1 h (fun r1 s1 h => ?_)
  refine G_iload_n C dX1_lettersInCommon_4 rfl ?_
  refine G_callSI (K := [.inl r1]) (args := [.inl v1]) C (Nat.le_of_ble_eq_true rfl) mo_X5_nameLength wc_X1_21 rfl dX1_lettersInCommon_5 h (fun r2 s2 h => ?_)
  refine G_min C ⟨h.1.1, h.1.2⟩ h1d (Nat.le_of_ble_eq_true rfl) ws_892 mminw dX1_lettersInCommon_8 ?_
  have h := h.2
  refine G_istore_n (L' := [iv v0, iv v1, iv (min r1 r2), none]) C dX1_lettersInCommon_11 (by decide) rfl ?_
  refine G_iconst C dX1_lettersInCommon_12 ?_
  refine G_istore_n (L' := [iv v0, iv v1, iv (min r1 r2), iv 0]) C dX1_lettersInCommon_13 (by decide) rfl ?_
  exact h
set_option maxRecDepth 20000 in
theorem kb_X1_lettersInCommon_14 {X : Cx} {d : Nat} {P : Int → Sto → Prop} (C : Ok LY X RX1 cX1_lettersInCommon 4 d) (r : RetI LY X cX1_lettersInCommon P) {v0 v1 v2 v3 : Int} {s : Sto} (h : ((rg v3 ∧ rg v2) ∧ ((v2 ≤ v3 → P v3 s) ∧ (v3 < v2 → (CallI LY d MX5_nameLetter [.inl v0, .inl v3] s (fun r1 s1 => (CallI LY d MX5_nameLetter [.inl v1, .inl v3] s1 (fun r2 s2 => ((rg r1 ∧ rg r2) ∧ ((r1 ≠ r2 → P v3 s2) ∧ (r1 = r2 → G LY X 14 [iv v0, iv v1, iv v2, iv (v3 + 1)] [] s2))))))))))) : G LY X 14 [iv v0, iv v1, iv v2, iv v3] [] s := by
  refine G_iload_n C dX1_lettersInCommon_14 rfl ?_
  refine G_iload_n C dX1_lettersInCommon_15 rfl ?_
  refine G_icmp_ge (tgt := 38) C dX1_lettersInCommon_16 (by decide) ⟨h.1.1, h.1.2⟩ (fun q => ?_) (fun q => ?_)
  · have h := h.2.1 q
    refine G_iload_n C dX1_lettersInCommon_38 rfl ?_
    exact r _ _ _ _ dX1_lettersInCommon_39 h
  · have h := h.2.2 q
    refine G_iload_n C dX1_lettersInCommon_19 rfl ?_
    refine G_iload_n C dX1_lettersInCommon_20 rfl ?_
    refine G_callSI (K := []) (args := [.inl v0, .inl v3]) C (Nat.le_of_ble_eq_true rfl) mo_X5_nameLetter wc_X1_27 rfl dX1_lettersInCommon_21 h (fun r1 s1 h => ?_)
    refine G_iload_n C dX1_lettersInCommon_24 rfl ?_
    refine G_iload_n C dX1_lettersInCommon_25 rfl ?_
    refine G_callSI (K := [.inl r1]) (args := [.inl v1, .inl v3]) C (Nat.le_of_ble_eq_true rfl) mo_X5_nameLetter wc_X1_27 rfl dX1_lettersInCommon_26 h (fun r2 s2 h => ?_)
    refine G_icmp_ne (tgt := 38) C dX1_lettersInCommon_29 (by decide) ⟨h.1.1, h.1.2⟩ (fun q => ?_) (fun q => ?_)
    · have h := h.2.1 q
      refine G_iload_n C dX1_lettersInCommon_38 rfl ?_
      exact r _ _ _ _ dX1_lettersInCommon_39 h
    · have h := h.2.2 q
      refine G_iinc (L' := [iv v0, iv v1, iv v2, iv (v3 + 1)]) C dX1_lettersInCommon_32 (by decide) rfl rfl ?_
      refine G_goto (tgt := 14) C dX1_lettersInCommon_35 (by decide) ?_
      exact h
set_option maxRecDepth 20000 in
theorem kb_X1_holds_0 {X : Cx} {d : Nat} {P : Int → Sto → Prop} (C : Ok LY X RX1 cX1_holds 7 d) (r : RetZ LY X cX1_holds P) {v2 v3 : Int} {s : Sto} (h : G LY X 6 [rv 52, rv 20, iv v2, iv v3, iv 0, iv v2, none] [] s) : G LY X 0 [rv 52, rv 20, iv v2, iv v3, none, none, none] [] s := by
  refine G_iconst C dX1_holds_0 ?_
  refine G_istore (L' := [rv 52, rv 20, iv v2, iv v3, iv 0, none, none]) C dX1_holds_1 (by decide) rfl ?_
  refine G_iload_n C dX1_holds_3 rfl ?_
  refine G_istore (L' := [rv 52, rv 20, iv v2, iv v3, iv 0, iv v2, none]) C dX1_holds_4 (by decide) rfl ?_
  exact h
set_option maxRecDepth 20000 in
theorem kb_X1_holds_6 {X : Cx} {d : Nat} {P : Int → Sto → Prop} (C : Ok LY X RX1 cX1_holds 7 d) (r : RetZ LY X cX1_holds P) {v2 v3 v4 v5 : Int} {s : Sto} (h : ((rg v5 ∧ rg v3) ∧ ((v3 ≤ v5 → ((rg v4) ∧ ((v4 ≤ 0 → P 0 s) ∧ (0 < v4 → ((0 ≤ (v4 - 1) ∧ (v4 - 1) < 32) ∧ ((rg (s 54 (v4 - 1))) ∧ (((s 54 (v4 - 1)) ≠ 1 → P 0 s) ∧ ((s 54 (v4 - 1)) = 1 → P 1 s)))))))) ∧ (v5 < v3 → ((rg v4) ∧ ((32 ≤ v4 → ((rg v4) ∧ ((v4 ≤ 0 → P 0 s) ∧ (0 < v4 → ((0 ≤ (v4 - 1) ∧ (v4 - 1) < 32) ∧ ((rg (s 54 (v4 - 1))) ∧ (((s 54 (v4 - 1)) ≠ 1 → P 0 s) ∧ ((s 54 (v4 - 1)) = 1 → P 1 s)))))))) ∧ (v4 < 32 → ((0 ≤ v5 ∧ v5 < 400) ∧ ((rg (s 20 v5)) ∧ ((10000 ≤ (s 20 v5) → ((rg (s 20 v5)) ∧ (((s 20 v5) < 10006 → ((rg (s 20 v5)) ∧ (((s 20 v5) ≠ 10005 → ((rg v4) ∧ ((v4 < 2 → G LY X 6 [rv 52, rv 20, iv v2, iv v3, iv v4, iv (v5 + 1), none] [] s) ∧ (2 ≤ v4 → ((0 ≤ ((v4 + (-1)) - 1) ∧ ((v4 + (-1)) - 1) < 32) ∧ ((0 ≤ (v4 + (-1)) ∧ (v4 + (-1)) < 32) ∧ (CallI LY d MX1_worked [.inl (s 20 v5), .inl (s 54 ((v4 + (-1)) - 1)), .inl (s 54 (v4 + (-1)))] s (fun r1 s1 => ((0 ≤ ((v4 + (-1)) - 1) ∧ ((v4 + (-1)) - 1) < 32) ∧ (∀ s2 : Sto, s2 = up s1 54 ((v4 + (-1)) - 1) r1 → G LY X 6 [rv 52, rv 20, iv v2, iv v3, iv (v4 + (-1)), iv (v5 + 1), none] [] s2)))))))))) ∧ ((s 20 v5) = 10005 → ((rg v4) ∧ ((v4 < 1 → ((rg v4) ∧ ((v4 < 2 → G LY X 6 [rv 52, rv 20, iv v2, iv v3, iv v4, iv (v5 + 1), none] [] s) ∧ (2 ≤ v4 → ((0 ≤ ((v4 + (-1)) - 1) ∧ ((v4 + (-1)) - 1) < 32) ∧ ((0 ≤ (v4 + (-1)) ∧ (v4 + (-1)) < 32) ∧ (CallI LY d MX1_worked [.inl (s 20 v5), .inl (s 54 ((v4 + (-1)) - 1)), .inl (s 54 (v4 + (-1)))] s (fun r3 s3 => ((0 ≤ ((v4 + (-1)) - 1) ∧ ((v4 + (-1)) - 1) < 32) ∧ (∀ s4 : Sto, s4 = up s3 54 ((v4 + (-1)) - 1) r3 → G LY X 6 [rv 52, rv 20, iv v2, iv v3, iv (v4 + (-1)), iv (v5 + 1), none] [] s4)))))))))) ∧ (1 ≤ v4 → ((0 ≤ (v4 - 1) ∧ (v4 - 1) < 32) ∧ ((0 ≤ (v4 - 1) ∧ (v4 - 1) < 32) ∧ (∀ s5 : Sto, s5 = up s 54 (v4 - 1) (1 - (s 54 (v4 - 1))) → G LY X 6 [rv 52, rv 20, iv v2, iv v3, iv v4, iv (v5 + 1), none] [] s5)))))))))) ∧ (10006 ≤ (s 20 v5) → ((rg (s 20 v5)) ∧ ((10015 < (s 20 v5) → ((rg (s 20 v5)) ∧ (((s 20 v5) ≠ 10005 → ((rg v4) ∧ ((v4 < 2 → G LY X 6 [rv 52, rv 20, iv v2, iv v3, iv v4, iv (v5 + 1), none] [] s) ∧ (2 ≤ v4 → ((0 ≤ ((v4 + (-1)) - 1) ∧ ((v4 + (-1)) - 1) < 32) ∧ ((0 ≤ (v4 + (-1)) ∧ (v4 + (-1)) < 32) ∧ (CallI LY d MX1_worked [.inl (s 20 v5), .inl (s 54 ((v4 + (-1)) - 1)), .inl (s 54 (v4 + (-1)))] s (fun r6 s6 => ((0 ≤ ((v4 + (-1)) - 1) ∧ ((v4 + (-1)) - 1) < 32) ∧ (∀ s7 : Sto, s7 = up s6 54 ((v4 + (-1)) - 1) r6 → G LY X 6 [rv 52, rv 20, iv v2, iv v3, iv (v4 + (-1)), iv (v5 + 1), none] [] s7)))))))))) ∧ ((s 20 v5) = 10005 → ((rg v4) ∧ ((v4 < 1 → ((rg v4) ∧ ((v4 < 2 → G LY X 6 [rv 52, rv 20, iv v2, iv v3, iv v4, iv (v5 + 1), none] [] s) ∧ (2 ≤ v4 → ((0 ≤ ((v4 + (-1)) - 1) ∧ ((v4 + (-1)) - 1) < 32) ∧ ((0 ≤ (v4 + (-1)) ∧ (v4 + (-1)) < 32) ∧ (CallI LY d MX1_worked [.inl (s 20 v5), .inl (s 54 ((v4 + (-1)) - 1)), .inl (s 54 (v4 + (-1)))] s (fun r8 s8 => ((0 ≤ ((v4 + (-1)) - 1) ∧ ((v4 + (-1)) - 1) < 32) ∧ (∀ s9 : Sto, s9 = up s8 54 ((v4 + (-1)) - 1) r8 → G LY X 6 [rv 52, rv 20, iv v2, iv v3, iv (v4 + (-1)), iv (v5 + 1), none] [] s9)))))))))) ∧ (1 ≤ v4 → ((0 ≤ (v4 - 1) ∧ (v4 - 1) < 32) ∧ ((0 ≤ (v4 - 1) ∧ (v4 - 1) < 32) ∧ (∀ s10 : Sto, s10 = up s 54 (v4 - 1) (1 - (s 54 (v4 - 1))) → G LY X 6 [rv 52, rv 20, iv v2, iv v3, iv v4, iv (v5 + 1), none] [] s10)))))))))) ∧ ((s 20 v5) ≤ 10015 → ((0 ≤ ((s 20 v5) - 10006) ∧ ((s 20 v5) - 10006) < 10) ∧ ((0 ≤ v4 ∧ v4 < 32) ∧ (∀ s11 : Sto, s11 = up s 54 v4 (s 53 ((s 20 v5) - 10006)) → G LY X 6 [rv 52, rv 20, iv v2, iv v3, iv (v4 + 1), iv (v5 + 1), none] [] s11)))))))))) ∧ ((s 20 v5) < 10000 → ((0 ≤ v4 ∧ v4 < 32) ∧ (∀ s12 : Sto, s12 = up s 54 v4 (s 20 v5) → G LY X 6 [rv 52, rv 20, iv v2, iv v3, iv (v4 + 1), iv (v5 + 1), none] [] s12))))))))))))) : G LY X 6 [rv 52, rv 20, iv v2, iv v3, iv v4, iv v5, none] [] s := by
  refine G_iload C dX1_holds_6 rfl ?_
  refine G_iload_n C dX1_holds_8 rfl ?_
  refine G_icmp_ge (tgt := 170) C dX1_holds_9 (by decide) ⟨h.1.1, h.1.2⟩ (fun q => ?_) (fun q => ?_)
  · have h := h.2.1 q
    refine G_iload C dX1_holds_170 rfl ?_
    refine G_if_le (tgt := 192) C dX1_holds_172 (by decide) h.1 (fun q => ?_) (fun q => ?_)
    · have h := h.2.1 q
      refine G_iconst C dX1_holds_192 ?_
      exact r _ _ _ _ dX1_holds_193 (by decide) h
    · have h := h.2.2 q
      refine G_aload_n C dX1_holds_175 rfl ?_
      refine gR_X1_1 C ly_52 rfl wf_X1_15 dX1_holds_176 ?_
      refine G_iload C dX1_holds_179 rfl ?_
      refine G_iconst C dX1_holds_181 ?_
      refine G_isub C dX1_holds_182 ?_
      refine G_iald C ly_54 (by decide) h.1 dX1_holds_183 ?_
      have h := h.2
      refine G_iconst C dX1_holds_184 ?_
      refine G_icmp_ne (tgt := 192) C dX1_holds_185 (by decide) ⟨h.1, (by decide)⟩ (fun q => ?_) (fun q => ?_)
      · have h := h.2.1 q
        refine G_iconst C dX1_holds_192 ?_
        exact r _ _ _ _ dX1_holds_193 (by decide) h
      · have h := h.2.2 q
        refine G_iconst C dX1_holds_188 ?_
        refine G_goto (tgt := 193) C dX1_holds_189 (by decide) ?_
        exact r _ _ _ _ dX1_holds_193 (by decide) h
  · have h := h.2.2 q
    refine G_iload C dX1_holds_12 rfl ?_
    refine G_bipush C dX1_holds_14 bi_32 ?_
    refine G_icmp_ge (tgt := 170) C dX1_holds_16 (by decide) ⟨h.1, (by decide)⟩ (fun q => ?_) (fun q => ?_)
    · have h := h.2.1 q
      refine G_iload C dX1_holds_170 rfl ?_
      refine G_if_le (tgt := 192) C dX1_holds_172 (by decide) h.1 (fun q => ?_) (fun q => ?_)
      · have h := h.2.1 q
        refine G_iconst C dX1_holds_192 ?_
        exact r _ _ _ _ dX1_holds_193 (by decide) h
      · have h := h.2.2 q
        refine G_aload_n C dX1_holds_175 rfl ?_
        refine gR_X1_1 C ly_52 rfl wf_X1_15 dX1_holds_176 ?_
        refine G_iload C dX1_holds_179 rfl ?_
        refine G_iconst C dX1_holds_181 ?_
        refine G_isub C dX1_holds_182 ?_
        refine G_iald C ly_54 (by decide) h.1 dX1_holds_183 ?_
        have h := h.2
        refine G_iconst C dX1_holds_184 ?_
        refine G_icmp_ne (tgt := 192) C dX1_holds_185 (by decide) ⟨h.1, (by decide)⟩ (fun q => ?_) (fun q => ?_)
        · have h := h.2.1 q
          refine G_iconst C dX1_holds_192 ?_
          exact r _ _ _ _ dX1_holds_193 (by decide) h
        · have h := h.2.2 q
          refine G_iconst C dX1_holds_188 ?_
          refine G_goto (tgt := 193) C dX1_holds_189 (by decide) ?_
          exact r _ _ _ _ dX1_holds_193 (by decide) h
    · have h := h.2.2 q
      refine G_aload_n C dX1_holds_19 rfl ?_
      refine G_iload C dX1_holds_20 rfl ?_
      refine G_iald C ly_20 (by decide) h.1 dX1_holds_22 ?_
      have h := h.2
      refine G_istore (L' := [rv 52, rv 20, iv v2, iv v3, iv v4, iv v5, iv (s 20 v5)]) C dX1_holds_23 (by decide) rfl ?_
      refine G_iload C dX1_holds_25 rfl ?_
      refine G_sipush C dX1_holds_27 si_10000 ?_
      refine G_icmp_ge (tgt := 48) C dX1_holds_30 (by decide) ⟨h.1, (by decide)⟩ (fun q => ?_) (fun q => ?_)
      · have h := h.2.1 q
        refine G_iload C dX1_holds_48 rfl ?_
        refine G_sipush C dX1_holds_50 si_10006 ?_
        refine G_icmp_lt (tgt := 88) C dX1_holds_53 (by decide) ⟨h.1, (by decide)⟩ (fun q => ?_) (fun q => ?_)
        · have h := h.2.1 q
          refine G_iload C dX1_holds_88 rfl ?_
          refine G_sipush C dX1_holds_90 si_10005 ?_
          refine G_icmp_ne (tgt := 125) C dX1_holds_93 (by decide) ⟨h.1, (by decide)⟩ (fun q => ?_) (fun q => ?_)
          · have h := h.2.1 q
            refine G_iload C dX1_holds_125 rfl ?_
            refine G_iconst C dX1_holds_127 ?_
            refine G_icmp_lt (tgt := 164) C dX1_holds_128 (by decide) ⟨h.1, (by decide)⟩ (fun q => ?_) (fun q => ?_)
            · have h := h.2.1 q
              refine G_iinc (L' := [rv 52, rv 20, iv v2, iv v3, iv v4, iv (v5 + 1), iv (s 20 v5)]) C dX1_holds_164 (by decide) rfl rfl ?_
              refine G_goto (tgt := 6) C dX1_holds_167 (by decide) ?_
              refine G_drop (i := 6) (L' := [rv 52, rv 20, iv v2, iv v3, iv v4, iv (v5 + 1), none]) rfl ?_
              exact h
            · have h := h.2.2 q
              refine G_iinc (L' := [rv 52, rv 20, iv v2, iv v3, iv (v4 + (-1)), iv v5, iv (s 20 v5)]) C dX1_holds_131 (by decide) rfl rfl ?_
              refine G_aload_n C dX1_holds_134 rfl ?_
              refine gR_X1_1 C ly_52 rfl wf_X1_15 dX1_holds_135 ?_
              refine G_iload C dX1_holds_138 rfl ?_
              refine G_iconst C dX1_holds_140 ?_
              refine G_isub C dX1_holds_141 ?_
              refine G_iload C dX1_holds_142 rfl ?_
              refine G_aload_n C dX1_holds_144 rfl ?_
              refine gR_X1_1 C ly_52 rfl wf_X1_15 dX1_holds_145 ?_
              refine G_iload C dX1_holds_148 rfl ?_
              refine G_iconst C dX1_holds_150 ?_
              refine G_isub C dX1_holds_151 ?_
              refine G_iald C ly_54 (by decide) h.1 dX1_holds_152 ?_
              have h := h.2
              refine G_aload_n C dX1_holds_153 rfl ?_
              refine gR_X1_1 C ly_52 rfl wf_X1_15 dX1_holds_154 ?_
              refine G_iload C dX1_holds_157 rfl ?_
              refine G_iald C ly_54 (by decide) h.1 dX1_holds_159 ?_
              have h := h.2
              refine G_callSI (K := [.inl ((v4 + (-1)) - 1), .inr 54]) (args := [.inl (s 20 v5), .inl (s 54 ((v4 + (-1)) - 1)), .inl (s 54 (v4 + (-1)))]) C (Nat.le_of_ble_eq_true rfl) mo_X1_worked wc_X1_93 rfl dX1_holds_160 h (fun r1 s1 h => ?_)
              refine G_iast C ly_54 (by decide) h.1 dX1_holds_163 ?_
              have h := h.2
              have h := h _ rfl
              obtain ⟨s2, e2⟩ : ∃ z, z = up s1 54 ((v4 + (-1)) - 1) r1 := ⟨_, rfl⟩
              rw [← e2] at h ⊢
              refine G_iinc (L' := [rv 52, rv 20, iv v2, iv v3, iv (v4 + (-1)), iv (v5 + 1), iv (s 20 v5)]) C dX1_holds_164 (by decide) rfl rfl ?_
              refine G_goto (tgt := 6) C dX1_holds_167 (by decide) ?_
              refine G_drop (i := 6) (L' := [rv 52, rv 20, iv v2, iv v3, iv (v4 + (-1)), iv (v5 + 1), none]) rfl ?_
              exact h
          · have h := h.2.2 q
            refine G_iload C dX1_holds_96 rfl ?_
            refine G_iconst C dX1_holds_98 ?_
            refine G_icmp_lt (tgt := 125) C dX1_holds_99 (by decide) ⟨h.1, (by decide)⟩ (fun q => ?_) (fun q => ?_)
            · have h := h.2.1 q
              refine G_iload C dX1_holds_125 rfl ?_
              refine G_iconst C dX1_holds_127 ?_
              refine G_icmp_lt (tgt := 164) C dX1_holds_128 (by decide) ⟨h.1, (by decide)⟩ (fun q => ?_) (fun q => ?_)
              · have h := h.2.1 q
                refine G_iinc (L' := [rv 52, rv 20, iv v2, iv v3, iv v4, iv (v5 + 1), iv (s 20 v5)]) C dX1_holds_164 (by decide) rfl rfl ?_
                refine G_goto (tgt := 6) C dX1_holds_167 (by decide) ?_
                refine G_drop (i := 6) (L' := [rv 52, rv 20, iv v2, iv v3, iv v4, iv (v5 + 1), none]) rfl ?_
                exact h
              · have h := h.2.2 q
                refine G_iinc (L' := [rv 52, rv 20, iv v2, iv v3, iv (v4 + (-1)), iv v5, iv (s 20 v5)]) C dX1_holds_131 (by decide) rfl rfl ?_
                refine G_aload_n C dX1_holds_134 rfl ?_
                refine gR_X1_1 C ly_52 rfl wf_X1_15 dX1_holds_135 ?_
                refine G_iload C dX1_holds_138 rfl ?_
                refine G_iconst C dX1_holds_140 ?_
                refine G_isub C dX1_holds_141 ?_
                refine G_iload C dX1_holds_142 rfl ?_
                refine G_aload_n C dX1_holds_144 rfl ?_
                refine gR_X1_1 C ly_52 rfl wf_X1_15 dX1_holds_145 ?_
                refine G_iload C dX1_holds_148 rfl ?_
                refine G_iconst C dX1_holds_150 ?_
                refine G_isub C dX1_holds_151 ?_
                refine G_iald C ly_54 (by decide) h.1 dX1_holds_152 ?_
                have h := h.2
                refine G_aload_n C dX1_holds_153 rfl ?_
                refine gR_X1_1 C ly_52 rfl wf_X1_15 dX1_holds_154 ?_
                refine G_iload C dX1_holds_157 rfl ?_
                refine G_iald C ly_54 (by decide) h.1 dX1_holds_159 ?_
                have h := h.2
                refine G_callSI (K := [.inl ((v4 + (-1)) - 1), .inr 54]) (args := [.inl (s 20 v5), .inl (s 54 ((v4 + (-1)) - 1)), .inl (s 54 (v4 + (-1)))]) C (Nat.le_of_ble_eq_true rfl) mo_X1_worked wc_X1_93 rfl dX1_holds_160 h (fun r3 s3 h => ?_)
                refine G_iast C ly_54 (by decide) h.1 dX1_holds_163 ?_
                have h := h.2
                have h := h _ rfl
                obtain ⟨s4, e4⟩ : ∃ z, z = up s3 54 ((v4 + (-1)) - 1) r3 := ⟨_, rfl⟩
                rw [← e4] at h ⊢
                refine G_iinc (L' := [rv 52, rv 20, iv v2, iv v3, iv (v4 + (-1)), iv (v5 + 1), iv (s 20 v5)]) C dX1_holds_164 (by decide) rfl rfl ?_
                refine G_goto (tgt := 6) C dX1_holds_167 (by decide) ?_
                refine G_drop (i := 6) (L' := [rv 52, rv 20, iv v2, iv v3, iv (v4 + (-1)), iv (v5 + 1), none]) rfl ?_
                exact h
            · have h := h.2.2 q
              refine G_aload_n C dX1_holds_102 rfl ?_
              refine gR_X1_1 C ly_52 rfl wf_X1_15 dX1_holds_103 ?_
              refine G_iload C dX1_holds_106 rfl ?_
              refine G_iconst C dX1_holds_108 ?_
              refine G_isub C dX1_holds_109 ?_
              refine G_iconst C dX1_holds_110 ?_
              refine G_aload_n C dX1_holds_111 rfl ?_
              refine gR_X1_1 C ly_52 rfl wf_X1_15 dX1_holds_112 ?_
              refine G_iload C dX1_holds_115 rfl ?_
              refine G_iconst C dX1_holds_117 ?_
              refine G_isub C dX1_holds_118 ?_
              refine G_iald C ly_54 (by decide) h.1 dX1_holds_119 ?_
              have h := h.2
              refine G_isub C dX1_holds_120 ?_
              refine G_iast C ly_54 (by decide) h.1 dX1_holds_121 ?_
              have h := h.2
              have h := h _ rfl
              obtain ⟨s5, e5⟩ : ∃ z, z = up s 54 (v4 - 1) (1 - (s 54 (v4 - 1))) := ⟨_, rfl⟩
              rw [← e5] at h ⊢
              refine G_goto (tgt := 164) C dX1_holds_122 (by decide) ?_
              refine G_iinc (L' := [rv 52, rv 20, iv v2, iv v3, iv v4, iv (v5 + 1), iv (s 20 v5)]) C dX1_holds_164 (by decide) rfl rfl ?_
              refine G_goto (tgt := 6) C dX1_holds_167 (by decide) ?_
              refine G_drop (i := 6) (L' := [rv 52, rv 20, iv v2, iv v3, iv v4, iv (v5 + 1), none]) rfl ?_
              exact h
        · have h := h.2.2 q
          refine G_iload C dX1_holds_56 rfl ?_
          refine G_sipush C dX1_holds_58 si_10015 ?_
          refine G_icmp_gt (tgt := 88) C dX1_holds_61 (by decide) ⟨h.1, (by decide)⟩ (fun q => ?_) (fun q => ?_)
          · have h := h.2.1 q
            refine G_iload C dX1_holds_88 rfl ?_
            refine G_sipush C dX1_holds_90 si_10005 ?_
            refine G_icmp_ne (tgt := 125) C dX1_holds_93 (by decide) ⟨h.1, (by decide)⟩ (fun q => ?_) (fun q => ?_)
            · have h := h.2.1 q
              refine G_iload C dX1_holds_125 rfl ?_
              refine G_iconst C dX1_holds_127 ?_
              refine G_icmp_lt (tgt := 164) C dX1_holds_128 (by decide) ⟨h.1, (by decide)⟩ (fun q => ?_) (fun q => ?_)
              · have h := h.2.1 q
                refine G_iinc (L' := [rv 52, rv 20, iv v2, iv v3, iv v4, iv (v5 + 1), iv (s 20 v5)]) C dX1_holds_164 (by decide) rfl rfl ?_
                refine G_goto (tgt := 6) C dX1_holds_167 (by decide) ?_
                refine G_drop (i := 6) (L' := [rv 52, rv 20, iv v2, iv v3, iv v4, iv (v5 + 1), none]) rfl ?_
                exact h
              · have h := h.2.2 q
                refine G_iinc (L' := [rv 52, rv 20, iv v2, iv v3, iv (v4 + (-1)), iv v5, iv (s 20 v5)]) C dX1_holds_131 (by decide) rfl rfl ?_
                refine G_aload_n C dX1_holds_134 rfl ?_
                refine gR_X1_1 C ly_52 rfl wf_X1_15 dX1_holds_135 ?_
                refine G_iload C dX1_holds_138 rfl ?_
                refine G_iconst C dX1_holds_140 ?_
                refine G_isub C dX1_holds_141 ?_
                refine G_iload C dX1_holds_142 rfl ?_
                refine G_aload_n C dX1_holds_144 rfl ?_
                refine gR_X1_1 C ly_52 rfl wf_X1_15 dX1_holds_145 ?_
                refine G_iload C dX1_holds_148 rfl ?_
                refine G_iconst C dX1_holds_150 ?_
                refine G_isub C dX1_holds_151 ?_
                refine G_iald C ly_54 (by decide) h.1 dX1_holds_152 ?_
                have h := h.2
                refine G_aload_n C dX1_holds_153 rfl ?_
                refine gR_X1_1 C ly_52 rfl wf_X1_15 dX1_holds_154 ?_
                refine G_iload C dX1_holds_157 rfl ?_
                refine G_iald C ly_54 (by decide) h.1 dX1_holds_159 ?_
                have h := h.2
                refine G_callSI (K := [.inl ((v4 + (-1)) - 1), .inr 54]) (args := [.inl (s 20 v5), .inl (s 54 ((v4 + (-1)) - 1)), .inl (s 54 (v4 + (-1)))]) C (Nat.le_of_ble_eq_true rfl) mo_X1_worked wc_X1_93 rfl dX1_holds_160 h (fun r6 s6 h => ?_)
                refine G_iast C ly_54 (by decide) h.1 dX1_holds_163 ?_
                have h := h.2
                have h := h _ rfl
                obtain ⟨s7, e7⟩ : ∃ z, z = up s6 54 ((v4 + (-1)) - 1) r6 := ⟨_, rfl⟩
                rw [← e7] at h ⊢
                refine G_iinc (L' := [rv 52, rv 20, iv v2, iv v3, iv (v4 + (-1)), iv (v5 + 1), iv (s 20 v5)]) C dX1_holds_164 (by decide) rfl rfl ?_
                refine G_goto (tgt := 6) C dX1_holds_167 (by decide) ?_
                refine G_drop (i := 6) (L' := [rv 52, rv 20, iv v2, iv v3, iv (v4 + (-1)), iv (v5 + 1), none]) rfl ?_
                exact h
            · have h := h.2.2 q
              refine G_iload C dX1_holds_96 rfl ?_
              refine G_iconst C dX1_holds_98 ?_
              refine G_icmp_lt (tgt := 125) C dX1_holds_99 (by decide) ⟨h.1, (by decide)⟩ (fun q => ?_) (fun q => ?_)
              · have h := h.2.1 q
                refine G_iload C dX1_holds_125 rfl ?_
                refine G_iconst C dX1_holds_127 ?_
                refine G_icmp_lt (tgt := 164) C dX1_holds_128 (by decide) ⟨h.1, (by decide)⟩ (fun q => ?_) (fun q => ?_)
                · have h := h.2.1 q
                  refine G_iinc (L' := [rv 52, rv 20, iv v2, iv v3, iv v4, iv (v5 + 1), iv (s 20 v5)]) C dX1_holds_164 (by decide) rfl rfl ?_
                  refine G_goto (tgt := 6) C dX1_holds_167 (by decide) ?_
                  refine G_drop (i := 6) (L' := [rv 52, rv 20, iv v2, iv v3, iv v4, iv (v5 + 1), none]) rfl ?_
                  exact h
                · have h := h.2.2 q
                  refine G_iinc (L' := [rv 52, rv 20, iv v2, iv v3, iv (v4 + (-1)), iv v5, iv (s 20 v5)]) C dX1_holds_131 (by decide) rfl rfl ?_
                  refine G_aload_n C dX1_holds_134 rfl ?_
                  refine gR_X1_1 C ly_52 rfl wf_X1_15 dX1_holds_135 ?_
                  refine G_iload C dX1_holds_138 rfl ?_
                  refine G_iconst C dX1_holds_140 ?_
                  refine G_isub C dX1_holds_141 ?_
                  refine G_iload C dX1_holds_142 rfl ?_
                  refine G_aload_n C dX1_holds_144 rfl ?_
                  refine gR_X1_1 C ly_52 rfl wf_X1_15 dX1_holds_145 ?_
                  refine G_iload C dX1_holds_148 rfl ?_
                  refine G_iconst C dX1_holds_150 ?_
                  refine G_isub C dX1_holds_151 ?_
                  refine G_iald C ly_54 (by decide) h.1 dX1_holds_152 ?_
                  have h := h.2
                  refine G_aload_n C dX1_holds_153 rfl ?_
                  refine gR_X1_1 C ly_52 rfl wf_X1_15 dX1_holds_154 ?_
                  refine G_iload C dX1_holds_157 rfl ?_
                  refine G_iald C ly_54 (by decide) h.1 dX1_holds_159 ?_
                  have h := h.2
                  refine G_callSI (K := [.inl ((v4 + (-1)) - 1), .inr 54]) (args := [.inl (s 20 v5), .inl (s 54 ((v4 + (-1)) - 1)), .inl (s 54 (v4 + (-1)))]) C (Nat.le_of_ble_eq_true rfl) mo_X1_worked wc_X1_93 rfl dX1_holds_160 h (fun r8 s8 h => ?_)
                  refine G_iast C ly_54 (by decide) h.1 dX1_holds_163 ?_
                  have h := h.2
                  have h := h _ rfl
                  obtain ⟨s9, e9⟩ : ∃ z, z = up s8 54 ((v4 + (-1)) - 1) r8 := ⟨_, rfl⟩
                  rw [← e9] at h ⊢
                  refine G_iinc (L' := [rv 52, rv 20, iv v2, iv v3, iv (v4 + (-1)), iv (v5 + 1), iv (s 20 v5)]) C dX1_holds_164 (by decide) rfl rfl ?_
                  refine G_goto (tgt := 6) C dX1_holds_167 (by decide) ?_
                  refine G_drop (i := 6) (L' := [rv 52, rv 20, iv v2, iv v3, iv (v4 + (-1)), iv (v5 + 1), none]) rfl ?_
                  exact h
              · have h := h.2.2 q
                refine G_aload_n C dX1_holds_102 rfl ?_
                refine gR_X1_1 C ly_52 rfl wf_X1_15 dX1_holds_103 ?_
                refine G_iload C dX1_holds_106 rfl ?_
                refine G_iconst C dX1_holds_108 ?_
                refine G_isub C dX1_holds_109 ?_
                refine G_iconst C dX1_holds_110 ?_
                refine G_aload_n C dX1_holds_111 rfl ?_
                refine gR_X1_1 C ly_52 rfl wf_X1_15 dX1_holds_112 ?_
                refine G_iload C dX1_holds_115 rfl ?_
                refine G_iconst C dX1_holds_117 ?_
                refine G_isub C dX1_holds_118 ?_
                refine G_iald C ly_54 (by decide) h.1 dX1_holds_119 ?_
                have h := h.2
                refine G_isub C dX1_holds_120 ?_
                refine G_iast C ly_54 (by decide) h.1 dX1_holds_121 ?_
                have h := h.2
                have h := h _ rfl
                obtain ⟨s10, e10⟩ : ∃ z, z = up s 54 (v4 - 1) (1 - (s 54 (v4 - 1))) := ⟨_, rfl⟩
                rw [← e10] at h ⊢
                refine G_goto (tgt := 164) C dX1_holds_122 (by decide) ?_
                refine G_iinc (L' := [rv 52, rv 20, iv v2, iv v3, iv v4, iv (v5 + 1), iv (s 20 v5)]) C dX1_holds_164 (by decide) rfl rfl ?_
                refine G_goto (tgt := 6) C dX1_holds_167 (by decide) ?_
                refine G_drop (i := 6) (L' := [rv 52, rv 20, iv v2, iv v3, iv v4, iv (v5 + 1), none]) rfl ?_
                exact h
          · have h := h.2.2 q
            refine G_aload_n C dX1_holds_64 rfl ?_
            refine gR_X1_1 C ly_52 rfl wf_X1_15 dX1_holds_65 ?_
            refine G_iload C dX1_holds_68 rfl ?_
            refine G_aload_n C dX1_holds_70 rfl ?_
            refine gR_X1_0 C ly_52 rfl wf_X1_9 dX1_holds_71 ?_
            refine G_iload C dX1_holds_74 rfl ?_
            refine G_sipush C dX1_holds_76 si_10006 ?_
            refine G_isub C dX1_holds_79 ?_
            refine G_iald C ly_53 (by decide) h.1 dX1_holds_80 ?_
            have h := h.2
            refine G_iast C ly_54 (by decide) h.1 dX1_holds_81 ?_
            have h := h.2
            have h := h _ rfl
            obtain ⟨s11, e11⟩ : ∃ z, z = up s 54 v4 (s 53 ((s 20 v5) - 10006)) := ⟨_, rfl⟩
            rw [← e11] at h ⊢
            refine G_iinc (L' := [rv 52, rv 20, iv v2, iv v3, iv (v4 + 1), iv v5, iv (s 20 v5)]) C dX1_holds_82 (by decide) rfl rfl ?_
            refine G_goto (tgt := 164) C dX1_holds_85 (by decide) ?_
            refine G_iinc (L' := [rv 52, rv 20, iv v2, iv v3, iv (v4 + 1), iv (v5 + 1), iv (s 20 v5)]) C dX1_holds_164 (by decide) rfl rfl ?_
            refine G_goto (tgt := 6) C dX1_holds_167 (by decide) ?_
            refine G_drop (i := 6) (L' := [rv 52, rv 20, iv v2, iv v3, iv (v4 + 1), iv (v5 + 1), none]) rfl ?_
            exact h
      · have h := h.2.2 q
        refine G_aload_n C dX1_holds_33 rfl ?_
        refine gR_X1_1 C ly_52 rfl wf_X1_15 dX1_holds_34 ?_
        refine G_iload C dX1_holds_37 rfl ?_
        refine G_iload C dX1_holds_39 rfl ?_
        refine G_iast C ly_54 (by decide) h.1 dX1_holds_41 ?_
        have h := h.2
        have h := h _ rfl
        obtain ⟨s12, e12⟩ : ∃ z, z = up s 54 v4 (s 20 v5) := ⟨_, rfl⟩
        rw [← e12] at h ⊢
        refine G_iinc (L' := [rv 52, rv 20, iv v2, iv v3, iv (v4 + 1), iv v5, iv (s 20 v5)]) C dX1_holds_42 (by decide) rfl rfl ?_
        refine G_goto (tgt := 164) C dX1_holds_45 (by decide) ?_
        refine G_iinc (L' := [rv 52, rv 20, iv v2, iv v3, iv (v4 + 1), iv (v5 + 1), iv (s 20 v5)]) C dX1_holds_164 (by decide) rfl rfl ?_
        refine G_goto (tgt := 6) C dX1_holds_167 (by decide) ?_
        refine G_drop (i := 6) (L' := [rv 52, rv 20, iv v2, iv v3, iv (v4 + 1), iv (v5 + 1), none]) rfl ?_
        exact h
set_option maxRecDepth 20000 in
theorem kb_X10_goRound_0 {X : Cx} {d : Nat} {P : Sto → Prop} (C : Ok LY X RX10 cX10_goRound 6 d) (r : RetV LY X cX10_goRound P) {s : Sto} (h : G LY X 3 [rv 56, rv 3, rv 46, rv 52, iv 0, none] [] s) : G LY X 0 [rv 56, rv 3, rv 46, rv 52, none, none] [] s := by
  refine G_iconst C dX10_goRound_0 ?_
  refine G_istore (L' := [rv 56, rv 3, rv 46, rv 52, iv 0, none]) C dX10_goRound_1 (by decide) rfl ?_
  exact h
set_option maxRecDepth 20000 in
theorem kb_X10_goRound_3 {X : Cx} {d : Nat} {P : Sto → Prop} (C : Ok LY X RX10 cX10_goRound 6 d) (r : RetV LY X cX10_goRound P) {v4 : Int} {s : Sto} (h : ((rg v4 ∧ rg (s 5 0)) ∧ (((s 5 0) ≤ v4 → P s) ∧ (v4 < (s 5 0) → (CallI LY d MX10_bestFor [.inr 56, .inr 3, .inr 46, .inr 52, .inl v4] s (fun r1 s1 => ((rg r1) ∧ ((r1 = (-1) → G LY X 3 [rv 56, rv 3, rv 46, rv 52, iv (v4 + 1), none] [] s1) ∧ (r1 ≠ (-1) → ((0 ≤ r1 ∧ r1 < 10) ∧ ((0 ≤ v4 ∧ v4 < 20) ∧ (∀ s2 : Sto, s2 = up s1 57 v4 (s1 13 r1) → ((0 ≤ v4 ∧ v4 < 20) ∧ (CallI LY d MX7_keyOf [.inr 46, .inl (s2 57 v4)] s2 (fun r3 s3 => ((0 ≤ v4 ∧ v4 < 20) ∧ (∀ s4 : Sto, s4 = up s3 48 v4 r3 → (∀ s5 : Sto, s5 = up s4 56 4 ((s4 56 4) + 1) → G LY X 3 [rv 56, rv 3, rv 46, rv 52, iv (v4 + 1), none] [] s5)))))))))))))))))) : G LY X 3 [rv 56, rv 3, rv 46, rv 52, iv v4, none] [] s := by
  refine G_iload C dX10_goRound_3 rfl ?_
  refine G_aload_n C dX10_goRound_5 rfl ?_
  refine gR_X2_5 C ly_3 rfl wf_X10_28 dX10_goRound_6 ?_
  refine gI_X6_0 C ly_5 rfl wf_X10_34 dX10_goRound_9 ?_
  refine G_icmp_ge (tgt := 80) C dX10_goRound_12 (by decide) ⟨h.1.1, h.1.2⟩ (fun q => ?_) (fun q => ?_)
  · have h := h.2.1 q
    exact r _ _ _ dX10_goRound_80 h
  · have h := h.2.2 q
    refine G_aload_n C dX10_goRound_15 rfl ?_
    refine G_aload_n C dX10_goRound_16 rfl ?_
    refine G_aload_n C dX10_goRound_17 rfl ?_
    refine G_aload_n C dX10_goRound_18 rfl ?_
    refine G_iload C dX10_goRound_19 rfl ?_
    refine G_callVI (K := []) (args := [.inr 3, .inr 46, .inr 52, .inl v4]) (T := TX10) (N := 5) C ly_56 rfl (Nat.le_of_ble_eq_true rfl) mo_X10_bestFor wc_X10_67 rfl dX10_goRound_21 h (fun r1 s1 h => ?_)
    refine G_istore (L' := [rv 56, rv 3, rv 46, rv 52, iv v4, iv r1]) C dX10_goRound_24 (by decide) rfl ?_
    refine G_iload C dX10_goRound_26 rfl ?_
    refine G_iconst C dX10_goRound_28 ?_
    refine G_icmp_eq (tgt := 74) C dX10_goRound_29 (by decide) ⟨h.1, (by decide)⟩ (fun q => ?_) (fun q => ?_)
    · have h := h.2.1 q
      refine G_iinc (L' := [rv 56, rv 3, rv 46, rv 52, iv (v4 + 1), iv r1]) C dX10_goRound_74 (by decide) rfl rfl ?_
      refine G_goto (tgt := 3) C dX10_goRound_77 (by decide) ?_
      refine G_drop (i := 5) (L' := [rv 56, rv 3, rv 46, rv 52, iv (v4 + 1), none]) rfl ?_
      exact h
    · have h := h.2.2 q
      refine G_aload_n C dX10_goRound_32 rfl ?_
      refine gR_X10_0 C ly_56 rfl wf_X10_9 dX10_goRound_33 ?_
      refine G_iload C dX10_goRound_36 rfl ?_
      refine G_aload_n C dX10_goRound_38 rfl ?_
      refine gR_X2_10 C ly_3 rfl wf_X10_71 dX10_goRound_39 ?_
      refine G_iload C dX10_goRound_42 rfl ?_
      refine G_iald C ly_13 (by decide) h.1 dX10_goRound_44 ?_
      have h := h.2
      refine G_iast C ly_57 (by decide) h.1 dX10_goRound_45 ?_
      have h := h.2
      have h := h _ rfl
      obtain ⟨s2, e2⟩ : ∃ z, z = up s1 57 v4 (s1 13 r1) := ⟨_, rfl⟩
      rw [← e2] at h ⊢
      refine G_aload_n C dX10_goRound_46 rfl ?_
      refine gR_X7_1 C ly_46 rfl wf_X10_74 dX10_goRound_47 ?_
      refine G_iload C dX10_goRound_50 rfl ?_
      refine G_aload_n C dX10_goRound_52 rfl ?_
      refine G_aload_n C dX10_goRound_53 rfl ?_
      refine gR_X10_0 C ly_56 rfl wf_X10_9 dX10_goRound_54 ?_
      refine G_iload C dX10_goRound_57 rfl ?_
      refine G_iald C ly_57 (by decide) h.1 dX10_goRound_59 ?_
      have h := h.2
      refine G_callVI (K := [.inl v4, .inr 48]) (args := [.inl (s2 57 v4)]) (T := TX7) (N := 5) C ly_46 rfl (Nat.le_of_ble_eq_true rfl) mo_X7_keyOf wc_X10_77 rfl dX10_goRound_60 h (fun r3 s3 h => ?_)
      refine G_iast C ly_48 (by decide) h.1 dX10_goRound_63 ?_
      have h := h.2
      have h := h _ rfl
      obtain ⟨s4, e4⟩ : ∃ z, z = up s3 48 v4 r3 := ⟨_, rfl⟩
      rw [← e4] at h ⊢
      refine G_aload_n C dX10_goRound_64 rfl ?_
      refine G_dup C dX10_goRound_65 ?_
      refine gI_X10_4 C ly_56 rfl wf_X10_25 dX10_goRound_66 ?_
      refine G_iconst C dX10_goRound_69 ?_
      refine G_iadd C dX10_goRound_70 ?_
      refine gP_X10_4 C ly_56 rfl wf_X10_25 dX10_goRound_71 ?_
      have h := h _ rfl
      obtain ⟨s5, e5⟩ : ∃ z, z = up s4 56 4 ((s4 56 4) + 1) := ⟨_, rfl⟩
      rw [← e5] at h ⊢
      refine G_iinc (L' := [rv 56, rv 3, rv 46, rv 52, iv (v4 + 1), iv r1]) C dX10_goRound_74 (by decide) rfl rfl ?_
      refine G_goto (tgt := 3) C dX10_goRound_77 (by decide) ?_
      refine G_drop (i := 5) (L' := [rv 56, rv 3, rv 46, rv 52, iv (v4 + 1), none]) rfl ?_
      exact h
set_option maxRecDepth 20000 in
theorem kb_X10_roundsSinceSame_0 {X : Cx} {d : Nat} {P : Int → Sto → Prop} (C : Ok LY X RX10 cX10_roundsSinceSame 6 d) (r : RetI LY X cX10_roundsSinceSame P) {v1 v2 : Int} {s : Sto} (h : G LY X 2 [rv 56, iv v1, iv v2, iv v1, none, none] [] s) : G LY X 0 [rv 56, iv v1, iv v2, none, none, none] [] s := by
  refine G_iload_n C dX10_roundsSinceSame_0 rfl ?_
  refine G_istore_n (L' := [rv 56, iv v1, iv v2, iv v1, none, none]) C dX10_roundsSinceSame_1 (by decide) rfl ?_
  exact h
set_option maxRecDepth 20000 in
theorem kb_X10_roundsSinceSame_2 {X : Cx} {d : Nat} {P : Int → Sto → Prop} (C : Ok LY X RX10 cX10_roundsSinceSame 6 d) (r : RetI LY X cX10_roundsSinceSame P) {v1 v2 v3 : Int} {s : Sto} (h : ((rg v3) ∧ ((v3 < 0 → P 0 s) ∧ (0 ≤ v3 → G LY X 12 [rv 56, iv v1, iv v2, iv v3, iv 1, iv 0] [] s)))) : G LY X 2 [rv 56, iv v1, iv v2, iv v3, none, none] [] s := by
  refine G_iload_n C dX10_roundsSinceSame_2 rfl ?_
  refine G_if_lt (tgt := 75) C dX10_roundsSinceSame_3 (by decide) h.1 (fun q => ?_) (fun q => ?_)
  · have h := h.2.1 q
    refine G_iconst C dX10_roundsSinceSame_75 ?_
    exact r _ _ _ _ dX10_roundsSinceSame_76 h
  · have h := h.2.2 q
    refine G_iconst C dX10_roundsSinceSame_6 ?_
    refine G_istore (L' := [rv 56, iv v1, iv v2, iv v3, iv 1, none]) C dX10_roundsSinceSame_7 (by decide) rfl ?_
    refine G_iconst C dX10_roundsSinceSame_9 ?_
    refine G_istore (L' := [rv 56, iv v1, iv v2, iv v3, iv 1, iv 0]) C dX10_roundsSinceSame_10 (by decide) rfl ?_
    exact h
set_option maxRecDepth 20000 in
theorem kb_X10_roundsSinceSame_12 {X : Cx} {d : Nat} {P : Int → Sto → Prop} (C : Ok LY X RX10 cX10_roundsSinceSame 6 d) (r : RetI LY X cX10_roundsSinceSame P) {v1 v2 v3 v4 v5 : Int} {s : Sto} (h : ((rg v5 ∧ rg v2) ∧ ((v2 ≤ v5 → ((rg v4) ∧ ((v4 = 0 → G LY X 2 [rv 56, iv v1, iv v2, iv (v3 + (-1)), none, none] [] s) ∧ (v4 ≠ 0 → P ((v1 + 1) - v3) s)))) ∧ (v5 < v2 → ((rg v4) ∧ ((v4 = 0 → ((rg v4) ∧ ((v4 = 0 → G LY X 2 [rv 56, iv v1, iv v2, iv (v3 + (-1)), none, none] [] s) ∧ (v4 ≠ 0 → P ((v1 + 1) - v3) s)))) ∧ (v4 ≠ 0 → ((0 ≤ ((v3 * 20) + v5) ∧ ((v3 * 20) + v5) < 800) ∧ ((0 ≤ v5 ∧ v5 < 20) ∧ ((rg (s 58 ((v3 * 20) + v5)) ∧ rg (s 57 v5)) ∧ (((s 58 ((v3 * 20) + v5)) ≠ (s 57 v5) → G LY X 12 [rv 56, iv v1, iv v2, iv v3, iv 0, iv (v5 + 1)] [] s) ∧ ((s 58 ((v3 * 20) + v5)) = (s 57 v5) → G LY X 12 [rv 56, iv v1, iv v2, iv v3, iv 1, iv (v5 + 1)] [] s)))))))))))) : G LY X 12 [rv 56, iv v1, iv v2, iv v3, iv v4, iv v5] [] s := by
  refine G_iload C dX10_roundsSinceSame_12 rfl ?_
  refine G_iload_n C dX10_roundsSinceSame_14 rfl ?_
  refine G_icmp_ge (tgt := 58) C dX10_roundsSinceSame_15 (by decide) ⟨h.1.1, h.1.2⟩ (fun q => ?_) (fun q => ?_)
  · have h := h.2.1 q
    refine G_iload C dX10_roundsSinceSame_58 rfl ?_
    refine G_if_eq (tgt := 69) C dX10_roundsSinceSame_60 (by decide) h.1 (fun q => ?_) (fun q => ?_)
    · have h := h.2.1 q
      refine G_iinc (L' := [rv 56, iv v1, iv v2, iv (v3 + (-1)), iv v4, iv v5]) C dX10_roundsSinceSame_69 (by decide) rfl rfl ?_
      refine G_goto (tgt := 2) C dX10_roundsSinceSame_72 (by decide) ?_
      refine G_drop (i := 4) (L' := [rv 56, iv v1, iv v2, iv (v3 + (-1)), none, iv v5]) rfl ?_
      refine G_drop (i := 5) (L' := [rv 56, iv v1, iv v2, iv (v3 + (-1)), none, none]) rfl ?_
      exact h
    · have h := h.2.2 q
      refine G_iload_n C dX10_roundsSinceSame_63 rfl ?_
      refine G_iconst C dX10_roundsSinceSame_64 ?_
      refine G_iadd C dX10_roundsSinceSame_65 ?_
      refine G_iload_n C dX10_roundsSinceSame_66 rfl ?_
      refine G_isub C dX10_roundsSinceSame_67 ?_
      exact r _ _ _ _ dX10_roundsSinceSame_68 h
  · have h := h.2.2 q
    refine G_iload C dX10_roundsSinceSame_18 rfl ?_
    refine G_if_eq (tgt := 58) C dX10_roundsSinceSame_20 (by decide) h.1 (fun q => ?_) (fun q => ?_)
    · have h := h.2.1 q
      refine G_iload C dX10_roundsSinceSame_58 rfl ?_
      refine G_if_eq (tgt := 69) C dX10_roundsSinceSame_60 (by decide) h.1 (fun q => ?_) (fun q => ?_)
      · have h := h.2.1 q
        refine G_iinc (L' := [rv 56, iv v1, iv v2, iv (v3 + (-1)), iv v4, iv v5]) C dX10_roundsSinceSame_69 (by decide) rfl rfl ?_
        refine G_goto (tgt := 2) C dX10_roundsSinceSame_72 (by decide) ?_
        refine G_drop (i := 4) (L' := [rv 56, iv v1, iv v2, iv (v3 + (-1)), none, iv v5]) rfl ?_
        refine G_drop (i := 5) (L' := [rv 56, iv v1, iv v2, iv (v3 + (-1)), none, none]) rfl ?_
        exact h
      · have h := h.2.2 q
        refine G_iload_n C dX10_roundsSinceSame_63 rfl ?_
        refine G_iconst C dX10_roundsSinceSame_64 ?_
        refine G_iadd C dX10_roundsSinceSame_65 ?_
        refine G_iload_n C dX10_roundsSinceSame_66 rfl ?_
        refine G_isub C dX10_roundsSinceSame_67 ?_
        exact r _ _ _ _ dX10_roundsSinceSame_68 h
    · have h := h.2.2 q
      refine G_aload_n C dX10_roundsSinceSame_23 rfl ?_
      refine gR_X10_1 C ly_56 rfl wf_X10_15 dX10_roundsSinceSame_24 ?_
      refine G_iload_n C dX10_roundsSinceSame_27 rfl ?_
      refine G_bipush C dX10_roundsSinceSame_28 bi_20 ?_
      refine G_imul C dX10_roundsSinceSame_30 ?_
      refine G_iload C dX10_roundsSinceSame_31 rfl ?_
      refine G_iadd C dX10_roundsSinceSame_33 ?_
      refine G_iald C ly_58 (by decide) h.1 dX10_roundsSinceSame_34 ?_
      have h := h.2
      refine G_aload_n C dX10_roundsSinceSame_35 rfl ?_
      refine gR_X10_0 C ly_56 rfl wf_X10_9 dX10_roundsSinceSame_36 ?_
      refine G_iload C dX10_roundsSinceSame_39 rfl ?_
      refine G_iald C ly_57 (by decide) h.1 dX10_roundsSinceSame_41 ?_
      have h := h.2
      refine G_icmp_ne (tgt := 49) C dX10_roundsSinceSame_42 (by decide) ⟨h.1.1, h.1.2⟩ (fun q => ?_) (fun q => ?_)
      · have h := h.2.1 q
        refine G_iconst C dX10_roundsSinceSame_49 ?_
        refine G_istore (L' := [rv 56, iv v1, iv v2, iv v3, iv 0, iv v5]) C dX10_roundsSinceSame_50 (by decide) rfl ?_
        refine G_iinc (L' := [rv 56, iv v1, iv v2, iv v3, iv 0, iv (v5 + 1)]) C dX10_roundsSinceSame_52 (by decide) rfl rfl ?_
        refine G_goto (tgt := 12) C dX10_roundsSinceSame_55 (by decide) ?_
        exact h
      · have h := h.2.2 q
        refine G_iconst C dX10_roundsSinceSame_45 ?_
        refine G_goto (tgt := 50) C dX10_roundsSinceSame_46 (by decide) ?_
        refine G_istore (L' := [rv 56, iv v1, iv v2, iv v3, iv 1, iv v5]) C dX10_roundsSinceSame_50 (by decide) rfl ?_
        refine G_iinc (L' := [rv 56, iv v1, iv v2, iv v3, iv 1, iv (v5 + 1)]) C dX10_roundsSinceSame_52 (by decide) rfl rfl ?_
        refine G_goto (tgt := 12) C dX10_roundsSinceSame_55 (by decide) ?_
        exact h
set_option maxRecDepth 20000 in
theorem kb_X11_betterOnes_0 {X : Cx} {d : Nat} {P : Int → Sto → Prop} (C : Ok LY X RX11 cX11_betterOnes 6 d) (r : RetI LY X cX11_betterOnes P) {v1 : Int} {s : Sto} (h : (CallI LY d MX7_worthOf [.inr 46, .inl v1] s (fun r1 s1 => G LY X 14 [rv 0, iv v1, iv r1, iv 0, iv 0, none] [] s1))) : G LY X 0 [rv 0, iv v1, none, none, none, none] [] s := by
  refine G_aload_n C dX11_betterOnes_0 rfl ?_
  refine gR_X11_5 C ly_0 rfl wf_X11_40 dX11_betterOnes_1 ?_
  refine G_iload_n C dX11_betterOnes_4 rfl ?_
  refine G_callVI (K := []) (args := [.inl v1]) (T := TX7) (N := 5) C ly_46 rfl (Nat.le_of_ble_eq_true rfl) mo_X7_worthOf wc_X11_197 rfl dX11_betterOnes_5 h (fun r1 s1 h => ?_)
  refine G_istore_n (L' := [rv 0, iv v1, iv r1, none, none, none]) C dX11_betterOnes_8 (by decide) rfl ?_
  refine G_iconst C dX11_betterOnes_9 ?_
  refine G_istore_n (L' := [rv 0, iv v1, iv r1, iv 0, none, none]) C dX11_betterOnes_10 (by decide) rfl ?_
  refine G_iconst C dX11_betterOnes_11 ?_
  refine G_istore (L' := [rv 0, iv v1, iv r1, iv 0, iv 0, none]) C dX11_betterOnes_12 (by decide) rfl ?_
  exact h
set_option maxRecDepth 20000 in
theorem kb_X11_betterOnes_14 {X : Cx} {d : Nat} {P : Int → Sto → Prop} (C : Ok LY X RX11 cX11_betterOnes 6 d) (r : RetI LY X cX11_betterOnes P) {v1 v2 v3 v4 : Int} {s : Sto} (h : ((rg v4 ∧ rg (s 5 0)) ∧ (((s 5 0) ≤ v4 → P v3 s) ∧ (v4 < (s 5 0) → (CallI LY d MX7_worthOf [.inr 46, .inl v4] s (fun r1 s1 => ((0 ≤ v4 ∧ v4 < 20) ∧ ((0 ≤ v1 ∧ v1 < 20) ∧ ((rg (s1 7 v4) ∧ rg (s1 7 v1)) ∧ (((s1 7 v4) ≠ (s1 7 v1) → G LY X 14 [rv 0, iv v1, iv v2, iv v3, iv (v4 + 1), none] [] s1) ∧ ((s1 7 v4) = (s1 7 v1) → ((rg r1 ∧ rg v2) ∧ ((v2 < r1 → G LY X 14 [rv 0, iv v1, iv v2, iv (v3 + 1), iv (v4 + 1), none] [] s1) ∧ (r1 ≤ v2 → ((rg r1 ∧ rg v2) ∧ ((r1 ≠ v2 → G LY X 14 [rv 0, iv v1, iv v2, iv v3, iv (v4 + 1), none] [] s1) ∧ (r1 = v2 → ((rg v4 ∧ rg v1) ∧ ((v1 ≤ v4 → G LY X 14 [rv 0, iv v1, iv v2, iv v3, iv (v4 + 1), none] [] s1) ∧ (v4 < v1 → G LY X 14 [rv 0, iv v1, iv v2, iv (v3 + 1), iv (v4 + 1), none] [] s1)))))))))))))))))))) : G LY X 14 [rv 0, iv v1, iv v2, iv v3, iv v4, none] [] s := by
  refine G_iload C dX11_betterOnes_14 rfl ?_
  refine G_aload_n C dX11_betterOnes_16 rfl ?_
  refine gR_X11_1 C ly_0 rfl wf_X11_19 dX11_betterOnes_17 ?_
  refine gR_X2_5 C ly_3 rfl wf_X11_116 dX11_betterOnes_20 ?_
  refine gI_X6_0 C ly_5 rfl wf_X11_245 dX11_betterOnes_23 ?_
  refine G_icmp_ge (tgt := 95) C dX11_betterOnes_26 (by decide) ⟨h.1.1, h.1.2⟩ (fun q => ?_) (fun q => ?_)
  · have h := h.2.1 q
    refine G_iload_n C dX11_betterOnes_95 rfl ?_
    exact r _ _ _ _ dX11_betterOnes_96 h
  · have h := h.2.2 q
    refine G_aload_n C dX11_betterOnes_29 rfl ?_
    refine gR_X11_5 C ly_0 rfl wf_X11_40 dX11_betterOnes_30 ?_
    refine G_iload C dX11_betterOnes_33 rfl ?_
    refine G_callVI (K := []) (args := [.inl v4]) (T := TX7) (N := 5) C ly_46 rfl (Nat.le_of_ble_eq_true rfl) mo_X7_worthOf wc_X11_197 rfl dX11_betterOnes_35 h (fun r1 s1 h => ?_)
    refine G_istore (L' := [rv 0, iv v1, iv v2, iv v3, iv v4, iv r1]) C dX11_betterOnes_38 (by decide) rfl ?_
    refine G_aload_n C dX11_betterOnes_40 rfl ?_
    refine gR_X11_1 C ly_0 rfl wf_X11_19 dX11_betterOnes_41 ?_
    refine gR_X2_5 C ly_3 rfl wf_X11_116 dX11_betterOnes_44 ?_
    refine gR_X6_2 C ly_5 rfl wf_X11_162 dX11_betterOnes_47 ?_
    refine G_iload C dX11_betterOnes_50 rfl ?_
    refine G_iald C ly_7 (by decide) h.1 dX11_betterOnes_52 ?_
    have h := h.2
    refine G_aload_n C dX11_betterOnes_53 rfl ?_
    refine gR_X11_1 C ly_0 rfl wf_X11_19 dX11_betterOnes_54 ?_
    refine gR_X2_5 C ly_3 rfl wf_X11_116 dX11_betterOnes_57 ?_
    refine gR_X6_2 C ly_5 rfl wf_X11_162 dX11_betterOnes_60 ?_
    refine G_iload_n C dX11_betterOnes_63 rfl ?_
    refine G_iald C ly_7 (by decide) h.1 dX11_betterOnes_64 ?_
    have h := h.2
    refine G_icmp_ne (tgt := 89) C dX11_betterOnes_65 (by decide) ⟨h.1.1, h.1.2⟩ (fun q => ?_) (fun q => ?_)
    · have h := h.2.1 q
      refine G_iinc (L' := [rv 0, iv v1, iv v2, iv v3, iv (v4 + 1), iv r1]) C dX11_betterOnes_89 (by decide) rfl rfl ?_
      refine G_goto (tgt := 14) C dX11_betterOnes_92 (by decide) ?_
      refine G_drop (i := 5) (L' := [rv 0, iv v1, iv v2, iv v3, iv (v4 + 1), none]) rfl ?_
      exact h
    · have h := h.2.2 q
      refine G_iload C dX11_betterOnes_68 rfl ?_
      refine G_iload_n C dX11_betterOnes_70 rfl ?_
      refine G_icmp_gt (tgt := 86) C dX11_betterOnes_71 (by decide) ⟨h.1.1, h.1.2⟩ (fun q => ?_) (fun q => ?_)
      · have h := h.2.1 q
        refine G_iinc (L' := [rv 0, iv v1, iv v2, iv (v3 + 1), iv v4, iv r1]) C dX11_betterOnes_86 (by decide) rfl rfl ?_
        refine G_iinc (L' := [rv 0, iv v1, iv v2, iv (v3 + 1), iv (v4 + 1), iv r1]) C dX11_betterOnes_89 (by decide) rfl rfl ?_
        refine G_goto (tgt := 14) C dX11_betterOnes_92 (by decide) ?_
        refine G_drop (i := 5) (L' := [rv 0, iv v1, iv v2, iv (v3 + 1), iv (v4 + 1), none]) rfl ?_
        exact h
      · have h := h.2.2 q
        refine G_iload C dX11_betterOnes_74 rfl ?_
        refine G_iload_n C dX11_betterOnes_76 rfl ?_
        refine G_icmp_ne (tgt := 89) C dX11_betterOnes_77 (by decide) ⟨h.1.1, h.1.2⟩ (fun q => ?_) (fun q => ?_)
        · have h := h.2.1 q
          refine G_iinc (L' := [rv 0, iv v1, iv v2, iv v3, iv (v4 + 1), iv r1]) C dX11_betterOnes_89 (by decide) rfl rfl ?_
          refine G_goto (tgt := 14) C dX11_betterOnes_92 (by decide) ?_
          refine G_drop (i := 5) (L' := [rv 0, iv v1, iv v2, iv v3, iv (v4 + 1), none]) rfl ?_
          exact h
        · have h := h.2.2 q
          refine G_iload C dX11_betterOnes_80 rfl ?_
          refine G_iload_n C dX11_betterOnes_82 rfl ?_
          refine G_icmp_ge (tgt := 89) C dX11_betterOnes_83 (by decide) ⟨h.1.1, h.1.2⟩ (fun q => ?_) (fun q => ?_)
          · have h := h.2.1 q
            refine G_iinc (L' := [rv 0, iv v1, iv v2, iv v3, iv (v4 + 1), iv r1]) C dX11_betterOnes_89 (by decide) rfl rfl ?_
            refine G_goto (tgt := 14) C dX11_betterOnes_92 (by decide) ?_
            refine G_drop (i := 5) (L' := [rv 0, iv v1, iv v2, iv v3, iv (v4 + 1), none]) rfl ?_
            exact h
          · have h := h.2.2 q
            refine G_iinc (L' := [rv 0, iv v1, iv v2, iv (v3 + 1), iv v4, iv r1]) C dX11_betterOnes_86 (by decide) rfl rfl ?_
            refine G_iinc (L' := [rv 0, iv v1, iv v2, iv (v3 + 1), iv (v4 + 1), iv r1]) C dX11_betterOnes_89 (by decide) rfl rfl ?_
            refine G_goto (tgt := 14) C dX11_betterOnes_92 (by decide) ?_
            refine G_drop (i := 5) (L' := [rv 0, iv v1, iv v2, iv (v3 + 1), iv (v4 + 1), none]) rfl ?_
            exact h
set_option maxRecDepth 20000 in
theorem kb_X0_orderByMerit_0 {X : Cx} {d : Nat} {P : Int → Sto → Prop} (C : Ok LY X RX0 cX0_orderByMerit 7 d) (r : RetI LY X cX0_orderByMerit P) {v1 v2 : Int} {s : Sto} (h : G LY X 5 [rv 59, iv v1, iv v2, iv 0, iv 0, none, none] [] s) : G LY X 0 [rv 59, iv v1, iv v2, none, none, none, none] [] s := by
  refine G_iconst C dX0_orderByMerit_0 ?_
  refine G_istore_n (L' := [rv 59, iv v1, iv v2, iv 0, none, none, none]) C dX0_orderByMerit_1 (by decide) rfl ?_
  refine G_iconst C dX0_orderByMerit_2 ?_
  refine G_istore (L' := [rv 59, iv v1, iv v2, iv 0, iv 0, none, none]) C dX0_orderByMerit_3 (by decide) rfl ?_
  exact h
set_option maxRecDepth 20000 in
theorem kb_X0_orderByMerit_5 {X : Cx} {d : Nat} {P : Int → Sto → Prop} (C : Ok LY X RX0 cX0_orderByMerit 7 d) (r : RetI LY X cX0_orderByMerit P) {v1 v2 v3 v4 : Int} {s : Sto} (h : ((rg v4 ∧ rg v1) ∧ ((v1 ≤ v4 → P v3 s) ∧ (v4 < v1 → G LY X 17 [rv 59, iv v1, iv v2, iv v3, iv v4, iv 0, iv 0] [] s)))) : G LY X 5 [rv 59, iv v1, iv v2, iv v3, iv v4, none, none] [] s := by
  refine G_iload C dX0_orderByMerit_5 rfl ?_
  refine G_iload_n C dX0_orderByMerit_7 rfl ?_
  refine G_icmp_ge (tgt := 72) C dX0_orderByMerit_8 (by decide) ⟨h.1.1, h.1.2⟩ (fun q => ?_) (fun q => ?_)
  · have h := h.2.1 q
    refine G_iload_n C dX0_orderByMerit_72 rfl ?_
    exact r _ _ _ _ dX0_orderByMerit_73 h
  · have h := h.2.2 q
    refine G_iconst C dX0_orderByMerit_11 ?_
    refine G_istore (L' := [rv 59, iv v1, iv v2, iv v3, iv v4, iv 0, none]) C dX0_orderByMerit_12 (by decide) rfl ?_
    refine G_iconst C dX0_orderByMerit_14 ?_
    refine G_istore (L' := [rv 59, iv v1, iv v2, iv v3, iv v4, iv 0, iv 0]) C dX0_orderByMerit_15 (by decide) rfl ?_
    exact h
set_option maxRecDepth 20000 in
theorem kb_X0_orderByMerit_17 {X : Cx} {d : Nat} {P : Int → Sto → Prop} (C : Ok LY X RX0 cX0_orderByMerit 7 d) (r : RetI LY X cX0_orderByMerit P) {v1 v2 v3 v4 v5 v6 : Int} {s : Sto} (h : ((rg v6 ∧ rg v1) ∧ ((v1 ≤ v6 → G LY X 5 [rv 59, iv v1, iv v2, iv (xor_ v3 (xshl v4 (3 * ((v1 - 1) - v5)))), iv (v4 + 1), none, none] [] s) ∧ (v6 < v1 → ((rg v6 ∧ rg v4) ∧ ((v6 = v4 → G LY X 17 [rv 59, iv v1, iv v2, iv v3, iv v4, iv v5, iv (v6 + 1)] [] s) ∧ (v6 ≠ v4 → (CallI LY d MX0_isAheadByMerit [.inr 59, .inl v6, .inl v4, .inl v1, .inl v2] s (fun r1 s1 => ((rg r1) ∧ ((r1 = 0 → G LY X 17 [rv 59, iv v1, iv v2, iv v3, iv v4, iv v5, iv (v6 + 1)] [] s1) ∧ (r1 ≠ 0 → G LY X 17 [rv 59, iv v1, iv v2, iv v3, iv v4, iv (v5 + 1), iv (v6 + 1)] [] s1)))))))))))) : G LY X 17 [rv 59, iv v1, iv v2, iv v3, iv v4, iv v5, iv v6] [] s := by
  refine G_iload C dX0_orderByMerit_17 rfl ?_
  refine G_iload_n C dX0_orderByMerit_19 rfl ?_
  refine G_icmp_ge (tgt := 52) C dX0_orderByMerit_20 (by decide) ⟨h.1.1, h.1.2⟩ (fun q => ?_) (fun q => ?_)
  · have h := h.2.1 q
    refine G_iload_n C dX0_orderByMerit_52 rfl ?_
    refine G_iload C dX0_orderByMerit_53 rfl ?_
    refine G_iconst C dX0_orderByMerit_55 ?_
    refine G_iload_n C dX0_orderByMerit_56 rfl ?_
    refine G_iconst C dX0_orderByMerit_57 ?_
    refine G_isub C dX0_orderByMerit_58 ?_
    refine G_iload C dX0_orderByMerit_59 rfl ?_
    refine G_isub C dX0_orderByMerit_61 ?_
    refine G_imul C dX0_orderByMerit_62 ?_
    refine G_ishl C dX0_orderByMerit_63 ?_
    refine G_ior C dX0_orderByMerit_64 ?_
    refine G_istore_n (L' := [rv 59, iv v1, iv v2, iv (xor_ v3 (xshl v4 (3 * ((v1 - 1) - v5)))), iv v4, iv v5, iv v6]) C dX0_orderByMerit_65 (by decide) rfl ?_
    refine G_iinc (L' := [rv 59, iv v1, iv v2, iv (xor_ v3 (xshl v4 (3 * ((v1 - 1) - v5)))), iv (v4 + 1), iv v5, iv v6]) C dX0_orderByMerit_66 (by decide) rfl rfl ?_
    refine G_goto (tgt := 5) C dX0_orderByMerit_69 (by decide) ?_
    refine G_drop (i := 5) (L' := [rv 59, iv v1, iv v2, iv (xor_ v3 (xshl v4 (3 * ((v1 - 1) - v5)))), iv (v4 + 1), none, iv v6]) rfl ?_
    refine G_drop (i := 6) (L' := [rv 59, iv v1, iv v2, iv (xor_ v3 (xshl v4 (3 * ((v1 - 1) - v5)))), iv (v4 + 1), none, none]) rfl ?_
    exact h
  · have h := h.2.2 q
    refine G_iload C dX0_orderByMerit_23 rfl ?_
    refine G_iload C dX0_orderByMerit_25 rfl ?_
    refine G_icmp_eq (tgt := 46) C dX0_orderByMerit_27 (by decide) ⟨h.1.1, h.1.2⟩ (fun q => ?_) (fun q => ?_)
    · have h := h.2.1 q
      refine G_iinc (L' := [rv 59, iv v1, iv v2, iv v3, iv v4, iv v5, iv (v6 + 1)]) C dX0_orderByMerit_46 (by decide) rfl rfl ?_
      refine G_goto (tgt := 17) C dX0_orderByMerit_49 (by decide) ?_
      exact h
    · have h := h.2.2 q
      refine G_aload_n C dX0_orderByMerit_30 rfl ?_
      refine G_iload C dX0_orderByMerit_31 rfl ?_
      refine G_iload C dX0_orderByMerit_33 rfl ?_
      refine G_iload_n C dX0_orderByMerit_35 rfl ?_
      refine G_iload_n C dX0_orderByMerit_36 rfl ?_
      refine G_callVI (K := []) (args := [.inl v6, .inl v4, .inl v1, .inl v2]) (T := TX0) (N := 11) C ly_59 rfl (Nat.le_of_ble_eq_true rfl) mo_X0_isAheadByMerit wc_X0_85 rfl dX0_orderByMerit_37 h (fun r1 s1 h => ?_)
      refine G_if_eq (tgt := 46) C dX0_orderByMerit_40 (by decide) h.1 (fun q => ?_) (fun q => ?_)
      · have h := h.2.1 q
        refine G_iinc (L' := [rv 59, iv v1, iv v2, iv v3, iv v4, iv v5, iv (v6 + 1)]) C dX0_orderByMerit_46 (by decide) rfl rfl ?_
        refine G_goto (tgt := 17) C dX0_orderByMerit_49 (by decide) ?_
        exact h
      · have h := h.2.2 q
        refine G_iinc (L' := [rv 59, iv v1, iv v2, iv v3, iv v4, iv (v5 + 1), iv v6]) C dX0_orderByMerit_43 (by decide) rfl rfl ?_
        refine G_iinc (L' := [rv 59, iv v1, iv v2, iv v3, iv v4, iv (v5 + 1), iv (v6 + 1)]) C dX0_orderByMerit_46 (by decide) rfl rfl ?_
        refine G_goto (tgt := 17) C dX0_orderByMerit_49 (by decide) ?_
        exact h
set_option maxRecDepth 20000 in
theorem kb_X0_findNearest_0 {X : Cx} {d : Nat} {P : Sto → Prop} (C : Ok LY X RX0 cX0_findNearest 7 d) (r : RetV LY X cX0_findNearest P) {v1 : Int} {s : Sto} (h : (∀ s1 : Sto, s1 = up s 62 0 0 → (∀ s2 : Sto, s2 = up s1 63 0 0 → G LY X 16 [rv 59, iv v1, iv 1, none, none, none, none] [] s2))) : G LY X 0 [rv 59, iv v1, none, none, none, none, none] [] s := by
  refine G_aload_n C dX0_findNearest_0 rfl ?_
  refine gR_X0_2 C ly_59 rfl wf_X0_19 dX0_findNearest_1 ?_
  refine G_iconst C dX0_findNearest_4 ?_
  refine G_iconst C dX0_findNearest_5 ?_
  refine G_iast C ly_62 (by decide) (by decide) dX0_findNearest_6 ?_
  have h := h _ rfl
  obtain ⟨s1, e1⟩ : ∃ z, z = up s 62 0 0 := ⟨_, rfl⟩
  rw [← e1] at h ⊢
  refine G_aload_n C dX0_findNearest_7 rfl ?_
  refine gR_X0_3 C ly_59 rfl wf_X0_22 dX0_findNearest_8 ?_
  refine G_iconst C dX0_findNearest_11 ?_
  refine G_iconst C dX0_findNearest_12 ?_
  refine G_iast C ly_63 (by decide) (by decide) dX0_findNearest_13 ?_
  have h := h _ rfl
  obtain ⟨s2, e2⟩ : ∃ z, z = up s1 63 0 0 := ⟨_, rfl⟩
  rw [← e2] at h ⊢
  refine G_iconst C dX0_findNearest_14 ?_
  refine G_istore_n (L' := [rv 59, iv v1, iv 1, none, none, none, none]) C dX0_findNearest_15 (by decide) rfl ?_
  exact h
set_option maxRecDepth 20000 in
theorem kb_X0_findNearest_16 {X : Cx} {d : Nat} {P : Sto → Prop} (C : Ok LY X RX0 cX0_findNearest 7 d) (r : RetV LY X cX0_findNearest P) {v1 v2 : Int} {s : Sto} (h : ((rg v2) ∧ (((xshl 1 v1) ≤ v2 → P s) ∧ (v2 < (xshl 1 v1) → (CallI LY d MJ6_bitCount_0f7a4 [.inl v2] s (fun r1 s1 => ((0 ≤ v2 ∧ v2 < 256) ∧ (∀ s2 : Sto, s2 = up s1 62 v2 (-1) → G LY X 42 [rv 59, iv v1, iv v2, iv (3 * (r1 - 1)), iv 0, none, none] [] s2)))))))) : G LY X 16 [rv 59, iv v1, iv v2, none, none, none, none] [] s := by
  refine G_iload_n C dX0_findNearest_16 rfl ?_
  refine G_iconst C dX0_findNearest_17 ?_
  refine G_iload_n C dX0_findNearest_18 rfl ?_
  refine G_ishl C dX0_findNearest_19 ?_
  refine G_icmp_ge (tgt := 136) C dX0_findNearest_20 (by decide) ⟨h.1, (oI_rg _)⟩ (fun q => ?_) (fun q => ?_)
  · have h := h.2.1 q
    exact r _ _ _ dX0_findNearest_136 h
  · have h := h.2.2 q
    refine G_iconst C dX0_findNearest_23 ?_
    refine G_iload_n C dX0_findNearest_24 rfl ?_
    refine G_callSI (K := [.inl 3]) (args := [.inl v2]) C (Nat.le_of_ble_eq_true rfl) mo_J6_bitCount_0f7a4 wc_X0_96 rfl dX0_findNearest_25 h (fun r1 s1 h => ?_)
    refine G_iconst C dX0_findNearest_28 ?_
    refine G_isub C dX0_findNearest_29 ?_
    refine G_imul C dX0_findNearest_30 ?_
    refine G_istore_n (L' := [rv 59, iv v1, iv v2, iv (3 * (r1 - 1)), none, none, none]) C dX0_findNearest_31 (by decide) rfl ?_
    refine G_aload_n C dX0_findNearest_32 rfl ?_
    refine gR_X0_2 C ly_59 rfl wf_X0_19 dX0_findNearest_33 ?_
    refine G_iload_n C dX0_findNearest_36 rfl ?_
    refine G_iconst C dX0_findNearest_37 ?_
    refine G_iast C ly_62 (by decide) h.1 dX0_findNearest_38 ?_
    have h := h.2
    have h := h _ rfl
    obtain ⟨s2, e2⟩ : ∃ z, z = up s1 62 v2 (-1) := ⟨_, rfl⟩
    rw [← e2] at h ⊢
    refine G_iconst C dX0_findNearest_39 ?_
    refine G_istore (L' := [rv 59, iv v1, iv v2, iv (3 * (r1 - 1)), iv 0, none, none]) C dX0_findNearest_40 (by decide) rfl ?_
    exact h
set_option maxRecDepth 20000 in
theorem kb_X0_findNearest_42 {X : Cx} {d : Nat} {P : Sto → Prop} (C : Ok LY X RX0 cX0_findNearest 7 d) (r : RetV LY X cX0_findNearest P) {v1 v2 v3 v4 : Int} {s : Sto} (h : ((rg v4 ∧ rg v1) ∧ ((v1 ≤ v4 → G LY X 16 [rv 59, iv v1, iv (v2 + 1), none, none, none, none] [] s) ∧ (v4 < v1 → (((xand (xshr v2 v4) 1) ≠ 1 → G LY X 42 [rv 59, iv v1, iv v2, iv v3, iv (v4 + 1), none, none] [] s) ∧ ((xand (xshr v2 v4) 1) = 1 → (CallI LY d MX0_supportOverAll [.inr 59, .inl v4, .inl (xand v2 (xxor (xshl 1 v4) (-1))), .inl v1] s (fun r1 s1 => ((0 ≤ (xand v2 (xxor (xshl 1 v4) (-1))) ∧ (xand v2 (xxor (xshl 1 v4) (-1))) < 256) ∧ ((0 ≤ v2 ∧ v2 < 256) ∧ ((rg (r1 + (s1 62 (xand v2 (xxor (xshl 1 v4) (-1))))) ∧ rg (s1 62 v2)) ∧ (((r1 + (s1 62 (xand v2 (xxor (xshl 1 v4) (-1))))) ≤ (s1 62 v2) → G LY X 42 [rv 59, iv v1, iv v2, iv v3, iv (v4 + 1), none, none] [] s1) ∧ ((s1 62 v2) < (r1 + (s1 62 (xand v2 (xxor (xshl 1 v4) (-1))))) → ((0 ≤ v2 ∧ v2 < 256) ∧ (∀ s2 : Sto, s2 = up s1 62 v2 (r1 + (s1 62 (xand v2 (xxor (xshl 1 v4) (-1))))) → ((0 ≤ (xand v2 (xxor (xshl 1 v4) (-1))) ∧ (xand v2 (xxor (xshl 1 v4) (-1))) < 256) ∧ ((0 ≤ v2 ∧ v2 < 256) ∧ (∀ s3 : Sto, s3 = up s2 63 v2 (xor_ (xshl v4 v3) (s2 63 (xand v2 (xxor (xshl 1 v4) (-1))))) → G LY X 42 [rv 59, iv v1, iv v2, iv v3, iv (v4 + 1), none, none] [] s3)))))))))))))))))) : G LY X 42 [rv 59, iv v1, iv v2, iv v3, iv v4, none, none] [] s := by
  refine G_iload C dX0_findNearest_42 rfl ?_
  refine G_iload_n C dX0_findNearest_44 rfl ?_
  refine G_icmp_ge (tgt := 130) C dX0_findNearest_45 (by decide) ⟨h.1.1, h.1.2⟩ (fun q => ?_) (fun q => ?_)
  · have h := h.2.1 q
    refine G_iinc (L' := [rv 59, iv v1, iv (v2 + 1), iv v3, iv v4, none, none]) C dX0_findNearest_130 (by decide) rfl rfl ?_
    refine G_goto (tgt := 16) C dX0_findNearest_133 (by decide) ?_
    refine G_drop (i := 3) (L' := [rv 59, iv v1, iv (v2 + 1), none, iv v4, none, none]) rfl ?_
    refine G_drop (i := 4) (L' := [rv 59, iv v1, iv (v2 + 1), none, none, none, none]) rfl ?_
    exact h
  · have h := h.2.2 q
    refine G_iload_n C dX0_findNearest_48 rfl ?_
    refine G_iload C dX0_findNearest_49 rfl ?_
    refine G_ishr C dX0_findNearest_51 ?_
    refine G_iconst C dX0_findNearest_52 ?_
    refine G_iand C dX0_findNearest_53 ?_
    refine G_iconst C dX0_findNearest_54 ?_
    refine G_icmp_ne (tgt := 124) C dX0_findNearest_55 (by decide) ⟨(oI_rg _), (by decide)⟩ (fun q => ?_) (fun q => ?_)
    · have h := h.1 q
      refine G_iinc (L' := [rv 59, iv v1, iv v2, iv v3, iv (v4 + 1), none, none]) C dX0_findNearest_124 (by decide) rfl rfl ?_
      refine G_goto (tgt := 42) C dX0_findNearest_127 (by decide) ?_
      exact h
    · have h := h.2 q
      refine G_iload_n C dX0_findNearest_58 rfl ?_
      refine G_iconst C dX0_findNearest_59 ?_
      refine G_iload C dX0_findNearest_60 rfl ?_
      refine G_ishl C dX0_findNearest_62 ?_
      refine G_iconst C dX0_findNearest_63 ?_
      refine G_ixor C dX0_findNearest_64 ?_
      refine G_iand C dX0_findNearest_65 ?_
      refine G_istore (L' := [rv 59, iv v1, iv v2, iv v3, iv v4, iv (xand v2 (xxor (xshl 1 v4) (-1))), none]) C dX0_findNearest_66 (by decide) rfl ?_
      refine G_aload_n C dX0_findNearest_68 rfl ?_
      refine G_iload C dX0_findNearest_69 rfl ?_
      refine G_iload C dX0_findNearest_71 rfl ?_
      refine G_iload_n C dX0_findNearest_73 rfl ?_
      refine G_callVI (K := []) (args := [.inl v4, .inl (xand v2 (xxor (xshl 1 v4) (-1))), .inl v1]) (T := TX0) (N := 11) C ly_59 rfl (Nat.le_of_ble_eq_true rfl) mo_X0_supportOverAll wc_X0_102 rfl dX0_findNearest_74 h (fun r1 s1 h => ?_)
      refine G_aload_n C dX0_findNearest_77 rfl ?_
      refine gR_X0_2 C ly_59 rfl wf_X0_19 dX0_findNearest_78 ?_
      refine G_iload C dX0_findNearest_81 rfl ?_
      refine G_iald C ly_62 (by decide) h.1 dX0_findNearest_83 ?_
      have h := h.2
      refine G_iadd C dX0_findNearest_84 ?_
      refine G_istore (L' := [rv 59, iv v1, iv v2, iv v3, iv v4, iv (xand v2 (xxor (xshl 1 v4) (-1))), iv (r1 + (s1 62 (xand v2 (xxor (xshl 1 v4) (-1)))))]) C dX0_findNearest_85 (by decide) rfl ?_
      refine G_iload C dX0_findNearest_87 rfl ?_
      refine G_aload_n C dX0_findNearest_89 rfl ?_
      refine gR_X0_2 C ly_59 rfl wf_X0_19 dX0_findNearest_90 ?_
      refine G_iload_n C dX0_findNearest_93 rfl ?_
      refine G_iald C ly_62 (by decide) h.1 dX0_findNearest_94 ?_
      have h := h.2
      refine G_icmp_le (tgt := 124) C dX0_findNearest_95 (by decide) ⟨h.1.1, h.1.2⟩ (fun q => ?_) (fun q => ?_)
      · have h := h.2.1 q
        refine G_iinc (L' := [rv 59, iv v1, iv v2, iv v3, iv (v4 + 1), iv (xand v2 (xxor (xshl 1 v4) (-1))), iv (r1 + (s1 62 (xand v2 (xxor (xshl 1 v4) (-1)))))]) C dX0_findNearest_124 (by decide) rfl rfl ?_
        refine G_goto (tgt := 42) C dX0_findNearest_127 (by decide) ?_
        refine G_drop (i := 5) (L' := [rv 59, iv v1, iv v2, iv v3, iv (v4 + 1), none, iv (r1 + (s1 62 (xand v2 (xxor (xshl 1 v4) (-1)))))]) rfl ?_
        refine G_drop (i := 6) (L' := [rv 59, iv v1, iv v2, iv v3, iv (v4 + 1), none, none]) rfl ?_
        exact h
      · have h := h.2.2 q
        refine G_aload_n C dX0_findNearest_98 rfl ?_
        refine gR_X0_2 C ly_59 rfl wf_X0_19 dX0_findNearest_99 ?_
        refine G_iload_n C dX0_findNearest_102 rfl ?_
        refine G_iload C dX0_findNearest_103 rfl ?_
        refine G_iast C ly_62 (by decide) h.1 dX0_findNearest_105 ?_
        have h := h.2
        have h := h _ rfl
        obtain ⟨s2, e2⟩ : ∃ z, z = up s1 62 v2 (r1 + (s1 62 (xand v2 (xxor (xshl 1 v4) (-1))))) := ⟨_, rfl⟩
        rw [← e2] at h ⊢
        refine G_aload_n C dX0_findNearest_106 rfl ?_
        refine gR_X0_3 C ly_59 rfl wf_X0_22 dX0_findNearest_107 ?_
        refine G_iload_n C dX0_findNearest_110 rfl ?_
        refine G_iload C dX0_findNearest_111 rfl ?_
        refine G_iload_n C dX0_findNearest_113 rfl ?_
        refine G_ishl C dX0_findNearest_114 ?_
        refine G_aload_n C dX0_findNearest_115 rfl ?_
        refine gR_X0_3 C ly_59 rfl wf_X0_22 dX0_findNearest_116 ?_
        refine G_iload C dX0_findNearest_119 rfl ?_
        refine G_iald C ly_63 (by decide) h.1 dX0_findNearest_121 ?_
        have h := h.2
        refine G_ior C dX0_findNearest_122 ?_
        refine G_iast C ly_63 (by decide) h.1 dX0_findNearest_123 ?_
        have h := h.2
        have h := h _ rfl
        obtain ⟨s3, e3⟩ : ∃ z, z = up s2 63 v2 (xor_ (xshl v4 v3) (s2 63 (xand v2 (xxor (xshl 1 v4) (-1))))) := ⟨_, rfl⟩
        rw [← e3] at h ⊢
        refine G_iinc (L' := [rv 59, iv v1, iv v2, iv v3, iv (v4 + 1), iv (xand v2 (xxor (xshl 1 v4) (-1))), iv (r1 + (s1 62 (xand v2 (xxor (xshl 1 v4) (-1)))))]) C dX0_findNearest_124 (by decide) rfl rfl ?_
        refine G_goto (tgt := 42) C dX0_findNearest_127 (by decide) ?_
        refine G_drop (i := 5) (L' := [rv 59, iv v1, iv v2, iv v3, iv (v4 + 1), none, iv (r1 + (s1 62 (xand v2 (xxor (xshl 1 v4) (-1)))))]) rfl ?_
        refine G_drop (i := 6) (L' := [rv 59, iv v1, iv v2, iv v3, iv (v4 + 1), none, none]) rfl ?_
        exact h
set_option maxRecDepth 20000 in
theorem kb_X0_beats_0 {X : Cx} {d : Nat} {P : Int → Sto → Prop} (C : Ok LY X RX0 cX0_beats 3 d) (r : RetZ LY X cX0_beats P) {v1 v2 : Int} {s : Sto} (h : (CallI LY d MX0_supportOf [.inr 59, .inl v1, .inl v2] s (fun r1 s1 => (CallI LY d MX0_supportOf [.inr 59, .inl v2, .inl v1] s1 (fun r2 s2 => ((rg r1 ∧ rg r2) ∧ ((r1 ≤ r2 → P 0 s2) ∧ (r2 < r1 → P 1 s2)))))))) : G LY X 0 [rv 59, iv v1, iv v2] [] s := by
  refine G_aload_n C dX0_beats_0 rfl ?_
  refine G_iload_n C dX0_beats_1 rfl ?_
  refine G_iload_n C dX0_beats_2 rfl ?_
  refine G_callVI (K := []) (args := [.inl v1, .inl v2]) (T := TX0) (N := 11) C ly_59 rfl (Nat.le_of_ble_eq_true rfl) mo_X0_supportOf wc_X0_47 rfl dX0_beats_3 h (fun r1 s1 h => ?_)
  refine G_aload_n C dX0_beats_6 rfl ?_
  refine G_iload_n C dX0_beats_7 rfl ?_
  refine G_iload_n C dX0_beats_8 rfl ?_
  refine G_callVI (K := [.inl r1]) (args := [.inl v2, .inl v1]) (T := TX0) (N := 11) C ly_59 rfl (Nat.le_of_ble_eq_true rfl) mo_X0_supportOf wc_X0_47 rfl dX0_beats_9 h (fun r2 s2 h => ?_)
  refine G_icmp_le (tgt := 19) C dX0_beats_12 (by decide) ⟨h.1.1, h.1.2⟩ (fun q => ?_) (fun q => ?_)
  · have h := h.2.1 q
    refine G_iconst C dX0_beats_19 ?_
    exact r _ _ _ _ dX0_beats_20 (by decide) h
  · have h := h.2.2 q
    refine G_iconst C dX0_beats_15 ?_
    refine G_goto (tgt := 20) C dX0_beats_16 (by decide) ?_
    exact r _ _ _ _ dX0_beats_20 (by decide) h
set_option maxRecDepth 20000 in
theorem kb_X0_notePassed_0 {X : Cx} {d : Nat} {P : Sto → Prop} (C : Ok LY X RX0 cX0_notePassed 7 d) (r : RetV LY X cX0_notePassed P) {v2 : Int} {s : Sto} (h : G LY X 2 [rv 59, rv 3, iv v2, iv 0, none, none, none] [] s) : G LY X 0 [rv 59, rv 3, iv v2, none, none, none, none] [] s := by
  refine G_iconst C dX0_notePassed_0 ?_
  refine G_istore_n (L' := [rv 59, rv 3, iv v2, iv 0, none, none, none]) C dX0_notePassed_1 (by decide) rfl ?_
  exact h
set_option maxRecDepth 20000 in
theorem kb_X0_notePassed_2 {X : Cx} {d : Nat} {P : Sto → Prop} (C : Ok LY X RX0 cX0_notePassed 7 d) (r : RetV LY X cX0_notePassed P) {v2 v3 : Int} {s : Sto} (h : ((rg v3 ∧ rg (s 3 11)) ∧ (((s 3 11) ≤ v3 → P s) ∧ (v3 < (s 3 11) → G LY X 16 [rv 59, rv 3, iv v2, iv v3, iv 1, iv 0, none] [] s)))) : G LY X 2 [rv 59, rv 3, iv v2, iv v3, none, none, none] [] s := by
  refine G_iload_n C dX0_notePassed_2 rfl ?_
  refine G_aload_n C dX0_notePassed_3 rfl ?_
  refine gI_X2_11 C ly_3 rfl wf_X0_51 dX0_notePassed_4 ?_
  refine G_icmp_ge (tgt := 97) C dX0_notePassed_7 (by decide) ⟨h.1.1, h.1.2⟩ (fun q => ?_) (fun q => ?_)
  · have h := h.2.1 q
    exact r _ _ _ dX0_notePassed_97 h
  · have h := h.2.2 q
    refine G_iconst C dX0_notePassed_10 ?_
    refine G_istore (L' := [rv 59, rv 3, iv v2, iv v3, iv 1, none, none]) C dX0_notePassed_11 (by decide) rfl ?_
    refine G_iconst C dX0_notePassed_13 ?_
    refine G_istore (L' := [rv 59, rv 3, iv v2, iv v3, iv 1, iv 0, none]) C dX0_notePassed_14 (by decide) rfl ?_
    exact h
set_option maxRecDepth 20000 in
theorem kb_X0_notePassed_16 {X : Cx} {d : Nat} {P : Sto → Prop} (C : Ok LY X RX0 cX0_notePassed 7 d) (r : RetV LY X cX0_notePassed P) {v2 v3 v4 v5 : Int} {s : Sto} (h : ((rg v5 ∧ rg (s 3 0)) ∧ (((s 3 0) ≤ v5 → G LY X 2 [rv 59, rv 3, iv v2, iv (v3 + 1), none, none, none] [] s) ∧ (v5 < (s 3 0) → ((0 ≤ v3 ∧ v3 < 12) ∧ (CallI LY d MX5_orderLetter [.inl (s 14 v3), .inl (s 3 0), .inl v5] s (fun r1 s1 => ((rg r1 ∧ rg v2) ∧ ((r1 = v2 → (((xand v4 0) = 0 → ((0 ≤ ((v3 * 8) + r1) ∧ ((v3 * 8) + r1) < 96) ∧ (∀ s2 : Sto, s2 = up s1 67 ((v3 * 8) + r1) 0 → G LY X 16 [rv 59, rv 3, iv v2, iv v3, iv (xand v4 0), iv (v5 + 1), none] [] s2))) ∧ ((xand v4 0) ≠ 0 → ((0 ≤ v3 ∧ v3 < 12) ∧ ((0 ≤ ((v3 * 8) + r1) ∧ ((v3 * 8) + r1) < 96) ∧ (∀ s3 : Sto, s3 = up s1 67 ((v3 * 8) + r1) (s1 15 v3) → G LY X 16 [rv 59, rv 3, iv v2, iv v3, iv (xand v4 0), iv (v5 + 1), none] [] s3)))))) ∧ (r1 ≠ v2 → (((xand v4 1) = 0 → ((0 ≤ ((v3 * 8) + r1) ∧ ((v3 * 8) + r1) < 96) ∧ (∀ s4 : Sto, s4 = up s1 67 ((v3 * 8) + r1) 0 → G LY X 16 [rv 59, rv 3, iv v2, iv v3, iv (xand v4 1), iv (v5 + 1), none] [] s4))) ∧ ((xand v4 1) ≠ 0 → ((0 ≤ v3 ∧ v3 < 12) ∧ ((0 ≤ ((v3 * 8) + r1) ∧ ((v3 * 8) + r1) < 96) ∧ (∀ s5 : Sto, s5 = up s1 67 ((v3 * 8) + r1) (s1 15 v3) → G LY X 16 [rv 59, rv 3, iv v2, iv v3, iv (xand v4 1), iv (v5 + 1), none] [] s5))))))))))))))) : G LY X 16 [rv 59, rv 3, iv v2, iv v3, iv v4, iv v5, none] [] s := by
  refine G_iload C dX0_notePassed_16 rfl ?_
  refine G_aload_n C dX0_notePassed_18 rfl ?_
  refine gI_X2_0 C ly_3 rfl wf_X0_56 dX0_notePassed_19 ?_
  refine G_icmp_ge (tgt := 91) C dX0_notePassed_22 (by decide) ⟨h.1.1, h.1.2⟩ (fun q => ?_) (fun q => ?_)
  · have h := h.2.1 q
    refine G_iinc (L' := [rv 59, rv 3, iv v2, iv (v3 + 1), iv v4, iv v5, none]) C dX0_notePassed_91 (by decide) rfl rfl ?_
    refine G_goto (tgt := 2) C dX0_notePassed_94 (by decide) ?_
    refine G_drop (i := 4) (L' := [rv 59, rv 3, iv v2, iv (v3 + 1), none, iv v5, none]) rfl ?_
    refine G_drop (i := 5) (L' := [rv 59, rv 3, iv v2, iv (v3 + 1), none, none, none]) rfl ?_
    exact h
  · have h := h.2.2 q
    refine G_aload_n C dX0_notePassed_25 rfl ?_
    refine gR_X2_12 C ly_3 rfl wf_X0_59 dX0_notePassed_26 ?_
    refine G_iload_n C dX0_notePassed_29 rfl ?_
    refine G_iald C ly_14 (by decide) h.1 dX0_notePassed_30 ?_
    have h := h.2
    refine G_aload_n C dX0_notePassed_31 rfl ?_
    refine gI_X2_0 C ly_3 rfl wf_X0_56 dX0_notePassed_32 ?_
    refine G_iload C dX0_notePassed_35 rfl ?_
    refine G_callSI (K := []) (args := [.inl (s 14 v3), .inl (s 3 0), .inl v5]) C (Nat.le_of_ble_eq_true rfl) mo_X5_orderLetter wc_X0_62 rfl dX0_notePassed_37 h (fun r1 s1 h => ?_)
    refine G_istore (L' := [rv 59, rv 3, iv v2, iv v3, iv v4, iv v5, iv r1]) C dX0_notePassed_40 (by decide) rfl ?_
    refine G_iload C dX0_notePassed_42 rfl ?_
    refine G_iload C dX0_notePassed_44 rfl ?_
    refine G_iload_n C dX0_notePassed_46 rfl ?_
    refine G_icmp_eq (tgt := 54) C dX0_notePassed_47 (by decide) ⟨h.1.1, h.1.2⟩ (fun q => ?_) (fun q => ?_)
    · have h := h.2.1 q
      refine G_iconst C dX0_notePassed_54 ?_
      refine G_iand C dX0_notePassed_55 ?_
      refine G_istore (L' := [rv 59, rv 3, iv v2, iv v3, iv (xand v4 0), iv v5, iv r1]) C dX0_notePassed_56 (by decide) rfl ?_
      refine G_aload_n C dX0_notePassed_58 rfl ?_
      refine gR_X0_7 C ly_59 rfl wf_X0_34 dX0_notePassed_59 ?_
      refine G_iload_n C dX0_notePassed_62 rfl ?_
      refine G_bipush C dX0_notePassed_63 bi_8 ?_
      refine G_imul C dX0_notePassed_65 ?_
      refine G_iload C dX0_notePassed_66 rfl ?_
      refine G_iadd C dX0_notePassed_68 ?_
      refine G_iload C dX0_notePassed_69 rfl ?_
      refine G_if_eq (tgt := 83) C dX0_notePassed_71 (by decide) (oI_rg _) (fun q => ?_) (fun q => ?_)
      · have h := h.1 q
        refine G_iconst C dX0_notePassed_83 ?_
        refine G_iast C ly_67 (by decide) h.1 dX0_notePassed_84 ?_
        have h := h.2
        have h := h _ rfl
        obtain ⟨s2, e2⟩ : ∃ z, z = up s1 67 ((v3 * 8) + r1) 0 := ⟨_, rfl⟩
        rw [← e2] at h ⊢
        refine G_iinc (L' := [rv 59, rv 3, iv v2, iv v3, iv (xand v4 0), iv (v5 + 1), iv r1]) C dX0_notePassed_85 (by decide) rfl rfl ?_
        refine G_goto (tgt := 16) C dX0_notePassed_88 (by decide) ?_
        refine G_drop (i := 6) (L' := [rv 59, rv 3, iv v2, iv v3, iv (xand v4 0), iv (v5 + 1), none]) rfl ?_
        exact h
      · have h := h.2 q
        refine G_aload_n C dX0_notePassed_74 rfl ?_
        refine gR_X2_13 C ly_3 rfl wf_X0_68 dX0_notePassed_75 ?_
        refine G_iload_n C dX0_notePassed_78 rfl ?_
        refine G_iald C ly_15 (by decide) h.1 dX0_notePassed_79 ?_
        have h := h.2
        refine G_goto (tgt := 84) C dX0_notePassed_80 (by decide) ?_
        refine G_iast C ly_67 (by decide) h.1 dX0_notePassed_84 ?_
        have h := h.2
        have h := h _ rfl
        obtain ⟨s3, e3⟩ : ∃ z, z = up s1 67 ((v3 * 8) + r1) (s1 15 v3) := ⟨_, rfl⟩
        rw [← e3] at h ⊢
        refine G_iinc (L' := [rv 59, rv 3, iv v2, iv v3, iv (xand v4 0), iv (v5 + 1), iv r1]) C dX0_notePassed_85 (by decide) rfl rfl ?_
        refine G_goto (tgt := 16) C dX0_notePassed_88 (by decide) ?_
        refine G_drop (i := 6) (L' := [rv 59, rv 3, iv v2, iv v3, iv (xand v4 0), iv (v5 + 1), none]) rfl ?_
        exact h
    · have h := h.2.2 q
      refine G_iconst C dX0_notePassed_50 ?_
      refine G_goto (tgt := 55) C dX0_notePassed_51 (by decide) ?_
      refine G_iand C dX0_notePassed_55 ?_
      refine G_istore (L' := [rv 59, rv 3, iv v2, iv v3, iv (xand v4 1), iv v5, iv r1]) C dX0_notePassed_56 (by decide) rfl ?_
      refine G_aload_n C dX0_notePassed_58 rfl ?_
      refine gR_X0_7 C ly_59 rfl wf_X0_34 dX0_notePassed_59 ?_
      refine G_iload_n C dX0_notePassed_62 rfl ?_
      refine G_bipush C dX0_notePassed_63 bi_8 ?_
      refine G_imul C dX0_notePassed_65 ?_
      refine G_iload C dX0_notePassed_66 rfl ?_
      refine G_iadd C dX0_notePassed_68 ?_
      refine G_iload C dX0_notePassed_69 rfl ?_
      refine G_if_eq (tgt := 83) C dX0_notePassed_71 (by decide) (oI_rg _) (fun q => ?_) (fun q => ?_)
      · have h := h.1 q
        refine G_iconst C dX0_notePassed_83 ?_
        refine G_iast C ly_67 (by decide) h.1 dX0_notePassed_84 ?_
        have h := h.2
        have h := h _ rfl
        obtain ⟨s4, e4⟩ : ∃ z, z = up s1 67 ((v3 * 8) + r1) 0 := ⟨_, rfl⟩
        rw [← e4] at h ⊢
        refine G_iinc (L' := [rv 59, rv 3, iv v2, iv v3, iv (xand v4 1), iv (v5 + 1), iv r1]) C dX0_notePassed_85 (by decide) rfl rfl ?_
        refine G_goto (tgt := 16) C dX0_notePassed_88 (by decide) ?_
        refine G_drop (i := 6) (L' := [rv 59, rv 3, iv v2, iv v3, iv (xand v4 1), iv (v5 + 1), none]) rfl ?_
        exact h
      · have h := h.2 q
        refine G_aload_n C dX0_notePassed_74 rfl ?_
        refine gR_X2_13 C ly_3 rfl wf_X0_68 dX0_notePassed_75 ?_
        refine G_iload_n C dX0_notePassed_78 rfl ?_
        refine G_iald C ly_15 (by decide) h.1 dX0_notePassed_79 ?_
        have h := h.2
        refine G_goto (tgt := 84) C dX0_notePassed_80 (by decide) ?_
        refine G_iast C ly_67 (by decide) h.1 dX0_notePassed_84 ?_
        have h := h.2
        have h := h _ rfl
        obtain ⟨s5, e5⟩ : ∃ z, z = up s1 67 ((v3 * 8) + r1) (s1 15 v3) := ⟨_, rfl⟩
        rw [← e5] at h ⊢
        refine G_iinc (L' := [rv 59, rv 3, iv v2, iv v3, iv (xand v4 1), iv (v5 + 1), iv r1]) C dX0_notePassed_85 (by decide) rfl rfl ?_
        refine G_goto (tgt := 16) C dX0_notePassed_88 (by decide) ?_
        refine G_drop (i := 6) (L' := [rv 59, rv 3, iv v2, iv v3, iv (xand v4 1), iv (v5 + 1), none]) rfl ?_
        exact h
set_option maxRecDepth 20000 in
theorem kb_X0_splitAround_0 {X : Cx} {d : Nat} {P : Sto → Prop} (C : Ok LY X RX0 cX0_splitAround 7 d) (r : RetV LY X cX0_splitAround P) {v1 v2 : Int} {s : Sto} (h : (CallV LY d MX0_findNearest [.inr 59, .inl v1] s (fun s1 => G LY X 20 [rv 59, iv v1, iv v2, iv (xand ((xshl 1 v1) - 1) (xxor (xshl 1 v2) (-1))), iv 0, none, none] [] s1))) : G LY X 0 [rv 59, iv v1, iv v2, none, none, none, none] [] s := by
  refine G_aload_n C dX0_splitAround_0 rfl ?_
  refine G_iload_n C dX0_splitAround_1 rfl ?_
  refine G_callVV (K := []) (args := [.inl v1]) (T := TX0) (N := 11) C ly_59 rfl (Nat.le_of_ble_eq_true rfl) mo_X0_findNearest wc_X0_78 rfl dX0_splitAround_2 h (fun s1 h => ?_)
  refine G_iconst C dX0_splitAround_5 ?_
  refine G_iload_n C dX0_splitAround_6 rfl ?_
  refine G_ishl C dX0_splitAround_7 ?_
  refine G_iconst C dX0_splitAround_8 ?_
  refine G_isub C dX0_splitAround_9 ?_
  refine G_iconst C dX0_splitAround_10 ?_
  refine G_iload_n C dX0_splitAround_11 rfl ?_
  refine G_ishl C dX0_splitAround_12 ?_
  refine G_iconst C dX0_splitAround_13 ?_
  refine G_ixor C dX0_splitAround_14 ?_
  refine G_iand C dX0_splitAround_15 ?_
  refine G_istore_n (L' := [rv 59, iv v1, iv v2, iv (xand ((xshl 1 v1) - 1) (xxor (xshl 1 v2) (-1))), none, none, none]) C dX0_splitAround_16 (by decide) rfl ?_
  refine G_iconst C dX0_splitAround_17 ?_
  refine G_istore (L' := [rv 59, iv v1, iv v2, iv (xand ((xshl 1 v1) - 1) (xxor (xshl 1 v2) (-1))), iv 0, none, none]) C dX0_splitAround_18 (by decide) rfl ?_
  exact h
set_option maxRecDepth 20000 in
theorem kb_X0_splitAround_20 {X : Cx} {d : Nat} {P : Sto → Prop} (C : Ok LY X RX0 cX0_splitAround 7 d) (r : RetV LY X cX0_splitAround P) {v1 v2 v3 v4 : Int} {s : Sto} (h : ((rg v4 ∧ rg v3) ∧ ((v3 < v4 → P s) ∧ (v4 ≤ v3 → (((xand v4 (xxor v3 (-1))) ≠ 0 → G LY X 20 [rv 59, iv v1, iv v2, iv v3, iv (v4 + 1), none, none] [] s) ∧ ((xand v4 (xxor v3 (-1))) = 0 → (CallI LY d MJ6_bitCount_0f7a4 [.inl (xand v3 (xxor v4 (-1)))] s (fun r1 s1 => ((0 ≤ v4 ∧ v4 < 256) ∧ ((0 ≤ (xand v3 (xxor v4 (-1))) ∧ (xand v3 (xxor v4 (-1))) < 256) ∧ (CallI LY d MX0_supportAcross [.inr 59, .inl v4, .inl (xand v3 (xxor v4 (-1))), .inl v1] s1 (fun r2 s2 => ((0 ≤ v4 ∧ v4 < 256) ∧ (∀ s3 : Sto, s3 = up s2 64 v4 (((s1 62 v4) + (s1 62 (xand v3 (xxor v4 (-1))))) + r2) → ((0 ≤ v4 ∧ v4 < 256) ∧ ((0 ≤ (xand v3 (xxor v4 (-1))) ∧ (xand v3 (xxor v4 (-1))) < 256) ∧ ((0 ≤ v4 ∧ v4 < 256) ∧ (∀ s4 : Sto, s4 = up s3 65 v4 (xor_ (xor_ (xshl (s3 63 v4) ((3 * r1) + 3)) (xshl v2 (3 * r1))) (s3 63 (xand v3 (xxor v4 (-1))))) → G LY X 20 [rv 59, iv v1, iv v2, iv v3, iv (v4 + 1), none, none] [] s4)))))))))))))))))) : G LY X 20 [rv 59, iv v1, iv v2, iv v3, iv v4, none, none] [] s := by
  refine G_iload C dX0_splitAround_20 rfl ?_
  refine G_iload_n C dX0_splitAround_22 rfl ?_
  refine G_icmp_gt (tgt := 122) C dX0_splitAround_23 (by decide) ⟨h.1.1, h.1.2⟩ (fun q => ?_) (fun q => ?_)
  · have h := h.2.1 q
    exact r _ _ _ dX0_splitAround_122 h
  · have h := h.2.2 q
    refine G_iload C dX0_splitAround_26 rfl ?_
    refine G_iload_n C dX0_splitAround_28 rfl ?_
    refine G_iconst C dX0_splitAround_29 ?_
    refine G_ixor C dX0_splitAround_30 ?_
    refine G_iand C dX0_splitAround_31 ?_
    refine G_if_ne (tgt := 116) C dX0_splitAround_32 (by decide) (oI_rg _) (fun q => ?_) (fun q => ?_)
    · have h := h.1 q
      refine G_iinc (L' := [rv 59, iv v1, iv v2, iv v3, iv (v4 + 1), none, none]) C dX0_splitAround_116 (by decide) rfl rfl ?_
      refine G_goto (tgt := 20) C dX0_splitAround_119 (by decide) ?_
      exact h
    · have h := h.2 q
      refine G_iload_n C dX0_splitAround_35 rfl ?_
      refine G_iload C dX0_splitAround_36 rfl ?_
      refine G_iconst C dX0_splitAround_38 ?_
      refine G_ixor C dX0_splitAround_39 ?_
      refine G_iand C dX0_splitAround_40 ?_
      refine G_istore (L' := [rv 59, iv v1, iv v2, iv v3, iv v4, iv (xand v3 (xxor v4 (-1))), none]) C dX0_splitAround_41 (by decide) rfl ?_
      refine G_iconst C dX0_splitAround_43 ?_
      refine G_iload C dX0_splitAround_44 rfl ?_
      refine G_callSI (K := [.inl 3]) (args := [.inl (xand v3 (xxor v4 (-1)))]) C (Nat.le_of_ble_eq_true rfl) mo_J6_bitCount_0f7a4 wc_X0_96 rfl dX0_splitAround_46 h (fun r1 s1 h => ?_)
      refine G_imul C dX0_splitAround_49 ?_
      refine G_istore (L' := [rv 59, iv v1, iv v2, iv v3, iv v4, iv (xand v3 (xxor v4 (-1))), iv (3 * r1)]) C dX0_splitAround_50 (by decide) rfl ?_
      refine G_aload_n C dX0_splitAround_52 rfl ?_
      refine gR_X0_4 C ly_59 rfl wf_X0_25 dX0_splitAround_53 ?_
      refine G_iload C dX0_splitAround_56 rfl ?_
      refine G_aload_n C dX0_splitAround_58 rfl ?_
      refine gR_X0_2 C ly_59 rfl wf_X0_19 dX0_splitAround_59 ?_
      refine G_iload C dX0_splitAround_62 rfl ?_
      refine G_iald C ly_62 (by decide) h.1 dX0_splitAround_64 ?_
      have h := h.2
      refine G_aload_n C dX0_splitAround_65 rfl ?_
      refine gR_X0_2 C ly_59 rfl wf_X0_19 dX0_splitAround_66 ?_
      refine G_iload C dX0_splitAround_69 rfl ?_
      refine G_iald C ly_62 (by decide) h.1 dX0_splitAround_71 ?_
      have h := h.2
      refine G_iadd C dX0_splitAround_72 ?_
      refine G_aload_n C dX0_splitAround_73 rfl ?_
      refine G_iload C dX0_splitAround_74 rfl ?_
      refine G_iload C dX0_splitAround_76 rfl ?_
      refine G_iload_n C dX0_splitAround_78 rfl ?_
      refine G_callVI (K := [.inl ((s1 62 v4) + (s1 62 (xand v3 (xxor v4 (-1))))), .inl v4, .inr 64]) (args := [.inl v4, .inl (xand v3 (xxor v4 (-1))), .inl v1]) (T := TX0) (N := 11) C ly_59 rfl (Nat.le_of_ble_eq_true rfl) mo_X0_supportAcross wc_X0_143 rfl dX0_splitAround_79 h (fun r2 s2 h => ?_)
      refine G_iadd C dX0_splitAround_82 ?_
      refine G_iast C ly_64 (by decide) h.1 dX0_splitAround_83 ?_
      have h := h.2
      have h := h _ rfl
      obtain ⟨s3, e3⟩ : ∃ z, z = up s2 64 v4 (((s1 62 v4) + (s1 62 (xand v3 (xxor v4 (-1))))) + r2) := ⟨_, rfl⟩
      rw [← e3] at h ⊢
      refine G_aload_n C dX0_splitAround_84 rfl ?_
      refine gR_X0_5 C ly_59 rfl wf_X0_28 dX0_splitAround_85 ?_
      refine G_iload C dX0_splitAround_88 rfl ?_
      refine G_aload_n C dX0_splitAround_90 rfl ?_
      refine gR_X0_3 C ly_59 rfl wf_X0_22 dX0_splitAround_91 ?_
      refine G_iload C dX0_splitAround_94 rfl ?_
      refine G_iald C ly_63 (by decide) h.1 dX0_splitAround_96 ?_
      have h := h.2
      refine G_iload C dX0_splitAround_97 rfl ?_
      refine G_iconst C dX0_splitAround_99 ?_
      refine G_iadd C dX0_splitAround_100 ?_
      refine G_ishl C dX0_splitAround_101 ?_
      refine G_iload_n C dX0_splitAround_102 rfl ?_
      refine G_iload C dX0_splitAround_103 rfl ?_
      refine G_ishl C dX0_splitAround_105 ?_
      refine G_ior C dX0_splitAround_106 ?_
      refine G_aload_n C dX0_splitAround_107 rfl ?_
      refine gR_X0_3 C ly_59 rfl wf_X0_22 dX0_splitAround_108 ?_
      refine G_iload C dX0_splitAround_111 rfl ?_
      refine G_iald C ly_63 (by decide) h.1 dX0_splitAround_113 ?_
      have h := h.2
      refine G_ior C dX0_splitAround_114 ?_
      refine G_iast C ly_65 (by decide) h.1 dX0_splitAround_115 ?_
      have h := h.2
      have h := h _ rfl
      obtain ⟨s4, e4⟩ : ∃ z, z = up s3 65 v4 (xor_ (xor_ (xshl (s3 63 v4) ((3 * r1) + 3)) (xshl v2 (3 * r1))) (s3 63 (xand v3 (xxor v4 (-1))))) := ⟨_, rfl⟩
      rw [← e4] at h ⊢
      refine G_iinc (L' := [rv 59, iv v1, iv v2, iv v3, iv (v4 + 1), iv (xand v3 (xxor v4 (-1))), iv (3 * r1)]) C dX0_splitAround_116 (by decide) rfl rfl ?_
      refine G_goto (tgt := 20) C dX0_splitAround_119 (by decide) ?_
      refine G_drop (i := 5) (L' := [rv 59, iv v1, iv v2, iv v3, iv (v4 + 1), none, iv (3 * r1)]) rfl ?_
      refine G_drop (i := 6) (L' := [rv 59, iv v1, iv v2, iv v3, iv (v4 + 1), none, none]) rfl ?_
      exact h
set_option maxRecDepth 20000 in
theorem kb_X0_buyWithoutVoters_0 {X : Cx} {d : Nat} {P : Sto → Prop} (C : Ok LY X RX0 cX0_buyWithoutVoters 4 d) (r : RetV LY X cX0_buyWithoutVoters P) {v2 v3 : Int} {s : Sto} (h : (CallI LY d MX5_orderPlace [.inl (s 3 2), .inl (s 3 0), .inl v2] s (fun r1 s1 => (CallI LY d MX5_orderPlace [.inl (s1 3 2), .inl (s1 3 0), .inl v3] s1 (fun r2 s2 => ((rg r1 ∧ rg r2) ∧ ((r2 ≤ r1 → P s2) ∧ (r1 < r2 → (∀ s3 : Sto, s3 = up s2 59 9 0 → (∀ s4 : Sto, s4 = up s3 59 10 0 → P s4)))))))))) : G LY X 0 [rv 59, rv 3, iv v2, iv v3] [] s := by
  refine G_aload_n C dX0_buyWithoutVoters_0 rfl ?_
  refine gI_X2_2 C ly_3 rfl wf_X0_71 dX0_buyWithoutVoters_1 ?_
  refine G_aload_n C dX0_buyWithoutVoters_4 rfl ?_
  refine gI_X2_0 C ly_3 rfl wf_X0_56 dX0_buyWithoutVoters_5 ?_
  refine G_iload_n C dX0_buyWithoutVoters_8 rfl ?_
  refine G_callSI (K := []) (args := [.inl (s 3 2), .inl (s 3 0), .inl v2]) C (Nat.le_of_ble_eq_true rfl) mo_X5_orderPlace wc_X0_137 rfl dX0_buyWithoutVoters_9 h (fun r1 s1 h => ?_)
  refine G_aload_n C dX0_buyWithoutVoters_12 rfl ?_
  refine gI_X2_2 C ly_3 rfl wf_X0_71 dX0_buyWithoutVoters_13 ?_
  refine G_aload_n C dX0_buyWithoutVoters_16 rfl ?_
  refine gI_X2_0 C ly_3 rfl wf_X0_56 dX0_buyWithoutVoters_17 ?_
  refine G_iload_n C dX0_buyWithoutVoters_20 rfl ?_
  refine G_callSI (K := [.inl r1]) (args := [.inl (s1 3 2), .inl (s1 3 0), .inl v3]) C (Nat.le_of_ble_eq_true rfl) mo_X5_orderPlace wc_X0_137 rfl dX0_buyWithoutVoters_21 h (fun r2 s2 h => ?_)
  refine G_icmp_ge (tgt := 37) C dX0_buyWithoutVoters_24 (by decide) ⟨h.1.1, h.1.2⟩ (fun q => ?_) (fun q => ?_)
  · have h := h.2.1 q
    exact r _ _ _ dX0_buyWithoutVoters_37 h
  · have h := h.2.2 q
    refine G_aload_n C dX0_buyWithoutVoters_27 rfl ?_
    refine G_iconst C dX0_buyWithoutVoters_28 ?_
    refine gP_X0_9 C ly_59 rfl wf_X0_40 dX0_buyWithoutVoters_29 ?_
    have h := h _ rfl
    obtain ⟨s3, e3⟩ : ∃ z, z = up s2 59 9 0 := ⟨_, rfl⟩
    rw [← e3] at h ⊢
    refine G_aload_n C dX0_buyWithoutVoters_32 rfl ?_
    refine G_iconst C dX0_buyWithoutVoters_33 ?_
    refine gP_X0_10 C ly_59 rfl wf_X0_44 dX0_buyWithoutVoters_34 ?_
    have h := h _ rfl
    obtain ⟨s4, e4⟩ : ∃ z, z = up s3 59 10 0 := ⟨_, rfl⟩
    rw [← e4] at h ⊢
    exact r _ _ _ dX0_buyWithoutVoters_37 h
set_option maxRecDepth 20000 in
theorem kb_X0_priceOf_0 {X : Cx} {d : Nat} {P : Int → Sto → Prop} (C : Ok LY X RX0 cX0_priceOf 4 d) (r : RetI LY X cX0_priceOf P) {v1 : Int} {s : Sto} (h : G LY X 4 [rv 3, iv v1, iv 0, iv 0] [] s) : G LY X 0 [rv 3, iv v1, none, none] [] s := by
  refine G_iconst C dX0_priceOf_0 ?_
  refine G_istore_n (L' := [rv 3, iv v1, iv 0, none]) C dX0_priceOf_1 (by decide) rfl ?_
  refine G_iconst C dX0_priceOf_2 ?_
  refine G_istore_n (L' := [rv 3, iv v1, iv 0, iv 0]) C dX0_priceOf_3 (by decide) rfl ?_
  exact h
set_option maxRecDepth 20000 in
theorem kb_X0_priceOf_4 {X : Cx} {d : Nat} {P : Int → Sto → Prop} (C : Ok LY X RX0 cX0_priceOf 4 d) (r : RetI LY X cX0_priceOf P) {v1 v2 v3 : Int} {s : Sto} (h : ((rg v3 ∧ rg (s 3 11)) ∧ (((s 3 11) ≤ v3 → P v2 s) ∧ (v3 < (s 3 11) → ((0 ≤ v3 ∧ v3 < 12) ∧ G LY X 4 [rv 3, iv v1, iv (v2 + ((xand (xshr v1 v3) 1) * (s 16 v3))), iv (v3 + 1)] [] s))))) : G LY X 4 [rv 3, iv v1, iv v2, iv v3] [] s := by
  refine G_iload_n C dX0_priceOf_4 rfl ?_
  refine G_aload_n C dX0_priceOf_5 rfl ?_
  refine gI_X2_11 C ly_3 rfl wf_X0_51 dX0_priceOf_6 ?_
  refine G_icmp_ge (tgt := 33) C dX0_priceOf_9 (by decide) ⟨h.1.1, h.1.2⟩ (fun q => ?_) (fun q => ?_)
  · have h := h.2.1 q
    refine G_iload_n C dX0_priceOf_33 rfl ?_
    exact r _ _ _ _ dX0_priceOf_34 h
  · have h := h.2.2 q
    refine G_iload_n C dX0_priceOf_12 rfl ?_
    refine G_iload_n C dX0_priceOf_13 rfl ?_
    refine G_iload_n C dX0_priceOf_14 rfl ?_
    refine G_ishr C dX0_priceOf_15 ?_
    refine G_iconst C dX0_priceOf_16 ?_
    refine G_iand C dX0_priceOf_17 ?_
    refine G_aload_n C dX0_priceOf_18 rfl ?_
    refine gR_X2_14 C ly_3 rfl wf_X0_140 dX0_priceOf_19 ?_
    refine G_iload_n C dX0_priceOf_22 rfl ?_
    refine G_iald C ly_16 (by decide) h.1 dX0_priceOf_23 ?_
    have h := h.2
    refine G_imul C dX0_priceOf_24 ?_
    refine G_iadd C dX0_priceOf_25 ?_
    refine G_istore_n (L' := [rv 3, iv v1, iv (v2 + ((xand (xshr v1 v3) 1) * (s 16 v3))), iv v3]) C dX0_priceOf_26 (by decide) rfl ?_
    refine G_iinc (L' := [rv 3, iv v1, iv (v2 + ((xand (xshr v1 v3) 1) * (s 16 v3))), iv (v3 + 1)]) C dX0_priceOf_27 (by decide) rfl rfl ?_
    refine G_goto (tgt := 4) C dX0_priceOf_30 (by decide) ?_
    exact h
set_option maxRecDepth 20000 in
theorem kb_X0_isCheaper_0 {X : Cx} {d : Nat} {P : Int → Sto → Prop} (C : Ok LY X RX0 cX0_isCheaper 3 d) (r : RetZ LY X cX0_isCheaper P) {v1 v2 : Int} {s : Sto} (h : ((rg (s 59 9)) ∧ (((s 59 9) = (-1) → ((rg (s 59 9)) ∧ (((s 59 9) = (-1) → P 1 s) ∧ ((s 59 9) ≠ (-1) → ((rg v2 ∧ rg (s 59 10)) ∧ (((s 59 10) ≤ v2 → P 0 s) ∧ (v2 < (s 59 10) → P 1 s))))))) ∧ ((s 59 9) ≠ (-1) → ((rg v2 ∧ rg (s 59 10)) ∧ ((v2 = (s 59 10) → (CallI LY d MJ6_bitCount_0f7a4 [.inl v1] s (fun r1 s1 => (CallI LY d MJ6_bitCount_0f7a4 [.inl (s1 59 9)] s1 (fun r2 s2 => ((rg r1 ∧ rg r2) ∧ ((r2 ≤ r1 → P 0 s2) ∧ (r1 < r2 → P 1 s2)))))))) ∧ (v2 ≠ (s 59 10) → ((rg (s 59 9)) ∧ (((s 59 9) = (-1) → P 1 s) ∧ ((s 59 9) ≠ (-1) → ((rg v2 ∧ rg (s 59 10)) ∧ (((s 59 10) ≤ v2 → P 0 s) ∧ (v2 < (s 59 10) → P 1 s))))))))))))) : G LY X 0 [rv 59, iv v1, iv v2] [] s := by
  refine G_aload_n C dX0_isCheaper_0 rfl ?_
  refine gI_X0_9 C ly_59 rfl wf_X0_40 dX0_isCheaper_1 ?_
  refine G_iconst C dX0_isCheaper_4 ?_
  refine G_icmp_eq (tgt := 16) C dX0_isCheaper_5 (by decide) ⟨h.1, (by decide)⟩ (fun q => ?_) (fun q => ?_)
  · have h := h.2.1 q
    refine G_aload_n C dX0_isCheaper_16 rfl ?_
    refine gI_X0_9 C ly_59 rfl wf_X0_40 dX0_isCheaper_17 ?_
    refine G_iconst C dX0_isCheaper_20 ?_
    refine G_icmp_eq (tgt := 32) C dX0_isCheaper_21 (by decide) ⟨h.1, (by decide)⟩ (fun q => ?_) (fun q => ?_)
    · have h := h.2.1 q
      refine G_iconst C dX0_isCheaper_32 ?_
      refine G_goto (tgt := 37) C dX0_isCheaper_33 (by decide) ?_
      exact r _ _ _ _ dX0_isCheaper_37 (by decide) h
    · have h := h.2.2 q
      refine G_iload_n C dX0_isCheaper_24 rfl ?_
      refine G_aload_n C dX0_isCheaper_25 rfl ?_
      refine gI_X0_10 C ly_59 rfl wf_X0_44 dX0_isCheaper_26 ?_
      refine G_icmp_ge (tgt := 36) C dX0_isCheaper_29 (by decide) ⟨h.1.1, h.1.2⟩ (fun q => ?_) (fun q => ?_)
      · have h := h.2.1 q
        refine G_iconst C dX0_isCheaper_36 ?_
        exact r _ _ _ _ dX0_isCheaper_37 (by decide) h
      · have h := h.2.2 q
        refine G_iconst C dX0_isCheaper_32 ?_
        refine G_goto (tgt := 37) C dX0_isCheaper_33 (by decide) ?_
        exact r _ _ _ _ dX0_isCheaper_37 (by decide) h
  · have h := h.2.2 q
    refine G_iload_n C dX0_isCheaper_8 rfl ?_
    refine G_aload_n C dX0_isCheaper_9 rfl ?_
    refine gI_X0_10 C ly_59 rfl wf_X0_44 dX0_isCheaper_10 ?_
    refine G_icmp_eq (tgt := 38) C dX0_isCheaper_13 (by decide) ⟨h.1.1, h.1.2⟩ (fun q => ?_) (fun q => ?_)
    · have h := h.2.1 q
      refine G_iload_n C dX0_isCheaper_38 rfl ?_
      refine G_callSI (K := []) (args := [.inl v1]) C (Nat.le_of_ble_eq_true rfl) mo_J6_bitCount_0f7a4 wc_X0_96 rfl dX0_isCheaper_39 h (fun r1 s1 h => ?_)
      refine G_aload_n C dX0_isCheaper_42 rfl ?_
      refine gI_X0_9 C ly_59 rfl wf_X0_40 dX0_isCheaper_43 ?_
      refine G_callSI (K := [.inl r1]) (args := [.inl (s1 59 9)]) C (Nat.le_of_ble_eq_true rfl) mo_J6_bitCount_0f7a4 wc_X0_96 rfl dX0_isCheaper_46 h (fun r2 s2 h => ?_)
      refine G_icmp_ge (tgt := 56) C dX0_isCheaper_49 (by decide) ⟨h.1.1, h.1.2⟩ (fun q => ?_) (fun q => ?_)
      · have h := h.2.1 q
        refine G_iconst C dX0_isCheaper_56 ?_
        exact r _ _ _ _ dX0_isCheaper_57 (by decide) h
      · have h := h.2.2 q
        refine G_iconst C dX0_isCheaper_52 ?_
        refine G_goto (tgt := 57) C dX0_isCheaper_53 (by decide) ?_
        exact r _ _ _ _ dX0_isCheaper_57 (by decide) h
    · have h := h.2.2 q
      refine G_aload_n C dX0_isCheaper_16 rfl ?_
      refine gI_X0_9 C ly_59 rfl wf_X0_40 dX0_isCheaper_17 ?_
      refine G_iconst C dX0_isCheaper_20 ?_
      refine G_icmp_eq (tgt := 32) C dX0_isCheaper_21 (by decide) ⟨h.1, (by decide)⟩ (fun q => ?_) (fun q => ?_)
      · have h := h.2.1 q
        refine G_iconst C dX0_isCheaper_32 ?_
        refine G_goto (tgt := 37) C dX0_isCheaper_33 (by decide) ?_
        exact r _ _ _ _ dX0_isCheaper_37 (by decide) h
      · have h := h.2.2 q
        refine G_iload_n C dX0_isCheaper_24 rfl ?_
        refine G_aload_n C dX0_isCheaper_25 rfl ?_
        refine gI_X0_10 C ly_59 rfl wf_X0_44 dX0_isCheaper_26 ?_
        refine G_icmp_ge (tgt := 36) C dX0_isCheaper_29 (by decide) ⟨h.1.1, h.1.2⟩ (fun q => ?_) (fun q => ?_)
        · have h := h.2.1 q
          refine G_iconst C dX0_isCheaper_36 ?_
          exact r _ _ _ _ dX0_isCheaper_37 (by decide) h
        · have h := h.2.2 q
          refine G_iconst C dX0_isCheaper_32 ?_
          refine G_goto (tgt := 37) C dX0_isCheaper_33 (by decide) ?_
          exact r _ _ _ _ dX0_isCheaper_37 (by decide) h
set_option maxRecDepth 20000 in
theorem kb_X0_sway_0 {X : Cx} {d : Nat} {P : Sto → Prop} (C : Ok LY X RX0 cX0_sway 7 d) (r : RetV LY X cX0_sway P) {v2 v3 : Int} {s : Sto} (h : G LY X 3 [rv 59, rv 3, iv v2, iv v3, iv 0, none, none] [] s) : G LY X 0 [rv 59, rv 3, iv v2, iv v3, none, none, none] [] s := by
  refine G_iconst C dX0_sway_0 ?_
  refine G_istore (L' := [rv 59, rv 3, iv v2, iv v3, iv 0, none, none]) C dX0_sway_1 (by decide) rfl ?_
  exact h
set_option maxRecDepth 20000 in
theorem kb_X0_sway_3 {X : Cx} {d : Nat} {P : Sto → Prop} (C : Ok LY X RX0 cX0_sway 7 d) (r : RetV LY X cX0_sway P) {v2 v3 v4 : Int} {s : Sto} (h : ((rg v4 ∧ rg (s 3 0)) ∧ (((s 3 0) ≤ v4 → P s) ∧ (v4 < (s 3 0) → G LY X 18 [rv 59, rv 3, iv v2, iv v3, iv v4, iv 0, iv 0] [] s)))) : G LY X 3 [rv 59, rv 3, iv v2, iv v3, iv v4, none, none] [] s := by
  refine G_iload C dX0_sway_3 rfl ?_
  refine G_aload_n C dX0_sway_5 rfl ?_
  refine gI_X2_0 C ly_3 rfl wf_X0_56 dX0_sway_6 ?_
  refine G_icmp_ge (tgt := 118) C dX0_sway_9 (by decide) ⟨h.1.1, h.1.2⟩ (fun q => ?_) (fun q => ?_)
  · have h := h.2.1 q
    exact r _ _ _ dX0_sway_118 h
  · have h := h.2.2 q
    refine G_iconst C dX0_sway_12 ?_
    refine G_istore (L' := [rv 59, rv 3, iv v2, iv v3, iv v4, iv 0, none]) C dX0_sway_13 (by decide) rfl ?_
    refine G_iconst C dX0_sway_15 ?_
    refine G_istore (L' := [rv 59, rv 3, iv v2, iv v3, iv v4, iv 0, iv 0]) C dX0_sway_16 (by decide) rfl ?_
    exact h
set_option maxRecDepth 20000 in
theorem kb_X0_sway_18 {X : Cx} {d : Nat} {P : Sto → Prop} (C : Ok LY X RX0 cX0_sway 7 d) (r : RetV LY X cX0_sway P) {v2 v3 v4 v5 v6 : Int} {s : Sto} (h : ((rg v6 ∧ rg (s 3 11)) ∧ (((s 3 11) ≤ v6 → ((0 ≤ ((v3 * 8) + v4) ∧ ((v3 * 8) + v4) < 64) ∧ ((0 ≤ ((v3 * 8) + v4) ∧ ((v3 * 8) + v4) < 64) ∧ (∀ s1 : Sto, s1 = up s 60 ((v3 * 8) + v4) ((s 68 ((v3 * 8) + v4)) + v5) → ((0 ≤ ((v4 * 8) + v3) ∧ ((v4 * 8) + v3) < 64) ∧ ((0 ≤ ((v4 * 8) + v3) ∧ ((v4 * 8) + v3) < 64) ∧ (∀ s2 : Sto, s2 = up s1 60 ((v4 * 8) + v3) ((s1 68 ((v4 * 8) + v3)) - v5) → G LY X 3 [rv 59, rv 3, iv v2, iv v3, iv (v4 + 1), none, none] [] s2))))))) ∧ (v6 < (s 3 11) → ((0 ≤ ((v6 * 8) + v4) ∧ ((v6 * 8) + v4) < 96) ∧ G LY X 18 [rv 59, rv 3, iv v2, iv v3, iv v4, iv (v5 + ((xand (xshr v2 v6) 1) * (s 67 ((v6 * 8) + v4)))), iv (v6 + 1)] [] s))))) : G LY X 18 [rv 59, rv 3, iv v2, iv v3, iv v4, iv v5, iv v6] [] s := by
  refine G_iload C dX0_sway_18 rfl ?_
  refine G_aload_n C dX0_sway_20 rfl ?_
  refine gI_X2_11 C ly_3 rfl wf_X0_51 dX0_sway_21 ?_
  refine G_icmp_ge (tgt := 58) C dX0_sway_24 (by decide) ⟨h.1.1, h.1.2⟩ (fun q => ?_) (fun q => ?_)
  · have h := h.2.1 q
    refine G_aload_n C dX0_sway_58 rfl ?_
    refine gR_X0_0 C ly_59 rfl wf_X0_9 dX0_sway_59 ?_
    refine G_iload_n C dX0_sway_62 rfl ?_
    refine G_bipush C dX0_sway_63 bi_8 ?_
    refine G_imul C dX0_sway_65 ?_
    refine G_iload C dX0_sway_66 rfl ?_
    refine G_iadd C dX0_sway_68 ?_
    refine G_aload_n C dX0_sway_69 rfl ?_
    refine gR_X0_8 C ly_59 rfl wf_X0_37 dX0_sway_70 ?_
    refine G_iload_n C dX0_sway_73 rfl ?_
    refine G_bipush C dX0_sway_74 bi_8 ?_
    refine G_imul C dX0_sway_76 ?_
    refine G_iload C dX0_sway_77 rfl ?_
    refine G_iadd C dX0_sway_79 ?_
    refine G_iald C ly_68 (by decide) h.1 dX0_sway_80 ?_
    have h := h.2
    refine G_iload C dX0_sway_81 rfl ?_
    refine G_iadd C dX0_sway_83 ?_
    refine G_iast C ly_60 (by decide) h.1 dX0_sway_84 ?_
    have h := h.2
    have h := h _ rfl
    obtain ⟨s1, e1⟩ : ∃ z, z = up s 60 ((v3 * 8) + v4) ((s 68 ((v3 * 8) + v4)) + v5) := ⟨_, rfl⟩
    rw [← e1] at h ⊢
    refine G_aload_n C dX0_sway_85 rfl ?_
    refine gR_X0_0 C ly_59 rfl wf_X0_9 dX0_sway_86 ?_
    refine G_iload C dX0_sway_89 rfl ?_
    refine G_bipush C dX0_sway_91 bi_8 ?_
    refine G_imul C dX0_sway_93 ?_
    refine G_iload_n C dX0_sway_94 rfl ?_
    refine G_iadd C dX0_sway_95 ?_
    refine G_aload_n C dX0_sway_96 rfl ?_
    refine gR_X0_8 C ly_59 rfl wf_X0_37 dX0_sway_97 ?_
    refine G_iload C dX0_sway_100 rfl ?_
    refine G_bipush C dX0_sway_102 bi_8 ?_
    refine G_imul C dX0_sway_104 ?_
    refine G_iload_n C dX0_sway_105 rfl ?_
    refine G_iadd C dX0_sway_106 ?_
    refine G_iald C ly_68 (by decide) h.1 dX0_sway_107 ?_
    have h := h.2
    refine G_iload C dX0_sway_108 rfl ?_
    refine G_isub C dX0_sway_110 ?_
    refine G_iast C ly_60 (by decide) h.1 dX0_sway_111 ?_
    have h := h.2
    have h := h _ rfl
    obtain ⟨s2, e2⟩ : ∃ z, z = up s1 60 ((v4 * 8) + v3) ((s1 68 ((v4 * 8) + v3)) - v5) := ⟨_, rfl⟩
    rw [← e2] at h ⊢
    refine G_iinc (L' := [rv 59, rv 3, iv v2, iv v3, iv (v4 + 1), iv v5, iv v6]) C dX0_sway_112 (by decide) rfl rfl ?_
    refine G_goto (tgt := 3) C dX0_sway_115 (by decide) ?_
    refine G_drop (i := 5) (L' := [rv 59, rv 3, iv v2, iv v3, iv (v4 + 1), none, iv v6]) rfl ?_
    refine G_drop (i := 6) (L' := [rv 59, rv 3, iv v2, iv v3, iv (v4 + 1), none, none]) rfl ?_
    exact h
  · have h := h.2.2 q
    refine G_iload C dX0_sway_27 rfl ?_
    refine G_iload_n C dX0_sway_29 rfl ?_
    refine G_iload C dX0_sway_30 rfl ?_
    refine G_ishr C dX0_sway_32 ?_
    refine G_iconst C dX0_sway_33 ?_
    refine G_iand C dX0_sway_34 ?_
    refine G_aload_n C dX0_sway_35 rfl ?_
    refine gR_X0_7 C ly_59 rfl wf_X0_34 dX0_sway_36 ?_
    refine G_iload C dX0_sway_39 rfl ?_
    refine G_bipush C dX0_sway_41 bi_8 ?_
    refine G_imul C dX0_sway_43 ?_
    refine G_iload C dX0_sway_44 rfl ?_
    refine G_iadd C dX0_sway_46 ?_
    refine G_iald C ly_67 (by decide) h.1 dX0_sway_47 ?_
    have h := h.2
    refine G_imul C dX0_sway_48 ?_
    refine G_iadd C dX0_sway_49 ?_
    refine G_istore (L' := [rv 59, rv 3, iv v2, iv v3, iv v4, iv (v5 + ((xand (xshr v2 v6) 1) * (s 67 ((v6 * 8) + v4)))), iv v6]) C dX0_sway_50 (by decide) rfl ?_
    refine G_iinc (L' := [rv 59, rv 3, iv v2, iv v3, iv v4, iv (v5 + ((xand (xshr v2 v6) 1) * (s 67 ((v6 * 8) + v4)))), iv (v6 + 1)]) C dX0_sway_52 (by decide) rfl rfl ?_
    refine G_goto (tgt := 18) C dX0_sway_55 (by decide) ?_
    exact h
set_option maxRecDepth 20000 in
theorem kb_X0_isAheadByMerit_0 {X : Cx} {d : Nat} {P : Int → Sto → Prop} (C : Ok LY X RX0 cX0_isAheadByMerit 6 d) (r : RetZ LY X cX0_isAheadByMerit P) {v1 v2 v3 v4 : Int} {s : Sto} (h : (CallI LY d MX0_meritOf [.inr 59, .inl v1, .inl v3, .inl v4] s (fun r1 s1 => (CallI LY d MX0_meritOf [.inr 59, .inl v2, .inl v3, .inl v4] s1 (fun r2 s2 => ((rg (r1 - r2)) ∧ ((0 < (r1 - r2) → P 1 s2) ∧ ((r1 - r2) ≤ 0 → ((rg (r1 - r2)) ∧ (((r1 - r2) ≠ 0 → P 0 s2) ∧ ((r1 - r2) = 0 → ((rg v1 ∧ rg v2) ∧ ((v2 ≤ v1 → P 0 s2) ∧ (v1 < v2 → P 1 s2)))))))))))))) : G LY X 0 [rv 59, iv v1, iv v2, iv v3, iv v4, none] [] s := by
  refine G_aload_n C dX0_isAheadByMerit_0 rfl ?_
  refine G_iload_n C dX0_isAheadByMerit_1 rfl ?_
  refine G_iload_n C dX0_isAheadByMerit_2 rfl ?_
  refine G_iload C dX0_isAheadByMerit_3 rfl ?_
  refine G_callVI (K := []) (args := [.inl v1, .inl v3, .inl v4]) (T := TX0) (N := 11) C ly_59 rfl (Nat.le_of_ble_eq_true rfl) mo_X0_meritOf wc_X0_89 rfl dX0_isAheadByMerit_5 h (fun r1 s1 h => ?_)
  refine G_aload_n C dX0_isAheadByMerit_8 rfl ?_
  refine G_iload_n C dX0_isAheadByMerit_9 rfl ?_
  refine G_iload_n C dX0_isAheadByMerit_10 rfl ?_
  refine G_iload C dX0_isAheadByMerit_11 rfl ?_
  refine G_callVI (K := [.inl r1]) (args := [.inl v2, .inl v3, .inl v4]) (T := TX0) (N := 11) C ly_59 rfl (Nat.le_of_ble_eq_true rfl) mo_X0_meritOf wc_X0_89 rfl dX0_isAheadByMerit_13 h (fun r2 s2 h => ?_)
  refine G_isub C dX0_isAheadByMerit_16 ?_
  refine G_istore (L' := [rv 59, iv v1, iv v2, iv v3, iv v4, iv (r1 - r2)]) C dX0_isAheadByMerit_17 (by decide) rfl ?_
  refine G_iload C dX0_isAheadByMerit_19 rfl ?_
  refine G_if_gt (tgt := 34) C dX0_isAheadByMerit_21 (by decide) h.1 (fun q => ?_) (fun q => ?_)
  · have h := h.2.1 q
    refine G_iconst C dX0_isAheadByMerit_34 ?_
    refine G_goto (tgt := 39) C dX0_isAheadByMerit_35 (by decide) ?_
    exact r _ _ _ _ dX0_isAheadByMerit_39 (by decide) h
  · have h := h.2.2 q
    refine G_iload C dX0_isAheadByMerit_24 rfl ?_
    refine G_if_ne (tgt := 38) C dX0_isAheadByMerit_26 (by decide) h.1 (fun q => ?_) (fun q => ?_)
    · have h := h.2.1 q
      refine G_iconst C dX0_isAheadByMerit_38 ?_
      exact r _ _ _ _ dX0_isAheadByMerit_39 (by decide) h
    · have h := h.2.2 q
      refine G_iload_n C dX0_isAheadByMerit_29 rfl ?_
      refine G_iload_n C dX0_isAheadByMerit_30 rfl ?_
      refine G_icmp_ge (tgt := 38) C dX0_isAheadByMerit_31 (by decide) ⟨h.1.1, h.1.2⟩ (fun q => ?_) (fun q => ?_)
      · have h := h.2.1 q
        refine G_iconst C dX0_isAheadByMerit_38 ?_
        exact r _ _ _ _ dX0_isAheadByMerit_39 (by decide) h
      · have h := h.2.2 q
        refine G_iconst C dX0_isAheadByMerit_34 ?_
        refine G_goto (tgt := 39) C dX0_isAheadByMerit_35 (by decide) ?_
        exact r _ _ _ _ dX0_isAheadByMerit_39 (by decide) h
set_option maxRecDepth 20000 in
theorem kb_X0_isAheadByNearest_0 {X : Cx} {d : Nat} {P : Int → Sto → Prop} (C : Ok LY X RX0 cX0_isAheadByNearest 8 d) (r : RetZ LY X cX0_isAheadByNearest P) {v1 v2 v3 : Int} {s : Sto} (h : (∀ s1 : Sto, s1 = up s 66 0 0 → G LY X 26 [rv 59, iv v1, iv v2, iv v3, iv (xand ((xshl 1 v1) - 1) (xxor (xshl 1 v2) (-1))), iv 0, iv 1, none] [] s1)) : G LY X 0 [rv 59, iv v1, iv v2, iv v3, none, none, none, none] [] s := by
  refine G_iconst C dX0_isAheadByNearest_0 ?_
  refine G_iload_n C dX0_isAheadByNearest_1 rfl ?_
  refine G_ishl C dX0_isAheadByNearest_2 ?_
  refine G_iconst C dX0_isAheadByNearest_3 ?_
  refine G_isub C dX0_isAheadByNearest_4 ?_
  refine G_iconst C dX0_isAheadByNearest_5 ?_
  refine G_iload_n C dX0_isAheadByNearest_6 rfl ?_
  refine G_ishl C dX0_isAheadByNearest_7 ?_
  refine G_iconst C dX0_isAheadByNearest_8 ?_
  refine G_ixor C dX0_isAheadByNearest_9 ?_
  refine G_iand C dX0_isAheadByNearest_10 ?_
  refine G_istore (L' := [rv 59, iv v1, iv v2, iv v3, iv (xand ((xshl 1 v1) - 1) (xxor (xshl 1 v2) (-1))), none, none, none]) C dX0_isAheadByNearest_11 (by decide) rfl ?_
  refine G_iconst C dX0_isAheadByNearest_13 ?_
  refine G_istore (L' := [rv 59, iv v1, iv v2, iv v3, iv (xand ((xshl 1 v1) - 1) (xxor (xshl 1 v2) (-1))), iv 0, none, none]) C dX0_isAheadByNearest_14 (by decide) rfl ?_
  refine G_aload_n C dX0_isAheadByNearest_16 rfl ?_
  refine gR_X0_6 C ly_59 rfl wf_X0_31 dX0_isAheadByNearest_17 ?_
  refine G_iconst C dX0_isAheadByNearest_20 ?_
  refine G_iconst C dX0_isAheadByNearest_21 ?_
  refine G_iast C ly_66 (by decide) (by decide) dX0_isAheadByNearest_22 ?_
  have h := h _ rfl
  obtain ⟨s1, e1⟩ : ∃ z, z = up s 66 0 0 := ⟨_, rfl⟩
  rw [← e1] at h ⊢
  refine G_iconst C dX0_isAheadByNearest_23 ?_
  refine G_istore (L' := [rv 59, iv v1, iv v2, iv v3, iv (xand ((xshl 1 v1) - 1) (xxor (xshl 1 v2) (-1))), iv 0, iv 1, none]) C dX0_isAheadByNearest_24 (by decide) rfl ?_
  exact h
set_option maxRecDepth 20000 in
theorem kb_X0_isAheadByNearest_26 {X : Cx} {d : Nat} {P : Int → Sto → Prop} (C : Ok LY X RX0 cX0_isAheadByNearest 8 d) (r : RetZ LY X cX0_isAheadByNearest P) {v1 v2 v3 v4 v5 v6 : Int} {s : Sto} (h : ((rg v6 ∧ rg v4) ∧ ((v4 < v6 → (((xand (xshr v5 v3) 1) ≠ 0 → P 0 s) ∧ ((xand (xshr v5 v3) 1) = 0 → P 1 s))) ∧ (v6 ≤ v4 → (((xand v6 (xxor v4 (-1))) ≠ 0 → G LY X 26 [rv 59, iv v1, iv v2, iv v3, iv v4, iv v5, iv (v6 + 1), none] [] s) ∧ ((xand v6 (xxor v4 (-1))) = 0 → (CallI LY d MX0_swayOf [.inr 59, .inl v6, .inl v2] s (fun r1 s1 => ((0 ≤ v6 ∧ v6 < 256) ∧ (∀ s2 : Sto, s2 = up s1 66 v6 r1 → ((0 ≤ v6 ∧ v6 < 256) ∧ ((0 ≤ v6 ∧ v6 < 256) ∧ ((0 ≤ v5 ∧ v5 < 256) ∧ ((0 ≤ v5 ∧ v5 < 256) ∧ ((rg ((((s2 64 v6) + (s2 66 v6)) - (s2 64 v5)) - (s2 66 v5))) ∧ ((0 < ((((s2 64 v6) + (s2 66 v6)) - (s2 64 v5)) - (s2 66 v5)) → G LY X 26 [rv 59, iv v1, iv v2, iv v3, iv v4, iv v6, iv (v6 + 1), none] [] s2) ∧ (((((s2 64 v6) + (s2 66 v6)) - (s2 64 v5)) - (s2 66 v5)) ≤ 0 → ((rg ((((s2 64 v6) + (s2 66 v6)) - (s2 64 v5)) - (s2 66 v5))) ∧ ((((((s2 64 v6) + (s2 66 v6)) - (s2 64 v5)) - (s2 66 v5)) ≠ 0 → G LY X 26 [rv 59, iv v1, iv v2, iv v3, iv v4, iv v5, iv (v6 + 1), none] [] s2) ∧ (((((s2 64 v6) + (s2 66 v6)) - (s2 64 v5)) - (s2 66 v5)) = 0 → ((0 ≤ v6 ∧ v6 < 256) ∧ ((0 ≤ v5 ∧ v5 < 256) ∧ ((rg (s2 65 v6) ∧ rg (s2 65 v5)) ∧ (((s2 65 v5) ≤ (s2 65 v6) → G LY X 26 [rv 59, iv v1, iv v2, iv v3, iv v4, iv v5, iv (v6 + 1), none] [] s2) ∧ ((s2 65 v6) < (s2 65 v5) → G LY X 26 [rv 59, iv v1, iv v2, iv v3, iv v4, iv v6, iv (v6 + 1), none] [] s2))))))))))))))))))))))))) : G LY X 26 [rv 59, iv v1, iv v2, iv v3, iv v4, iv v5, iv v6, none] [] s := by
  refine G_iload C dX0_isAheadByNearest_26 rfl ?_
  refine G_iload C dX0_isAheadByNearest_28 rfl ?_
  refine G_icmp_gt (tgt := 127) C dX0_isAheadByNearest_30 (by decide) ⟨h.1.1, h.1.2⟩ (fun q => ?_) (fun q => ?_)
  · have h := h.2.1 q
    refine G_iload C dX0_isAheadByNearest_127 rfl ?_
    refine G_iload_n C dX0_isAheadByNearest_129 rfl ?_
    refine G_ishr C dX0_isAheadByNearest_130 ?_
    refine G_iconst C dX0_isAheadByNearest_131 ?_
    refine G_iand C dX0_isAheadByNearest_132 ?_
    refine G_if_ne (tgt := 140) C dX0_isAheadByNearest_133 (by decide) (oI_rg _) (fun q => ?_) (fun q => ?_)
    · have h := h.1 q
      refine G_iconst C dX0_isAheadByNearest_140 ?_
      exact r _ _ _ _ dX0_isAheadByNearest_141 (by decide) h
    · have h := h.2 q
      refine G_iconst C dX0_isAheadByNearest_136 ?_
      refine G_goto (tgt := 141) C dX0_isAheadByNearest_137 (by decide) ?_
      exact r _ _ _ _ dX0_isAheadByNearest_141 (by decide) h
  · have h := h.2.2 q
    refine G_iload C dX0_isAheadByNearest_33 rfl ?_
    refine G_iload C dX0_isAheadByNearest_35 rfl ?_
    refine G_iconst C dX0_isAheadByNearest_37 ?_
    refine G_ixor C dX0_isAheadByNearest_38 ?_
    refine G_iand C dX0_isAheadByNearest_39 ?_
    refine G_if_ne (tgt := 121) C dX0_isAheadByNearest_40 (by decide) (oI_rg _) (fun q => ?_) (fun q => ?_)
    · have h := h.1 q
      refine G_iinc (L' := [rv 59, iv v1, iv v2, iv v3, iv v4, iv v5, iv (v6 + 1), none]) C dX0_isAheadByNearest_121 (by decide) rfl rfl ?_
      refine G_goto (tgt := 26) C dX0_isAheadByNearest_124 (by decide) ?_
      exact h
    · have h := h.2 q
      refine G_aload_n C dX0_isAheadByNearest_43 rfl ?_
      refine gR_X0_6 C ly_59 rfl wf_X0_31 dX0_isAheadByNearest_44 ?_
      refine G_iload C dX0_isAheadByNearest_47 rfl ?_
      refine G_aload_n C dX0_isAheadByNearest_49 rfl ?_
      refine G_iload C dX0_isAheadByNearest_50 rfl ?_
      refine G_iload_n C dX0_isAheadByNearest_52 rfl ?_
      refine G_callVI (K := [.inl v6, .inr 66]) (args := [.inl v6, .inl v2]) (T := TX0) (N := 11) C ly_59 rfl (Nat.le_of_ble_eq_true rfl) mo_X0_swayOf wc_X0_146 rfl dX0_isAheadByNearest_53 h (fun r1 s1 h => ?_)
      refine G_iast C ly_66 (by decide) h.1 dX0_isAheadByNearest_56 ?_
      have h := h.2
      have h := h _ rfl
      obtain ⟨s2, e2⟩ : ∃ z, z = up s1 66 v6 r1 := ⟨_, rfl⟩
      rw [← e2] at h ⊢
      refine G_aload_n C dX0_isAheadByNearest_57 rfl ?_
      refine gR_X0_4 C ly_59 rfl wf_X0_25 dX0_isAheadByNearest_58 ?_
      refine G_iload C dX0_isAheadByNearest_61 rfl ?_
      refine G_iald C ly_64 (by decide) h.1 dX0_isAheadByNearest_63 ?_
      have h := h.2
      refine G_aload_n C dX0_isAheadByNearest_64 rfl ?_
      refine gR_X0_6 C ly_59 rfl wf_X0_31 dX0_isAheadByNearest_65 ?_
      refine G_iload C dX0_isAheadByNearest_68 rfl ?_
      refine G_iald C ly_66 (by decide) h.1 dX0_isAheadByNearest_70 ?_
      have h := h.2
      refine G_iadd C dX0_isAheadByNearest_71 ?_
      refine G_aload_n C dX0_isAheadByNearest_72 rfl ?_
      refine gR_X0_4 C ly_59 rfl wf_X0_25 dX0_isAheadByNearest_73 ?_
      refine G_iload C dX0_isAheadByNearest_76 rfl ?_
      refine G_iald C ly_64 (by decide) h.1 dX0_isAheadByNearest_78 ?_
      have h := h.2
      refine G_isub C dX0_isAheadByNearest_79 ?_
      refine G_aload_n C dX0_isAheadByNearest_80 rfl ?_
      refine gR_X0_6 C ly_59 rfl wf_X0_31 dX0_isAheadByNearest_81 ?_
      refine G_iload C dX0_isAheadByNearest_84 rfl ?_
      refine G_iald C ly_66 (by decide) h.1 dX0_isAheadByNearest_86 ?_
      have h := h.2
      refine G_isub C dX0_isAheadByNearest_87 ?_
      refine G_istore (L' := [rv 59, iv v1, iv v2, iv v3, iv v4, iv v5, iv v6, iv ((((s2 64 v6) + (s2 66 v6)) - (s2 64 v5)) - (s2 66 v5))]) C dX0_isAheadByNearest_88 (by decide) rfl ?_
      refine G_iload C dX0_isAheadByNearest_90 rfl ?_
      refine G_if_gt (tgt := 117) C dX0_isAheadByNearest_92 (by decide) h.1 (fun q => ?_) (fun q => ?_)
      · have h := h.2.1 q
        refine G_iload C dX0_isAheadByNearest_117 rfl ?_
        refine G_istore (L' := [rv 59, iv v1, iv v2, iv v3, iv v4, iv v6, iv v6, iv ((((s2 64 v6) + (s2 66 v6)) - (s2 64 v5)) - (s2 66 v5))]) C dX0_isAheadByNearest_119 (by decide) rfl ?_
        refine G_iinc (L' := [rv 59, iv v1, iv v2, iv v3, iv v4, iv v6, iv (v6 + 1), iv ((((s2 64 v6) + (s2 66 v6)) - (s2 64 v5)) - (s2 66 v5))]) C dX0_isAheadByNearest_121 (by decide) rfl rfl ?_
        refine G_goto (tgt := 26) C dX0_isAheadByNearest_124 (by decide) ?_
        refine G_drop (i := 7) (L' := [rv 59, iv v1, iv v2, iv v3, iv v4, iv v6, iv (v6 + 1), none]) rfl ?_
        exact h
      · have h := h.2.2 q
        refine G_iload C dX0_isAheadByNearest_95 rfl ?_
        refine G_if_ne (tgt := 121) C dX0_isAheadByNearest_97 (by decide) h.1 (fun q => ?_) (fun q => ?_)
        · have h := h.2.1 q
          refine G_iinc (L' := [rv 59, iv v1, iv v2, iv v3, iv v4, iv v5, iv (v6 + 1), iv ((((s2 64 v6) + (s2 66 v6)) - (s2 64 v5)) - (s2 66 v5))]) C dX0_isAheadByNearest_121 (by decide) rfl rfl ?_
          refine G_goto (tgt := 26) C dX0_isAheadByNearest_124 (by decide) ?_
          refine G_drop (i := 7) (L' := [rv 59, iv v1, iv v2, iv v3, iv v4, iv v5, iv (v6 + 1), none]) rfl ?_
          exact h
        · have h := h.2.2 q
          refine G_aload_n C dX0_isAheadByNearest_100 rfl ?_
          refine gR_X0_5 C ly_59 rfl wf_X0_28 dX0_isAheadByNearest_101 ?_
          refine G_iload C dX0_isAheadByNearest_104 rfl ?_
          refine G_iald C ly_65 (by decide) h.1 dX0_isAheadByNearest_106 ?_
          have h := h.2
          refine G_aload_n C dX0_isAheadByNearest_107 rfl ?_
          refine gR_X0_5 C ly_59 rfl wf_X0_28 dX0_isAheadByNearest_108 ?_
          refine G_iload C dX0_isAheadByNearest_111 rfl ?_
          refine G_iald C ly_65 (by decide) h.1 dX0_isAheadByNearest_113 ?_
          have h := h.2
          refine G_icmp_ge (tgt := 121) C dX0_isAheadByNearest_114 (by decide) ⟨h.1.1, h.1.2⟩ (fun q => ?_) (fun q => ?_)
          · have h := h.2.1 q
            refine G_iinc (L' := [rv 59, iv v1, iv v2, iv v3, iv v4, iv v5, iv (v6 + 1), iv ((((s2 64 v6) + (s2 66 v6)) - (s2 64 v5)) - (s2 66 v5))]) C dX0_isAheadByNearest_121 (by decide) rfl rfl ?_
            refine G_goto (tgt := 26) C dX0_isAheadByNearest_124 (by decide) ?_
            refine G_drop (i := 7) (L' := [rv 59, iv v1, iv v2, iv v3, iv v4, iv v5, iv (v6 + 1), none]) rfl ?_
            exact h
          · have h := h.2.2 q
            refine G_iload C dX0_isAheadByNearest_117 rfl ?_
            refine G_istore (L' := [rv 59, iv v1, iv v2, iv v3, iv v4, iv v6, iv v6, iv ((((s2 64 v6) + (s2 66 v6)) - (s2 64 v5)) - (s2 66 v5))]) C dX0_isAheadByNearest_119 (by decide) rfl ?_
            refine G_iinc (L' := [rv 59, iv v1, iv v2, iv v3, iv v4, iv v6, iv (v6 + 1), iv ((((s2 64 v6) + (s2 66 v6)) - (s2 64 v5)) - (s2 66 v5))]) C dX0_isAheadByNearest_121 (by decide) rfl rfl ?_
            refine G_goto (tgt := 26) C dX0_isAheadByNearest_124 (by decide) ?_
            refine G_drop (i := 7) (L' := [rv 59, iv v1, iv v2, iv v3, iv v4, iv v6, iv (v6 + 1), none]) rfl ?_
            exact h
set_option maxRecDepth 20000 in
theorem kb_X3_packedRow_0 {X : Cx} {d : Nat} {P : Int → Sto → Prop} (C : Ok LY X RX3 cX3_packedRow 4 d) (r : RetI LY X cX3_packedRow P) {v1 : Int} {s : Sto} (h : G LY X 4 [rv 69, iv v1, iv 0, iv 0] [] s) : G LY X 0 [rv 69, iv v1, none, none] [] s := by
  refine G_iconst C dX3_packedRow_0 ?_
  refine G_istore_n (L' := [rv 69, iv v1, iv 0, none]) C dX3_packedRow_1 (by decide) rfl ?_
  refine G_iconst C dX3_packedRow_2 ?_
  refine G_istore_n (L' := [rv 69, iv v1, iv 0, iv 0]) C dX3_packedRow_3 (by decide) rfl ?_
  exact h
set_option maxRecDepth 20000 in
theorem kb_X3_packedRow_4 {X : Cx} {d : Nat} {P : Int → Sto → Prop} (C : Ok LY X RX3 cX3_packedRow 4 d) (r : RetI LY X cX3_packedRow P) {v1 v2 v3 : Int} {s : Sto} (h : ((rg v3 ∧ rg v1) ∧ ((v1 ≤ v3 → P v2 s) ∧ (v3 < v1 → ((0 ≤ v3 ∧ v3 < 8) ∧ G LY X 4 [rv 69, iv v1, iv (xor_ (xshl v2 3) (s 72 v3)), iv (v3 + 1)] [] s))))) : G LY X 4 [rv 69, iv v1, iv v2, iv v3] [] s := by
  refine G_iload_n C dX3_packedRow_4 rfl ?_
  refine G_iload_n C dX3_packedRow_5 rfl ?_
  refine G_icmp_ge (tgt := 26) C dX3_packedRow_6 (by decide) ⟨h.1.1, h.1.2⟩ (fun q => ?_) (fun q => ?_)
  · have h := h.2.1 q
    refine G_iload_n C dX3_packedRow_26 rfl ?_
    exact r _ _ _ _ dX3_packedRow_27 h
  · have h := h.2.2 q
    refine G_iload_n C dX3_packedRow_9 rfl ?_
    refine G_iconst C dX3_packedRow_10 ?_
    refine G_ishl C dX3_packedRow_11 ?_
    refine G_aload_n C dX3_packedRow_12 rfl ?_
    refine gR_X3_2 C ly_69 rfl wf_X3_18 dX3_packedRow_13 ?_
    refine G_iload_n C dX3_packedRow_16 rfl ?_
    refine G_iald C ly_72 (by decide) h.1 dX3_packedRow_17 ?_
    have h := h.2
    refine G_ior C dX3_packedRow_18 ?_
    refine G_istore_n (L' := [rv 69, iv v1, iv (xor_ (xshl v2 3) (s 72 v3)), iv v3]) C dX3_packedRow_19 (by decide) rfl ?_
    refine G_iinc (L' := [rv 69, iv v1, iv (xor_ (xshl v2 3) (s 72 v3)), iv (v3 + 1)]) C dX3_packedRow_20 (by decide) rfl rfl ?_
    refine G_goto (tgt := 4) C dX3_packedRow_23 (by decide) ?_
    exact h
