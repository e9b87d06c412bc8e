set_option maxRecDepth 20000 in
theorem kb_X12_feeOf_0 {X : Cx} {d : Nat} {P : Int → Sto → Prop} (C : Ok LY X RX12 cX12_feeOf 7 d) (r : RetI LY X cX12_feeOf P) {v1 v2 : Int} {s : Sto} (h : G LY X 2 [rv 75, iv v1, iv v2, iv 0, none, none, none] [] s) : G LY X 0 [rv 75, iv v1, iv v2, none, none, none, none] [] s := by
  refine G_iconst C dX12_feeOf_0 ?_
  refine G_istore_n (L' := [rv 75, iv v1, iv v2, iv 0, none, none, none]) C dX12_feeOf_1 (by decide) rfl ?_
  exact h
set_option maxRecDepth 20000 in
theorem kb_X12_feeOf_2 {X : Cx} {d : Nat} {P : Int → Sto → Prop} (C : Ok LY X RX12 cX12_feeOf 7 d) (r : RetI LY X cX12_feeOf P) {v1 v2 v3 : Int} {s : Sto} (h : ((0 ≤ v2 ∧ v2 < 51) ∧ ((rg v3 ∧ rg (s 76 v2)) ∧ (((s 76 v2) < v3 → G LY X 34 [rv 75, iv v1, iv v2, iv 1, none, none, none] [] s) ∧ (v3 ≤ (s 76 v2) → ((0 ≤ v3 ∧ v3 < 7) ∧ (∀ s1 : Sto, s1 = up s 104 v3 (v3 * (s 82 3)) → G LY X 2 [rv 75, iv v1, iv v2, iv (v3 + 1), none, none, none] [] s1))))))) : G LY X 2 [rv 75, iv v1, iv v2, iv v3, none, none, none] [] s := by
  refine G_iload_n C dX12_feeOf_2 rfl ?_
  refine G_aload_n C dX12_feeOf_3 rfl ?_
  refine gR_X12_2 C ly_75 rfl wf_X12_7 dX12_feeOf_4 ?_
  refine G_iload_n C dX12_feeOf_7 rfl ?_
  refine G_iald C ly_76 (by decide) h.1 dX12_feeOf_8 ?_
  have h := h.2
  refine G_icmp_gt (tgt := 32) C dX12_feeOf_9 (by decide) ⟨h.1.1, h.1.2⟩ (fun q => ?_) (fun q => ?_)
  · have h := h.2.1 q
    refine G_iconst C dX12_feeOf_32 ?_
    refine G_istore_n (L' := [rv 75, iv v1, iv v2, iv 1, none, none, none]) C dX12_feeOf_33 (by decide) rfl ?_
    exact h
  · have h := h.2.2 q
    refine G_aload_n C dX12_feeOf_12 rfl ?_
    refine gR_X12_49 C ly_75 rfl wf_X12_101 dX12_feeOf_13 ?_
    refine G_iload_n C dX12_feeOf_16 rfl ?_
    refine G_iload_n C dX12_feeOf_17 rfl ?_
    refine G_aload_n C dX12_feeOf_18 rfl ?_
    refine gR_X12_11 C ly_75 rfl wf_X12_32 dX12_feeOf_19 ?_
    refine G_iconst C dX12_feeOf_22 ?_
    refine G_iald C ly_82 (by decide) (by decide) dX12_feeOf_23 ?_
    refine G_imul C dX12_feeOf_24 ?_
    refine G_iast C ly_104 (by decide) h.1 dX12_feeOf_25 ?_
    have h := h.2
    have h := h _ rfl
    obtain ⟨s1, e1⟩ : ∃ z, z = up s 104 v3 (v3 * (s 82 3)) := ⟨_, rfl⟩
    rw [← e1] at h ⊢
    refine G_iinc (L' := [rv 75, iv v1, iv v2, iv (v3 + 1), none, none, none]) C dX12_feeOf_26 (by decide) rfl rfl ?_
    refine G_goto (tgt := 2) C dX12_feeOf_29 (by decide) ?_
    exact h
set_option maxRecDepth 20000 in
theorem kb_X12_feeOf_34 {X : Cx} {d : Nat} {P : Int → Sto → Prop} (C : Ok LY X RX12 cX12_feeOf 7 d) (r : RetI LY X cX12_feeOf P) {v1 v2 v3 : Int} {s : Sto} (h : ((0 ≤ v1 ∧ v1 < 51) ∧ ((rg v3 ∧ rg (s 76 v1)) ∧ (((s 76 v1) < v3 → ((0 ≤ v2 ∧ v2 < 51) ∧ ((0 ≤ (s 76 v2) ∧ (s 76 v2) < 7) ∧ P (s 104 (s 76 v2)) s))) ∧ (v3 ≤ (s 76 v1) → (∀ s1 : Sto, s1 = up s 105 0 (v3 * (s 82 4)) → G LY X 61 [rv 75, iv v1, iv v2, iv v3, iv 1, none, none] [] s1)))))) : G LY X 34 [rv 75, iv v1, iv v2, iv v3, none, none, none] [] s := by
  refine G_iload_n C dX12_feeOf_34 rfl ?_
  refine G_aload_n C dX12_feeOf_35 rfl ?_
  refine gR_X12_2 C ly_75 rfl wf_X12_7 dX12_feeOf_36 ?_
  refine G_iload_n C dX12_feeOf_39 rfl ?_
  refine G_iald C ly_76 (by decide) h.1 dX12_feeOf_40 ?_
  have h := h.2
  refine G_icmp_gt (tgt := 265) C dX12_feeOf_41 (by decide) ⟨h.1.1, h.1.2⟩ (fun q => ?_) (fun q => ?_)
  · have h := h.2.1 q
    refine G_aload_n C dX12_feeOf_265 rfl ?_
    refine gR_X12_49 C ly_75 rfl wf_X12_101 dX12_feeOf_266 ?_
    refine G_aload_n C dX12_feeOf_269 rfl ?_
    refine gR_X12_2 C ly_75 rfl wf_X12_7 dX12_feeOf_270 ?_
    refine G_iload_n C dX12_feeOf_273 rfl ?_
    refine G_iald C ly_76 (by decide) h.1 dX12_feeOf_274 ?_
    have h := h.2
    refine G_iald C ly_104 (by decide) h.1 dX12_feeOf_275 ?_
    have h := h.2
    exact r _ _ _ _ dX12_feeOf_276 h
  · have h := h.2.2 q
    refine G_aload_n C dX12_feeOf_44 rfl ?_
    refine gR_X12_50 C ly_75 rfl wf_X12_104 dX12_feeOf_45 ?_
    refine G_iconst C dX12_feeOf_48 ?_
    refine G_iload_n C dX12_feeOf_49 rfl ?_
    refine G_aload_n C dX12_feeOf_50 rfl ?_
    refine gR_X12_11 C ly_75 rfl wf_X12_32 dX12_feeOf_51 ?_
    refine G_iconst C dX12_feeOf_54 ?_
    refine G_iald C ly_82 (by decide) (by decide) dX12_feeOf_55 ?_
    refine G_imul C dX12_feeOf_56 ?_
    refine G_iast C ly_105 (by decide) (by decide) dX12_feeOf_57 ?_
    have h := h _ rfl
    obtain ⟨s1, e1⟩ : ∃ z, z = up s 105 0 (v3 * (s 82 4)) := ⟨_, rfl⟩
    rw [← e1] at h ⊢
    refine G_iconst C dX12_feeOf_58 ?_
    refine G_istore (L' := [rv 75, iv v1, iv v2, iv v3, iv 1, none, none]) C dX12_feeOf_59 (by decide) rfl ?_
    exact h
set_option maxRecDepth 20000 in
theorem kb_X12_feeOf_61 {X : Cx} {d : Nat} {P : Int → Sto → Prop} (C : Ok LY X RX12 cX12_feeOf 7 d) (r : RetI LY X cX12_feeOf P) {v1 v2 v3 v4 : Int} {s : Sto} (h : ((0 ≤ v2 ∧ v2 < 51) ∧ ((rg v4 ∧ rg (s 76 v2)) ∧ (((s 76 v2) < v4 → G LY X 228 [rv 75, iv v1, iv v2, iv v3, iv 0, none, none] [] s) ∧ (v4 ≤ (s 76 v2) → ((0 ≤ (((6 * v1) + v3) - 1) ∧ (((6 * v1) + v3) - 1) < 306) ∧ ((0 ≤ (((6 * v2) + v4) - 1) ∧ (((6 * v2) + v4) - 1) < 306) ∧ ((rg (s 77 (((6 * v1) + v3) - 1)) ∧ rg (s 77 (((6 * v2) + v4) - 1))) ∧ (((s 77 (((6 * v1) + v3) - 1)) ≠ (s 77 (((6 * v2) + v4) - 1)) → ((0 ≤ (v4 - 1) ∧ (v4 - 1) < 7) ∧ ((0 ≤ v4 ∧ v4 < 7) ∧ ((rg ((s 104 v4) + (s 82 4)) ∧ rg ((s 104 (v4 - 1)) + (s 82 2))) ∧ ((((s 104 (v4 - 1)) + (s 82 2)) ≤ ((s 104 v4) + (s 82 4)) → ((0 ≤ (v4 - 1) ∧ (v4 - 1) < 7) ∧ ((rg ((s 105 (v4 - 1)) + (s 82 3)) ∧ rg ((s 104 (v4 - 1)) + (s 82 2))) ∧ ((((s 104 (v4 - 1)) + (s 82 2)) ≤ ((s 105 (v4 - 1)) + (s 82 3)) → ((0 ≤ v4 ∧ v4 < 7) ∧ (∀ s1 : Sto, s1 = up s 105 v4 ((s 104 (v4 - 1)) + (s 82 2)) → G LY X 61 [rv 75, iv v1, iv v2, iv v3, iv (v4 + 1), none, none] [] s1))) ∧ (((s 105 (v4 - 1)) + (s 82 3)) < ((s 104 (v4 - 1)) + (s 82 2)) → ((0 ≤ (v4 - 1) ∧ (v4 - 1) < 7) ∧ ((0 ≤ v4 ∧ v4 < 7) ∧ (∀ s2 : Sto, s2 = up s 105 v4 ((s 105 (v4 - 1)) + (s 82 3)) → G LY X 61 [rv 75, iv v1, iv v2, iv v3, iv (v4 + 1), none, none] [] s2)))))))) ∧ (((s 104 v4) + (s 82 4)) < ((s 104 (v4 - 1)) + (s 82 2)) → ((0 ≤ v4 ∧ v4 < 7) ∧ ((0 ≤ (v4 - 1) ∧ (v4 - 1) < 7) ∧ ((rg ((s 105 (v4 - 1)) + (s 82 3)) ∧ rg ((s 104 v4) + (s 82 4))) ∧ ((((s 104 v4) + (s 82 4)) ≤ ((s 105 (v4 - 1)) + (s 82 3)) → ((0 ≤ v4 ∧ v4 < 7) ∧ (∀ s3 : Sto, s3 = up s 105 v4 ((s 104 v4) + (s 82 4)) → G LY X 61 [rv 75, iv v1, iv v2, iv v3, iv (v4 + 1), none, none] [] s3))) ∧ (((s 105 (v4 - 1)) + (s 82 3)) < ((s 104 v4) + (s 82 4)) → ((0 ≤ (v4 - 1) ∧ (v4 - 1) < 7) ∧ ((0 ≤ v4 ∧ v4 < 7) ∧ (∀ s4 : Sto, s4 = up s 105 v4 ((s 105 (v4 - 1)) + (s 82 3)) → G LY X 61 [rv 75, iv v1, iv v2, iv v3, iv (v4 + 1), none, none] [] s4)))))))))))))) ∧ ((s 77 (((6 * v1) + v3) - 1)) = (s 77 (((6 * v2) + v4) - 1)) → ((0 ≤ (v4 - 1) ∧ (v4 - 1) < 7) ∧ ((0 ≤ v4 ∧ v4 < 7) ∧ ((rg ((s 104 v4) + (s 82 4)) ∧ rg ((s 104 (v4 - 1)) + 0)) ∧ ((((s 104 (v4 - 1)) + 0) ≤ ((s 104 v4) + (s 82 4)) → ((0 ≤ (v4 - 1) ∧ (v4 - 1) < 7) ∧ ((rg ((s 105 (v4 - 1)) + (s 82 3)) ∧ rg ((s 104 (v4 - 1)) + 0)) ∧ ((((s 104 (v4 - 1)) + 0) ≤ ((s 105 (v4 - 1)) + (s 82 3)) → ((0 ≤ v4 ∧ v4 < 7) ∧ (∀ s5 : Sto, s5 = up s 105 v4 ((s 104 (v4 - 1)) + 0) → G LY X 61 [rv 75, iv v1, iv v2, iv v3, iv (v4 + 1), none, none] [] s5))) ∧ (((s 105 (v4 - 1)) + (s 82 3)) < ((s 104 (v4 - 1)) + 0) → ((0 ≤ (v4 - 1) ∧ (v4 - 1) < 7) ∧ ((0 ≤ v4 ∧ v4 < 7) ∧ (∀ s6 : Sto, s6 = up s 105 v4 ((s 105 (v4 - 1)) + (s 82 3)) → G LY X 61 [rv 75, iv v1, iv v2, iv v3, iv (v4 + 1), none, none] [] s6)))))))) ∧ (((s 104 v4) + (s 82 4)) < ((s 104 (v4 - 1)) + 0) → ((0 ≤ v4 ∧ v4 < 7) ∧ ((0 ≤ (v4 - 1) ∧ (v4 - 1) < 7) ∧ ((rg ((s 105 (v4 - 1)) + (s 82 3)) ∧ rg ((s 104 v4) + (s 82 4))) ∧ ((((s 104 v4) + (s 82 4)) ≤ ((s 105 (v4 - 1)) + (s 82 3)) → ((0 ≤ v4 ∧ v4 < 7) ∧ (∀ s7 : Sto, s7 = up s 105 v4 ((s 104 v4) + (s 82 4)) → G LY X 61 [rv 75, iv v1, iv v2, iv v3, iv (v4 + 1), none, none] [] s7))) ∧ (((s 105 (v4 - 1)) + (s 82 3)) < ((s 104 v4) + (s 82 4)) → ((0 ≤ (v4 - 1) ∧ (v4 - 1) < 7) ∧ ((0 ≤ v4 ∧ v4 < 7) ∧ (∀ s8 : Sto, s8 = up s 105 v4 ((s 105 (v4 - 1)) + (s 82 3)) → G LY X 61 [rv 75, iv v1, iv v2, iv v3, iv (v4 + 1), none, none] [] s8))))))))))))))))))))))) : G LY X 61 [rv 75, iv v1, iv v2, iv v3, iv v4, none, none] [] s := by
  refine G_iload C dX12_feeOf_61 rfl ?_
  refine G_aload_n C dX12_feeOf_63 rfl ?_
  refine gR_X12_2 C ly_75 rfl wf_X12_7 dX12_feeOf_64 ?_
  refine G_iload_n C dX12_feeOf_67 rfl ?_
  refine G_iald C ly_76 (by decide) h.1 dX12_feeOf_68 ?_
  have h := h.2
  refine G_icmp_gt (tgt := 225) C dX12_feeOf_69 (by decide) ⟨h.1.1, h.1.2⟩ (fun q => ?_) (fun q => ?_)
  · have h := h.2.1 q
    refine G_iconst C dX12_feeOf_225 ?_
    refine G_istore (L' := [rv 75, iv v1, iv v2, iv v3, iv 0, none, none]) C dX12_feeOf_226 (by decide) rfl ?_
    exact h
  · have h := h.2.2 q
    refine G_aload_n C dX12_feeOf_72 rfl ?_
    refine gR_X12_3 C ly_75 rfl wf_X12_13 dX12_feeOf_73 ?_
    refine G_bipush C dX12_feeOf_76 bi_6 ?_
    refine G_iload_n C dX12_feeOf_78 rfl ?_
    refine G_imul C dX12_feeOf_79 ?_
    refine G_iload_n C dX12_feeOf_80 rfl ?_
    refine G_iadd C dX12_feeOf_81 ?_
    refine G_iconst C dX12_feeOf_82 ?_
    refine G_isub C dX12_feeOf_83 ?_
    refine G_iald C ly_77 (by decide) h.1 dX12_feeOf_84 ?_
    have h := h.2
    refine G_aload_n C dX12_feeOf_85 rfl ?_
    refine gR_X12_3 C ly_75 rfl wf_X12_13 dX12_feeOf_86 ?_
    refine G_bipush C dX12_feeOf_89 bi_6 ?_
    refine G_iload_n C dX12_feeOf_91 rfl ?_
    refine G_imul C dX12_feeOf_92 ?_
    refine G_iload C dX12_feeOf_93 rfl ?_
    refine G_iadd C dX12_feeOf_95 ?_
    refine G_iconst C dX12_feeOf_96 ?_
    refine G_isub C dX12_feeOf_97 ?_
    refine G_iald C ly_77 (by decide) h.1 dX12_feeOf_98 ?_
    have h := h.2
    refine G_icmp_ne (tgt := 106) C dX12_feeOf_99 (by decide) ⟨h.1.1, h.1.2⟩ (fun q => ?_) (fun q => ?_)
    · have h := h.2.1 q
      refine G_iconst C dX12_feeOf_106 ?_
      refine G_istore (L' := [rv 75, iv v1, iv v2, iv v3, iv v4, iv 0, none]) C dX12_feeOf_107 (by decide) rfl ?_
      refine G_aload_n C dX12_feeOf_109 rfl ?_
      refine gR_X12_49 C ly_75 rfl wf_X12_101 dX12_feeOf_110 ?_
      refine G_iload C dX12_feeOf_113 rfl ?_
      refine G_iconst C dX12_feeOf_115 ?_
      refine G_isub C dX12_feeOf_116 ?_
      refine G_iald C ly_104 (by decide) h.1 dX12_feeOf_117 ?_
      have h := h.2
      refine G_iload C dX12_feeOf_118 rfl ?_
      refine G_if_eq (tgt := 127) C dX12_feeOf_120 (by decide) (by decide) (fun q => ?_) (fun q => ?_)
      rotate_left
      · exact absurd q (by decide)
      refine G_aload_n C dX12_feeOf_127 rfl ?_
      refine gR_X12_11 C ly_75 rfl wf_X12_32 dX12_feeOf_128 ?_
      refine G_iconst C dX12_feeOf_131 ?_
      refine G_iald C ly_82 (by decide) (by decide) dX12_feeOf_132 ?_
      refine G_iadd C dX12_feeOf_133 ?_
      refine G_istore (L' := [rv 75, iv v1, iv v2, iv v3, iv v4, iv 0, iv ((s 104 (v4 - 1)) + (s 82 2))]) C dX12_feeOf_134 (by decide) rfl ?_
      refine G_aload_n C dX12_feeOf_136 rfl ?_
      refine gR_X12_49 C ly_75 rfl wf_X12_101 dX12_feeOf_137 ?_
      refine G_iload C dX12_feeOf_140 rfl ?_
      refine G_iald C ly_104 (by decide) h.1 dX12_feeOf_142 ?_
      have h := h.2
      refine G_aload_n C dX12_feeOf_143 rfl ?_
      refine gR_X12_11 C ly_75 rfl wf_X12_32 dX12_feeOf_144 ?_
      refine G_iconst C dX12_feeOf_147 ?_
      refine G_iald C ly_82 (by decide) (by decide) dX12_feeOf_148 ?_
      refine G_iadd C dX12_feeOf_149 ?_
      refine G_iload C dX12_feeOf_150 rfl ?_
      refine G_icmp_ge (tgt := 171) C dX12_feeOf_152 (by decide) ⟨h.1.1, h.1.2⟩ (fun q => ?_) (fun q => ?_)
      · have h := h.2.1 q
        refine G_aload_n C dX12_feeOf_171 rfl ?_
        refine gR_X12_50 C ly_75 rfl wf_X12_104 dX12_feeOf_172 ?_
        refine G_iload C dX12_feeOf_175 rfl ?_
        refine G_iconst C dX12_feeOf_177 ?_
        refine G_isub C dX12_feeOf_178 ?_
        refine G_iald C ly_105 (by decide) h.1 dX12_feeOf_179 ?_
        have h := h.2
        refine G_aload_n C dX12_feeOf_180 rfl ?_
        refine gR_X12_11 C ly_75 rfl wf_X12_32 dX12_feeOf_181 ?_
        refine G_iconst C dX12_feeOf_184 ?_
        refine G_iald C ly_82 (by decide) (by decide) dX12_feeOf_185 ?_
        refine G_iadd C dX12_feeOf_186 ?_
        refine G_iload C dX12_feeOf_187 rfl ?_
        refine G_icmp_ge (tgt := 210) C dX12_feeOf_189 (by decide) ⟨h.1.1, h.1.2⟩ (fun q => ?_) (fun q => ?_)
        · have h := h.2.1 q
          refine G_aload_n C dX12_feeOf_210 rfl ?_
          refine gR_X12_50 C ly_75 rfl wf_X12_104 dX12_feeOf_211 ?_
          refine G_iload C dX12_feeOf_214 rfl ?_
          refine G_iload C dX12_feeOf_216 rfl ?_
          refine G_iast C ly_105 (by decide) h.1 dX12_feeOf_218 ?_
          have h := h.2
          have h := h _ rfl
          obtain ⟨s1, e1⟩ : ∃ z, z = up s 105 v4 ((s 104 (v4 - 1)) + (s 82 2)) := ⟨_, rfl⟩
          rw [← e1] at h ⊢
          refine G_iinc (L' := [rv 75, iv v1, iv v2, iv v3, iv (v4 + 1), iv 0, iv ((s 104 (v4 - 1)) + (s 82 2))]) C dX12_feeOf_219 (by decide) rfl rfl ?_
          refine G_goto (tgt := 61) C dX12_feeOf_222 (by decide) ?_
          refine G_drop (i := 5) (L' := [rv 75, iv v1, iv v2, iv v3, iv (v4 + 1), none, iv ((s 104 (v4 - 1)) + (s 82 2))]) rfl ?_
          refine G_drop (i := 6) (L' := [rv 75, iv v1, iv v2, iv v3, iv (v4 + 1), none, none]) rfl ?_
          exact h
        · have h := h.2.2 q
          refine G_aload_n C dX12_feeOf_192 rfl ?_
          refine gR_X12_50 C ly_75 rfl wf_X12_104 dX12_feeOf_193 ?_
          refine G_iload C dX12_feeOf_196 rfl ?_
          refine G_iconst C dX12_feeOf_198 ?_
          refine G_isub C dX12_feeOf_199 ?_
          refine G_iald C ly_105 (by decide) h.1 dX12_feeOf_200 ?_
          have h := h.2
          refine G_aload_n C dX12_feeOf_201 rfl ?_
          refine gR_X12_11 C ly_75 rfl wf_X12_32 dX12_feeOf_202 ?_
          refine G_iconst C dX12_feeOf_205 ?_
          refine G_iald C ly_82 (by decide) (by decide) dX12_feeOf_206 ?_
          refine G_iadd C dX12_feeOf_207 ?_
          refine G_istore (L' := [rv 75, iv v1, iv v2, iv v3, iv v4, iv 0, iv ((s 105 (v4 - 1)) + (s 82 3))]) C dX12_feeOf_208 (by decide) rfl ?_
          refine G_aload_n C dX12_feeOf_210 rfl ?_
          refine gR_X12_50 C ly_75 rfl wf_X12_104 dX12_feeOf_211 ?_
          refine G_iload C dX12_feeOf_214 rfl ?_
          refine G_iload C dX12_feeOf_216 rfl ?_
          refine G_iast C ly_105 (by decide) h.1 dX12_feeOf_218 ?_
          have h := h.2
          have h := h _ rfl
          obtain ⟨s2, e2⟩ : ∃ z, z = up s 105 v4 ((s 105 (v4 - 1)) + (s 82 3)) := ⟨_, rfl⟩
          rw [← e2] at h ⊢
          refine G_iinc (L' := [rv 75, iv v1, iv v2, iv v3, iv (v4 + 1), iv 0, iv ((s 105 (v4 - 1)) + (s 82 3))]) C dX12_feeOf_219 (by decide) rfl rfl ?_
          refine G_goto (tgt := 61) C dX12_feeOf_222 (by decide) ?_
          refine G_drop (i := 5) (L' := [rv 75, iv v1, iv v2, iv v3, iv (v4 + 1), none, iv ((s 105 (v4 - 1)) + (s 82 3))]) rfl ?_
          refine G_drop (i := 6) (L' := [rv 75, iv v1, iv v2, iv v3, iv (v4 + 1), none, none]) rfl ?_
          exact h
      · have h := h.2.2 q
        refine G_aload_n C dX12_feeOf_155 rfl ?_
        refine gR_X12_49 C ly_75 rfl wf_X12_101 dX12_feeOf_156 ?_
        refine G_iload C dX12_feeOf_159 rfl ?_
        refine G_iald C ly_104 (by decide) h.1 dX12_feeOf_161 ?_
        have h := h.2
        refine G_aload_n C dX12_feeOf_162 rfl ?_
        refine gR_X12_11 C ly_75 rfl wf_X12_32 dX12_feeOf_163 ?_
        refine G_iconst C dX12_feeOf_166 ?_
        refine G_iald C ly_82 (by decide) (by decide) dX12_feeOf_167 ?_
        refine G_iadd C dX12_feeOf_168 ?_
        refine G_istore (L' := [rv 75, iv v1, iv v2, iv v3, iv v4, iv 0, iv ((s 104 v4) + (s 82 4))]) C dX12_feeOf_169 (by decide) rfl ?_
        refine G_aload_n C dX12_feeOf_171 rfl ?_
        refine gR_X12_50 C ly_75 rfl wf_X12_104 dX12_feeOf_172 ?_
        refine G_iload C dX12_feeOf_175 rfl ?_
        refine G_iconst C dX12_feeOf_177 ?_
        refine G_isub C dX12_feeOf_178 ?_
        refine G_iald C ly_105 (by decide) h.1 dX12_feeOf_179 ?_
        have h := h.2
        refine G_aload_n C dX12_feeOf_180 rfl ?_
        refine gR_X12_11 C ly_75 rfl wf_X12_32 dX12_feeOf_181 ?_
        refine G_iconst C dX12_feeOf_184 ?_
        refine G_iald C ly_82 (by decide) (by decide) dX12_feeOf_185 ?_
        refine G_iadd C dX12_feeOf_186 ?_
        refine G_iload C dX12_feeOf_187 rfl ?_
        refine G_icmp_ge (tgt := 210) C dX12_feeOf_189 (by decide) ⟨h.1.1, h.1.2⟩ (fun q => ?_) (fun q => ?_)
        · have h := h.2.1 q
          refine G_aload_n C dX12_feeOf_210 rfl ?_
          refine gR_X12_50 C ly_75 rfl wf_X12_104 dX12_feeOf_211 ?_
          refine G_iload C dX12_feeOf_214 rfl ?_
          refine G_iload C dX12_feeOf_216 rfl ?_
          refine G_iast C ly_105 (by decide) h.1 dX12_feeOf_218 ?_
          have h := h.2
          have h := h _ rfl
          obtain ⟨s3, e3⟩ : ∃ z, z = up s 105 v4 ((s 104 v4) + (s 82 4)) := ⟨_, rfl⟩
          rw [← e3] at h ⊢
          refine G_iinc (L' := [rv 75, iv v1, iv v2, iv v3, iv (v4 + 1), iv 0, iv ((s 104 v4) + (s 82 4))]) C dX12_feeOf_219 (by decide) rfl rfl ?_
          refine G_goto (tgt := 61) C dX12_feeOf_222 (by decide) ?_
          refine G_drop (i := 5) (L' := [rv 75, iv v1, iv v2, iv v3, iv (v4 + 1), none, iv ((s 104 v4) + (s 82 4))]) rfl ?_
          refine G_drop (i := 6) (L' := [rv 75, iv v1, iv v2, iv v3, iv (v4 + 1), none, none]) rfl ?_
          exact h
        · have h := h.2.2 q
          refine G_aload_n C dX12_feeOf_192 rfl ?_
          refine gR_X12_50 C ly_75 rfl wf_X12_104 dX12_feeOf_193 ?_
          refine G_iload C dX12_feeOf_196 rfl ?_
          refine G_iconst C dX12_feeOf_198 ?_
          refine G_isub C dX12_feeOf_199 ?_
          refine G_iald C ly_105 (by decide) h.1 dX12_feeOf_200 ?_
          have h := h.2
          refine G_aload_n C dX12_feeOf_201 rfl ?_
          refine gR_X12_11 C ly_75 rfl wf_X12_32 dX12_feeOf_202 ?_
          refine G_iconst C dX12_feeOf_205 ?_
          refine G_iald C ly_82 (by decide) (by decide) dX12_feeOf_206 ?_
          refine G_iadd C dX12_feeOf_207 ?_
          refine G_istore (L' := [rv 75, iv v1, iv v2, iv v3, iv v4, iv 0, iv ((s 105 (v4 - 1)) + (s 82 3))]) C dX12_feeOf_208 (by decide) rfl ?_
          refine G_aload_n C dX12_feeOf_210 rfl ?_
          refine gR_X12_50 C ly_75 rfl wf_X12_104 dX12_feeOf_211 ?_
          refine G_iload C dX12_feeOf_214 rfl ?_
          refine G_iload C dX12_feeOf_216 rfl ?_
          refine G_iast C ly_105 (by decide) h.1 dX12_feeOf_218 ?_
          have h := h.2
          have h := h _ rfl
          obtain ⟨s4, e4⟩ : ∃ z, z = up s 105 v4 ((s 105 (v4 - 1)) + (s 82 3)) := ⟨_, rfl⟩
          rw [← e4] at h ⊢
          refine G_iinc (L' := [rv 75, iv v1, iv v2, iv v3, iv (v4 + 1), iv 0, iv ((s 105 (v4 - 1)) + (s 82 3))]) C dX12_feeOf_219 (by decide) rfl rfl ?_
          refine G_goto (tgt := 61) C dX12_feeOf_222 (by decide) ?_
          refine G_drop (i := 5) (L' := [rv 75, iv v1, iv v2, iv v3, iv (v4 + 1), none, iv ((s 105 (v4 - 1)) + (s 82 3))]) rfl ?_
          refine G_drop (i := 6) (L' := [rv 75, iv v1, iv v2, iv v3, iv (v4 + 1), none, none]) rfl ?_
          exact h
    · have h := h.2.2 q
      refine G_iconst C dX12_feeOf_102 ?_
      refine G_goto (tgt := 107) C dX12_feeOf_103 (by decide) ?_
      refine G_istore (L' := [rv 75, iv v1, iv v2, iv v3, iv v4, iv 1, none]) C dX12_feeOf_107 (by decide) rfl ?_
      refine G_aload_n C dX12_feeOf_109 rfl ?_
      refine gR_X12_49 C ly_75 rfl wf_X12_101 dX12_feeOf_110 ?_
      refine G_iload C dX12_feeOf_113 rfl ?_
      refine G_iconst C dX12_feeOf_115 ?_
      refine G_isub C dX12_feeOf_116 ?_
      refine G_iald C ly_104 (by decide) h.1 dX12_feeOf_117 ?_
      have h := h.2
      refine G_iload C dX12_feeOf_118 rfl ?_
      refine G_if_eq (tgt := 127) C dX12_feeOf_120 (by decide) (by decide) (fun q => ?_) (fun q => ?_)
      · exact absurd q (by decide)
      refine G_iconst C dX12_feeOf_123 ?_
      refine G_goto (tgt := 133) C dX12_feeOf_124 (by decide) ?_
      refine G_iadd C dX12_feeOf_133 ?_
      refine G_istore (L' := [rv 75, iv v1, iv v2, iv v3, iv v4, iv 1, iv ((s 104 (v4 - 1)) + 0)]) C dX12_feeOf_134 (by decide) rfl ?_
      refine G_aload_n C dX12_feeOf_136 rfl ?_
      refine gR_X12_49 C ly_75 rfl wf_X12_101 dX12_feeOf_137 ?_
      refine G_iload C dX12_feeOf_140 rfl ?_
      refine G_iald C ly_104 (by decide) h.1 dX12_feeOf_142 ?_
      have h := h.2
      refine G_aload_n C dX12_feeOf_143 rfl ?_
      refine gR_X12_11 C ly_75 rfl wf_X12_32 dX12_feeOf_144 ?_
      refine G_iconst C dX12_feeOf_147 ?_
      refine G_iald C ly_82 (by decide) (by decide) dX12_feeOf_148 ?_
      refine G_iadd C dX12_feeOf_149 ?_
      refine G_iload C dX12_feeOf_150 rfl ?_
      refine G_icmp_ge (tgt := 171) C dX12_feeOf_152 (by decide) ⟨h.1.1, h.1.2⟩ (fun q => ?_) (fun q => ?_)
      · have h := h.2.1 q
        refine G_aload_n C dX12_feeOf_171 rfl ?_
        refine gR_X12_50 C ly_75 rfl wf_X12_104 dX12_feeOf_172 ?_
        refine G_iload C dX12_feeOf_175 rfl ?_
        refine G_iconst C dX12_feeOf_177 ?_
        refine G_isub C dX12_feeOf_178 ?_
        refine G_iald C ly_105 (by decide) h.1 dX12_feeOf_179 ?_
        have h := h.2
        refine G_aload_n C dX12_feeOf_180 rfl ?_
        refine gR_X12_11 C ly_75 rfl wf_X12_32 dX12_feeOf_181 ?_
        refine G_iconst C dX12_feeOf_184 ?_
        refine G_iald C ly_82 (by decide) (by decide) dX12_feeOf_185 ?_
        refine G_iadd C dX12_feeOf_186 ?_
        refine G_iload C dX12_feeOf_187 rfl ?_
        refine G_icmp_ge (tgt := 210) C dX12_feeOf_189 (by decide) ⟨h.1.1, h.1.2⟩ (fun q => ?_) (fun q => ?_)
        · have h := h.2.1 q
          refine G_aload_n C dX12_feeOf_210 rfl ?_
          refine gR_X12_50 C ly_75 rfl wf_X12_104 dX12_feeOf_211 ?_
          refine G_iload C dX12_feeOf_214 rfl ?_
          refine G_iload C dX12_feeOf_216 rfl ?_
          refine G_iast C ly_105 (by decide) h.1 dX12_feeOf_218 ?_
          have h := h.2
          have h := h _ rfl
          obtain ⟨s5, e5⟩ : ∃ z, z = up s 105 v4 ((s 104 (v4 - 1)) + 0) := ⟨_, rfl⟩
          rw [← e5] at h ⊢
          refine G_iinc (L' := [rv 75, iv v1, iv v2, iv v3, iv (v4 + 1), iv 1, iv ((s 104 (v4 - 1)) + 0)]) C dX12_feeOf_219 (by decide) rfl rfl ?_
          refine G_goto (tgt := 61) C dX12_feeOf_222 (by decide) ?_
          refine G_drop (i := 5) (L' := [rv 75, iv v1, iv v2, iv v3, iv (v4 + 1), none, iv ((s 104 (v4 - 1)) + 0)]) rfl ?_
          refine G_drop (i := 6) (L' := [rv 75, iv v1, iv v2, iv v3, iv (v4 + 1), none, none]) rfl ?_
          exact h
        · have h := h.2.2 q
          refine G_aload_n C dX12_feeOf_192 rfl ?_
          refine gR_X12_50 C ly_75 rfl wf_X12_104 dX12_feeOf_193 ?_
          refine G_iload C dX12_feeOf_196 rfl ?_
          refine G_iconst C dX12_feeOf_198 ?_
          refine G_isub C dX12_feeOf_199 ?_
          refine G_iald C ly_105 (by decide) h.1 dX12_feeOf_200 ?_
          have h := h.2
          refine G_aload_n C dX12_feeOf_201 rfl ?_
          refine gR_X12_11 C ly_75 rfl wf_X12_32 dX12_feeOf_202 ?_
          refine G_iconst C dX12_feeOf_205 ?_
          refine G_iald C ly_82 (by decide) (by decide) dX12_feeOf_206 ?_
          refine G_iadd C dX12_feeOf_207 ?_
          refine G_istore (L' := [rv 75, iv v1, iv v2, iv v3, iv v4, iv 1, iv ((s 105 (v4 - 1)) + (s 82 3))]) C dX12_feeOf_208 (by decide) rfl ?_
          refine G_aload_n C dX12_feeOf_210 rfl ?_
          refine gR_X12_50 C ly_75 rfl wf_X12_104 dX12_feeOf_211 ?_
          refine G_iload C dX12_feeOf_214 rfl ?_
          refine G_iload C dX12_feeOf_216 rfl ?_
          refine G_iast C ly_105 (by decide) h.1 dX12_feeOf_218 ?_
          have h := h.2
          have h := h _ rfl
          obtain ⟨s6, e6⟩ : ∃ z, z = up s 105 v4 ((s 105 (v4 - 1)) + (s 82 3)) := ⟨_, rfl⟩
          rw [← e6] at h ⊢
          refine G_iinc (L' := [rv 75, iv v1, iv v2, iv v3, iv (v4 + 1), iv 1, iv ((s 105 (v4 - 1)) + (s 82 3))]) C dX12_feeOf_219 (by decide) rfl rfl ?_
          refine G_goto (tgt := 61) C dX12_feeOf_222 (by decide) ?_
          refine G_drop (i := 5) (L' := [rv 75, iv v1, iv v2, iv v3, iv (v4 + 1), none, iv ((s 105 (v4 - 1)) + (s 82 3))]) rfl ?_
          refine G_drop (i := 6) (L' := [rv 75, iv v1, iv v2, iv v3, iv (v4 + 1), none, none]) rfl ?_
          exact h
      · have h := h.2.2 q
        refine G_aload_n C dX12_feeOf_155 rfl ?_
        refine gR_X12_49 C ly_75 rfl wf_X12_101 dX12_feeOf_156 ?_
        refine G_iload C dX12_feeOf_159 rfl ?_
        refine G_iald C ly_104 (by decide) h.1 dX12_feeOf_161 ?_
        have h := h.2
        refine G_aload_n C dX12_feeOf_162 rfl ?_
        refine gR_X12_11 C ly_75 rfl wf_X12_32 dX12_feeOf_163 ?_
        refine G_iconst C dX12_feeOf_166 ?_
        refine G_iald C ly_82 (by decide) (by decide) dX12_feeOf_167 ?_
        refine G_iadd C dX12_feeOf_168 ?_
        refine G_istore (L' := [rv 75, iv v1, iv v2, iv v3, iv v4, iv 1, iv ((s 104 v4) + (s 82 4))]) C dX12_feeOf_169 (by decide) rfl ?_
        refine G_aload_n C dX12_feeOf_171 rfl ?_
        refine gR_X12_50 C ly_75 rfl wf_X12_104 dX12_feeOf_172 ?_
        refine G_iload C dX12_feeOf_175 rfl ?_
        refine G_iconst C dX12_feeOf_177 ?_
        refine G_isub C dX12_feeOf_178 ?_
        refine G_iald C ly_105 (by decide) h.1 dX12_feeOf_179 ?_
        have h := h.2
        refine G_aload_n C dX12_feeOf_180 rfl ?_
        refine gR_X12_11 C ly_75 rfl wf_X12_32 dX12_feeOf_181 ?_
        refine G_iconst C dX12_feeOf_184 ?_
        refine G_iald C ly_82 (by decide) (by decide) dX12_feeOf_185 ?_
        refine G_iadd C dX12_feeOf_186 ?_
        refine G_iload C dX12_feeOf_187 rfl ?_
        refine G_icmp_ge (tgt := 210) C dX12_feeOf_189 (by decide) ⟨h.1.1, h.1.2⟩ (fun q => ?_) (fun q => ?_)
        · have h := h.2.1 q
          refine G_aload_n C dX12_feeOf_210 rfl ?_
          refine gR_X12_50 C ly_75 rfl wf_X12_104 dX12_feeOf_211 ?_
          refine G_iload C dX12_feeOf_214 rfl ?_
          refine G_iload C dX12_feeOf_216 rfl ?_
          refine G_iast C ly_105 (by decide) h.1 dX12_feeOf_218 ?_
          have h := h.2
          have h := h _ rfl
          obtain ⟨s7, e7⟩ : ∃ z, z = up s 105 v4 ((s 104 v4) + (s 82 4)) := ⟨_, rfl⟩
          rw [← e7] at h ⊢
          refine G_iinc (L' := [rv 75, iv v1, iv v2, iv v3, iv (v4 + 1), iv 1, iv ((s 104 v4) + (s 82 4))]) C dX12_feeOf_219 (by decide) rfl rfl ?_
          refine G_goto (tgt := 61) C dX12_feeOf_222 (by decide) ?_
          refine G_drop (i := 5) (L' := [rv 75, iv v1, iv v2, iv v3, iv (v4 + 1), none, iv ((s 104 v4) + (s 82 4))]) rfl ?_
          refine G_drop (i := 6) (L' := [rv 75, iv v1, iv v2, iv v3, iv (v4 + 1), none, none]) rfl ?_
          exact h
        · have h := h.2.2 q
          refine G_aload_n C dX12_feeOf_192 rfl ?_
          refine gR_X12_50 C ly_75 rfl wf_X12_104 dX12_feeOf_193 ?_
          refine G_iload C dX12_feeOf_196 rfl ?_
          refine G_iconst C dX12_feeOf_198 ?_
          refine G_isub C dX12_feeOf_199 ?_
          refine G_iald C ly_105 (by decide) h.1 dX12_feeOf_200 ?_
          have h := h.2
          refine G_aload_n C dX12_feeOf_201 rfl ?_
          refine gR_X12_11 C ly_75 rfl wf_X12_32 dX12_feeOf_202 ?_
          refine G_iconst C dX12_feeOf_205 ?_
          refine G_iald C ly_82 (by decide) (by decide) dX12_feeOf_206 ?_
          refine G_iadd C dX12_feeOf_207 ?_
          refine G_istore (L' := [rv 75, iv v1, iv v2, iv v3, iv v4, iv 1, iv ((s 105 (v4 - 1)) + (s 82 3))]) C dX12_feeOf_208 (by decide) rfl ?_
          refine G_aload_n C dX12_feeOf_210 rfl ?_
          refine gR_X12_50 C ly_75 rfl wf_X12_104 dX12_feeOf_211 ?_
          refine G_iload C dX12_feeOf_214 rfl ?_
          refine G_iload C dX12_feeOf_216 rfl ?_
          refine G_iast C ly_105 (by decide) h.1 dX12_feeOf_218 ?_
          have h := h.2
          have h := h _ rfl
          obtain ⟨s8, e8⟩ : ∃ z, z = up s 105 v4 ((s 105 (v4 - 1)) + (s 82 3)) := ⟨_, rfl⟩
          rw [← e8] at h ⊢
          refine G_iinc (L' := [rv 75, iv v1, iv v2, iv v3, iv (v4 + 1), iv 1, iv ((s 105 (v4 - 1)) + (s 82 3))]) C dX12_feeOf_219 (by decide) rfl rfl ?_
          refine G_goto (tgt := 61) C dX12_feeOf_222 (by decide) ?_
          refine G_drop (i := 5) (L' := [rv 75, iv v1, iv v2, iv v3, iv (v4 + 1), none, iv ((s 105 (v4 - 1)) + (s 82 3))]) rfl ?_
          refine G_drop (i := 6) (L' := [rv 75, iv v1, iv v2, iv v3, iv (v4 + 1), none, none]) rfl ?_
          exact h
set_option maxRecDepth 20000 in
theorem kb_X12_feeOf_228 {X : Cx} {d : Nat} {P : Int → Sto → Prop} (C : Ok LY X RX12 cX12_feeOf 7 d) (r : RetI LY X cX12_feeOf P) {v1 v2 v3 v4 : Int} {s : Sto} (h : ((0 ≤ v2 ∧ v2 < 51) ∧ ((rg v4 ∧ rg (s 76 v2)) ∧ (((s 76 v2) < v4 → G LY X 34 [rv 75, iv v1, iv v2, iv (v3 + 1), none, none, none] [] s) ∧ (v4 ≤ (s 76 v2) → ((0 ≤ v4 ∧ v4 < 7) ∧ ((0 ≤ v4 ∧ v4 < 7) ∧ (∀ s1 : Sto, s1 = up s 104 v4 (s 105 v4) → G LY X 228 [rv 75, iv v1, iv v2, iv v3, iv (v4 + 1), none, none] [] s1)))))))) : G LY X 228 [rv 75, iv v1, iv v2, iv v3, iv v4, none, none] [] s := by
  refine G_iload C dX12_feeOf_228 rfl ?_
  refine G_aload_n C dX12_feeOf_230 rfl ?_
  refine gR_X12_2 C ly_75 rfl wf_X12_7 dX12_feeOf_231 ?_
  refine G_iload_n C dX12_feeOf_234 rfl ?_
  refine G_iald C ly_76 (by decide) h.1 dX12_feeOf_235 ?_
  have h := h.2
  refine G_icmp_gt (tgt := 259) C dX12_feeOf_236 (by decide) ⟨h.1.1, h.1.2⟩ (fun q => ?_) (fun q => ?_)
  · have h := h.2.1 q
    refine G_iinc (L' := [rv 75, iv v1, iv v2, iv (v3 + 1), iv v4, none, none]) C dX12_feeOf_259 (by decide) rfl rfl ?_
    refine G_goto (tgt := 34) C dX12_feeOf_262 (by decide) ?_
    refine G_drop (i := 4) (L' := [rv 75, iv v1, iv v2, iv (v3 + 1), none, none, none]) rfl ?_
    exact h
  · have h := h.2.2 q
    refine G_aload_n C dX12_feeOf_239 rfl ?_
    refine gR_X12_49 C ly_75 rfl wf_X12_101 dX12_feeOf_240 ?_
    refine G_iload C dX12_feeOf_243 rfl ?_
    refine G_aload_n C dX12_feeOf_245 rfl ?_
    refine gR_X12_50 C ly_75 rfl wf_X12_104 dX12_feeOf_246 ?_
    refine G_iload C dX12_feeOf_249 rfl ?_
    refine G_iald C ly_105 (by decide) h.1 dX12_feeOf_251 ?_
    have h := h.2
    refine G_iast C ly_104 (by decide) h.1 dX12_feeOf_252 ?_
    have h := h.2
    have h := h _ rfl
    obtain ⟨s1, e1⟩ : ∃ z, z = up s 104 v4 (s 105 v4) := ⟨_, rfl⟩
    rw [← e1] at h ⊢
    refine G_iinc (L' := [rv 75, iv v1, iv v2, iv v3, iv (v4 + 1), none, none]) C dX12_feeOf_253 (by decide) rfl rfl ?_
    refine G_goto (tgt := 228) C dX12_feeOf_256 (by decide) ?_
    exact h
set_option maxRecDepth 20000 in
theorem kb_X12_may_0 {X : Cx} {d : Nat} {P : Int → Sto → Prop} (C : Ok LY X RX12 cX12_may 10 d) (r : RetZ LY X cX12_may P) {v1 v2 v3 : Int} {s : Sto} (h : (CallV LY d MX12_takesPlaces [.inr 75, .inl 0] s (fun s1 => ((0 ≤ v2 ∧ v2 < 51) ∧ (∀ s2 : Sto, s2 = up s1 99 0 (s1 76 v2) → ((rg (s1 76 v2)) ∧ (((s1 76 v2) ≠ 0 → ((0 ≤ (6 * v2) ∧ (6 * v2) < 306) ∧ ((rg (s2 77 (6 * v2)) ∧ rg (s2 75 9)) ∧ (((s2 75 9) ≤ (s2 77 (6 * v2)) → (∀ s3 : Sto, s3 = up s2 99 1 (s2 75 9) → ((rg (s1 76 v2)) ∧ (((s1 76 v2) ≠ 0 → ((0 ≤ (((6 * v2) + (s1 76 v2)) - 1) ∧ (((6 * v2) + (s1 76 v2)) - 1) < 306) ∧ ((rg (s3 77 (((6 * v2) + (s1 76 v2)) - 1)) ∧ rg (s3 75 9)) ∧ (((s3 75 9) ≤ (s3 77 (((6 * v2) + (s1 76 v2)) - 1)) → (∀ s4 : Sto, s4 = up s3 99 2 (s3 75 9) → G LY X 146 [rv 75, iv v1, iv v2, iv v3, iv (s1 76 v2), iv (6 * v2), iv 0, none, none, none] [] s4)) ∧ ((s3 77 (((6 * v2) + (s1 76 v2)) - 1)) < (s3 75 9) → ((0 ≤ (((6 * v2) + (s1 76 v2)) - 1) ∧ (((6 * v2) + (s1 76 v2)) - 1) < 306) ∧ ((0 ≤ (s3 77 (((6 * v2) + (s1 76 v2)) - 1)) ∧ (s3 77 (((6 * v2) + (s1 76 v2)) - 1)) < 8) ∧ (∀ s5 : Sto, s5 = up s3 99 2 (s3 101 (s3 77 (((6 * v2) + (s1 76 v2)) - 1))) → G LY X 146 [rv 75, iv v1, iv v2, iv v3, iv (s1 76 v2), iv (6 * v2), iv 0, none, none, none] [] s5)))))))) ∧ ((s1 76 v2) = 0 → (∀ s6 : Sto, s6 = up s3 99 2 ((s3 75 9) + 1) → G LY X 146 [rv 75, iv v1, iv v2, iv v3, iv (s1 76 v2), iv (6 * v2), iv 0, none, none, none] [] s6)))))) ∧ ((s2 77 (6 * v2)) < (s2 75 9) → ((0 ≤ (6 * v2) ∧ (6 * v2) < 306) ∧ ((0 ≤ (s2 77 (6 * v2)) ∧ (s2 77 (6 * v2)) < 8) ∧ (∀ s7 : Sto, s7 = up s2 99 1 (s2 101 (s2 77 (6 * v2))) → ((rg (s1 76 v2)) ∧ (((s1 76 v2) ≠ 0 → ((0 ≤ (((6 * v2) + (s1 76 v2)) - 1) ∧ (((6 * v2) + (s1 76 v2)) - 1) < 306) ∧ ((rg (s7 77 (((6 * v2) + (s1 76 v2)) - 1)) ∧ rg (s7 75 9)) ∧ (((s7 75 9) ≤ (s7 77 (((6 * v2) + (s1 76 v2)) - 1)) → (∀ s8 : Sto, s8 = up s7 99 2 (s7 75 9) → G LY X 146 [rv 75, iv v1, iv v2, iv v3, iv (s1 76 v2), iv (6 * v2), iv 0, none, none, none] [] s8)) ∧ ((s7 77 (((6 * v2) + (s1 76 v2)) - 1)) < (s7 75 9) → ((0 ≤ (((6 * v2) + (s1 76 v2)) - 1) ∧ (((6 * v2) + (s1 76 v2)) - 1) < 306) ∧ ((0 ≤ (s7 77 (((6 * v2) + (s1 76 v2)) - 1)) ∧ (s7 77 (((6 * v2) + (s1 76 v2)) - 1)) < 8) ∧ (∀ s9 : Sto, s9 = up s7 99 2 (s7 101 (s7 77 (((6 * v2) + (s1 76 v2)) - 1))) → G LY X 146 [rv 75, iv v1, iv v2, iv v3, iv (s1 76 v2), iv (6 * v2), iv 0, none, none, none] [] s9)))))))) ∧ ((s1 76 v2) = 0 → (∀ s10 : Sto, s10 = up s7 99 2 ((s7 75 9) + 1) → G LY X 146 [rv 75, iv v1, iv v2, iv v3, iv (s1 76 v2), iv (6 * v2), iv 0, none, none, none] [] s10)))))))))))) ∧ ((s1 76 v2) = 0 → (∀ s11 : Sto, s11 = up s2 99 1 ((s2 75 9) + 1) → ((rg (s1 76 v2)) ∧ (((s1 76 v2) ≠ 0 → ((0 ≤ (((6 * v2) + (s1 76 v2)) - 1) ∧ (((6 * v2) + (s1 76 v2)) - 1) < 306) ∧ ((rg (s11 77 (((6 * v2) + (s1 76 v2)) - 1)) ∧ rg (s11 75 9)) ∧ (((s11 75 9) ≤ (s11 77 (((6 * v2) + (s1 76 v2)) - 1)) → (∀ s12 : Sto, s12 = up s11 99 2 (s11 75 9) → G LY X 146 [rv 75, iv v1, iv v2, iv v3, iv (s1 76 v2), iv (6 * v2), iv 0, none, none, none] [] s12)) ∧ ((s11 77 (((6 * v2) + (s1 76 v2)) - 1)) < (s11 75 9) → ((0 ≤ (((6 * v2) + (s1 76 v2)) - 1) ∧ (((6 * v2) + (s1 76 v2)) - 1) < 306) ∧ ((0 ≤ (s11 77 (((6 * v2) + (s1 76 v2)) - 1)) ∧ (s11 77 (((6 * v2) + (s1 76 v2)) - 1)) < 8) ∧ (∀ s13 : Sto, s13 = up s11 99 2 (s11 101 (s11 77 (((6 * v2) + (s1 76 v2)) - 1))) → G LY X 146 [rv 75, iv v1, iv v2, iv v3, iv (s1 76 v2), iv (6 * v2), iv 0, none, none, none] [] s13)))))))) ∧ ((s1 76 v2) = 0 → (∀ s14 : Sto, s14 = up s11 99 2 ((s11 75 9) + 1) → G LY X 146 [rv 75, iv v1, iv v2, iv v3, iv (s1 76 v2), iv (6 * v2), iv 0, none, none, none] [] s14))))))))))))) : G LY X 0 [rv 75, iv v1, iv v2, iv v3, none, none, none, none, none, none] [] s := by
  refine G_aload_n C dX12_may_0 rfl ?_
  refine G_iconst C dX12_may_1 ?_
  refine G_callVV (K := []) (args := [.inl 0]) (T := TX12) (N := 72) C ly_75 rfl (Nat.le_of_ble_eq_true rfl) mo_X12_takesPlaces wc_X12_311 rfl dX12_may_2 h (fun s1 h => ?_)
  refine G_aload_n C dX12_may_5 rfl ?_
  refine gR_X12_2 C ly_75 rfl wf_X12_7 dX12_may_6 ?_
  refine G_iload_n C dX12_may_9 rfl ?_
  refine G_iald C ly_76 (by decide) h.1 dX12_may_10 ?_
  have h := h.2
  refine G_istore (L' := [rv 75, iv v1, iv v2, iv v3, iv (s1 76 v2), none, none, none, none, none]) C dX12_may_11 (by decide) rfl ?_
  refine G_bipush C dX12_may_13 bi_6 ?_
  refine G_iload_n C dX12_may_15 rfl ?_
  refine G_imul C dX12_may_16 ?_
  refine G_istore (L' := [rv 75, iv v1, iv v2, iv v3, iv (s1 76 v2), iv (6 * v2), none, none, none, none]) C dX12_may_17 (by decide) rfl ?_
  refine G_aload_n C dX12_may_19 rfl ?_
  refine gR_X12_44 C ly_75 rfl wf_X12_86 dX12_may_20 ?_
  refine G_iconst C dX12_may_23 ?_
  refine G_iload C dX12_may_24 rfl ?_
  refine G_iast C ly_99 (by decide) (by decide) dX12_may_26 ?_
  have h := h _ rfl
  obtain ⟨s2, e2⟩ : ∃ z, z = up s1 99 0 (s1 76 v2) := ⟨_, rfl⟩
  rw [← e2] at h ⊢
  refine G_aload_n C dX12_may_27 rfl ?_
  refine gR_X12_44 C ly_75 rfl wf_X12_86 dX12_may_28 ?_
  refine G_iconst C dX12_may_31 ?_
  refine G_iload C dX12_may_32 rfl ?_
  refine G_if_ne (tgt := 46) C dX12_may_34 (by decide) h.1 (fun q => ?_) (fun q => ?_)
  · have h := h.2.1 q
    refine G_aload_n C dX12_may_46 rfl ?_
    refine gR_X12_3 C ly_75 rfl wf_X12_13 dX12_may_47 ?_
    refine G_iload C dX12_may_50 rfl ?_
    refine G_iald C ly_77 (by decide) h.1 dX12_may_52 ?_
    have h := h.2
    refine G_aload_n C dX12_may_53 rfl ?_
    refine gI_X12_9 C ly_75 rfl wf_X12_25 dX12_may_54 ?_
    refine G_icmp_ge (tgt := 75) C dX12_may_57 (by decide) ⟨h.1.1, h.1.2⟩ (fun q => ?_) (fun q => ?_)
    · have h := h.2.1 q
      refine G_aload_n C dX12_may_75 rfl ?_
      refine gI_X12_9 C ly_75 rfl wf_X12_25 dX12_may_76 ?_
      refine G_iast C ly_99 (by decide) (by decide) dX12_may_79 ?_
      have h := h _ rfl
      obtain ⟨s3, e3⟩ : ∃ z, z = up s2 99 1 (s2 75 9) := ⟨_, rfl⟩
      rw [← e3] at h ⊢
      refine G_aload_n C dX12_may_80 rfl ?_
      refine gR_X12_44 C ly_75 rfl wf_X12_86 dX12_may_81 ?_
      refine G_iconst C dX12_may_84 ?_
      refine G_iload C dX12_may_85 rfl ?_
      refine G_if_ne (tgt := 99) C dX12_may_87 (by decide) h.1 (fun q => ?_) (fun q => ?_)
      · have h := h.2.1 q
        refine G_aload_n C dX12_may_99 rfl ?_
        refine gR_X12_3 C ly_75 rfl wf_X12_13 dX12_may_100 ?_
        refine G_iload C dX12_may_103 rfl ?_
        refine G_iload C dX12_may_105 rfl ?_
        refine G_iadd C dX12_may_107 ?_
        refine G_iconst C dX12_may_108 ?_
        refine G_isub C dX12_may_109 ?_
        refine G_iald C ly_77 (by decide) h.1 dX12_may_110 ?_
        have h := h.2
        refine G_aload_n C dX12_may_111 rfl ?_
        refine gI_X12_9 C ly_75 rfl wf_X12_25 dX12_may_112 ?_
        refine G_icmp_ge (tgt := 138) C dX12_may_115 (by decide) ⟨h.1.1, h.1.2⟩ (fun q => ?_) (fun q => ?_)
        · have h := h.2.1 q
          refine G_aload_n C dX12_may_138 rfl ?_
          refine gI_X12_9 C ly_75 rfl wf_X12_25 dX12_may_139 ?_
          refine G_iast C ly_99 (by decide) (by decide) dX12_may_142 ?_
          have h := h _ rfl
          obtain ⟨s4, e4⟩ : ∃ z, z = up s3 99 2 (s3 75 9) := ⟨_, rfl⟩
          rw [← e4] at h ⊢
          refine G_iconst C dX12_may_143 ?_
          refine G_istore (L' := [rv 75, iv v1, iv v2, iv v3, iv (s1 76 v2), iv (6 * v2), iv 0, none, none, none]) C dX12_may_144 (by decide) rfl ?_
          exact h
        · have h := h.2.2 q
          refine G_aload_n C dX12_may_118 rfl ?_
          refine gR_X12_46 C ly_75 rfl wf_X12_92 dX12_may_119 ?_
          refine G_aload_n C dX12_may_122 rfl ?_
          refine gR_X12_3 C ly_75 rfl wf_X12_13 dX12_may_123 ?_
          refine G_iload C dX12_may_126 rfl ?_
          refine G_iload C dX12_may_128 rfl ?_
          refine G_iadd C dX12_may_130 ?_
          refine G_iconst C dX12_may_131 ?_
          refine G_isub C dX12_may_132 ?_
          refine G_iald C ly_77 (by decide) h.1 dX12_may_133 ?_
          have h := h.2
          refine G_iald C ly_101 (by decide) h.1 dX12_may_134 ?_
          have h := h.2
          refine G_goto (tgt := 142) C dX12_may_135 (by decide) ?_
          refine G_iast C ly_99 (by decide) (by decide) dX12_may_142 ?_
          have h := h _ rfl
          obtain ⟨s5, e5⟩ : ∃ z, z = up s3 99 2 (s3 101 (s3 77 (((6 * v2) + (s1 76 v2)) - 1))) := ⟨_, rfl⟩
          rw [← e5] at h ⊢
          refine G_iconst C dX12_may_143 ?_
          refine G_istore (L' := [rv 75, iv v1, iv v2, iv v3, iv (s1 76 v2), iv (6 * v2), iv 0, none, none, none]) C dX12_may_144 (by decide) rfl ?_
          exact h
      · have h := h.2.2 q
        refine G_aload_n C dX12_may_90 rfl ?_
        refine gI_X12_9 C ly_75 rfl wf_X12_25 dX12_may_91 ?_
        refine G_iconst C dX12_may_94 ?_
        refine G_iadd C dX12_may_95 ?_
        refine G_goto (tgt := 142) C dX12_may_96 (by decide) ?_
        refine G_iast C ly_99 (by decide) (by decide) dX12_may_142 ?_
        have h := h _ rfl
        obtain ⟨s6, e6⟩ : ∃ z, z = up s3 99 2 ((s3 75 9) + 1) := ⟨_, rfl⟩
        rw [← e6] at h ⊢
        refine G_iconst C dX12_may_143 ?_
        refine G_istore (L' := [rv 75, iv v1, iv v2, iv v3, iv (s1 76 v2), iv (6 * v2), iv 0, none, none, none]) C dX12_may_144 (by decide) rfl ?_
        exact h
    · have h := h.2.2 q
      refine G_aload_n C dX12_may_60 rfl ?_
      refine gR_X12_46 C ly_75 rfl wf_X12_92 dX12_may_61 ?_
      refine G_aload_n C dX12_may_64 rfl ?_
      refine gR_X12_3 C ly_75 rfl wf_X12_13 dX12_may_65 ?_
      refine G_iload C dX12_may_68 rfl ?_
      refine G_iald C ly_77 (by decide) h.1 dX12_may_70 ?_
      have h := h.2
      refine G_iald C ly_101 (by decide) h.1 dX12_may_71 ?_
      have h := h.2
      refine G_goto (tgt := 79) C dX12_may_72 (by decide) ?_
      refine G_iast C ly_99 (by decide) (by decide) dX12_may_79 ?_
      have h := h _ rfl
      obtain ⟨s7, e7⟩ : ∃ z, z = up s2 99 1 (s2 101 (s2 77 (6 * v2))) := ⟨_, rfl⟩
      rw [← e7] at h ⊢
      refine G_aload_n C dX12_may_80 rfl ?_
      refine gR_X12_44 C ly_75 rfl wf_X12_86 dX12_may_81 ?_
      refine G_iconst C dX12_may_84 ?_
      refine G_iload C dX12_may_85 rfl ?_
      refine G_if_ne (tgt := 99) C dX12_may_87 (by decide) h.1 (fun q => ?_) (fun q => ?_)
      · have h := h.2.1 q
        refine G_aload_n C dX12_may_99 rfl ?_
        refine gR_X12_3 C ly_75 rfl wf_X12_13 dX12_may_100 ?_
        refine G_iload C dX12_may_103 rfl ?_
        refine G_iload C dX12_may_105 rfl ?_
        refine G_iadd C dX12_may_107 ?_
        refine G_iconst C dX12_may_108 ?_
        refine G_isub C dX12_may_109 ?_
        refine G_iald C ly_77 (by decide) h.1 dX12_may_110 ?_
        have h := h.2
        refine G_aload_n C dX12_may_111 rfl ?_
        refine gI_X12_9 C ly_75 rfl wf_X12_25 dX12_may_112 ?_
        refine G_icmp_ge (tgt := 138) C dX12_may_115 (by decide) ⟨h.1.1, h.1.2⟩ (fun q => ?_) (fun q => ?_)
        · have h := h.2.1 q
          refine G_aload_n C dX12_may_138 rfl ?_
          refine gI_X12_9 C ly_75 rfl wf_X12_25 dX12_may_139 ?_
          refine G_iast C ly_99 (by decide) (by decide) dX12_may_142 ?_
          have h := h _ rfl
          obtain ⟨s8, e8⟩ : ∃ z, z = up s7 99 2 (s7 75 9) := ⟨_, rfl⟩
          rw [← e8] at h ⊢
          refine G_iconst C dX12_may_143 ?_
          refine G_istore (L' := [rv 75, iv v1, iv v2, iv v3, iv (s1 76 v2), iv (6 * v2), iv 0, none, none, none]) C dX12_may_144 (by decide) rfl ?_
          exact h
        · have h := h.2.2 q
          refine G_aload_n C dX12_may_118 rfl ?_
          refine gR_X12_46 C ly_75 rfl wf_X12_92 dX12_may_119 ?_
          refine G_aload_n C dX12_may_122 rfl ?_
          refine gR_X12_3 C ly_75 rfl wf_X12_13 dX12_may_123 ?_
          refine G_iload C dX12_may_126 rfl ?_
          refine G_iload C dX12_may_128 rfl ?_
          refine G_iadd C dX12_may_130 ?_
          refine G_iconst C dX12_may_131 ?_
          refine G_isub C dX12_may_132 ?_
          refine G_iald C ly_77 (by decide) h.1 dX12_may_133 ?_
          have h := h.2
          refine G_iald C ly_101 (by decide) h.1 dX12_may_134 ?_
          have h := h.2
          refine G_goto (tgt := 142) C dX12_may_135 (by decide) ?_
          refine G_iast C ly_99 (by decide) (by decide) dX12_may_142 ?_
          have h := h _ rfl
          obtain ⟨s9, e9⟩ : ∃ z, z = up s7 99 2 (s7 101 (s7 77 (((6 * v2) + (s1 76 v2)) - 1))) := ⟨_, rfl⟩
          rw [← e9] at h ⊢
          refine G_iconst C dX12_may_143 ?_
          refine G_istore (L' := [rv 75, iv v1, iv v2, iv v3, iv (s1 76 v2), iv (6 * v2), iv 0, none, none, none]) C dX12_may_144 (by decide) rfl ?_
          exact h
      · have h := h.2.2 q
        refine G_aload_n C dX12_may_90 rfl ?_
        refine gI_X12_9 C ly_75 rfl wf_X12_25 dX12_may_91 ?_
        refine G_iconst C dX12_may_94 ?_
        refine G_iadd C dX12_may_95 ?_
        refine G_goto (tgt := 142) C dX12_may_96 (by decide) ?_
        refine G_iast C ly_99 (by decide) (by decide) dX12_may_142 ?_
        have h := h _ rfl
        obtain ⟨s10, e10⟩ : ∃ z, z = up s7 99 2 ((s7 75 9) + 1) := ⟨_, rfl⟩
        rw [← e10] at h ⊢
        refine G_iconst C dX12_may_143 ?_
        refine G_istore (L' := [rv 75, iv v1, iv v2, iv v3, iv (s1 76 v2), iv (6 * v2), iv 0, none, none, none]) C dX12_may_144 (by decide) rfl ?_
        exact h
  · have h := h.2.2 q
    refine G_aload_n C dX12_may_37 rfl ?_
    refine gI_X12_9 C ly_75 rfl wf_X12_25 dX12_may_38 ?_
    refine G_iconst C dX12_may_41 ?_
    refine G_iadd C dX12_may_42 ?_
    refine G_goto (tgt := 79) C dX12_may_43 (by decide) ?_
    refine G_iast C ly_99 (by decide) (by decide) dX12_may_79 ?_
    have h := h _ rfl
    obtain ⟨s11, e11⟩ : ∃ z, z = up s2 99 1 ((s2 75 9) + 1) := ⟨_, rfl⟩
    rw [← e11] at h ⊢
    refine G_aload_n C dX12_may_80 rfl ?_
    refine gR_X12_44 C ly_75 rfl wf_X12_86 dX12_may_81 ?_
    refine G_iconst C dX12_may_84 ?_
    refine G_iload C dX12_may_85 rfl ?_
    refine G_if_ne (tgt := 99) C dX12_may_87 (by decide) h.1 (fun q => ?_) (fun q => ?_)
    · have h := h.2.1 q
      refine G_aload_n C dX12_may_99 rfl ?_
      refine gR_X12_3 C ly_75 rfl wf_X12_13 dX12_may_100 ?_
      refine G_iload C dX12_may_103 rfl ?_
      refine G_iload C dX12_may_105 rfl ?_
      refine G_iadd C dX12_may_107 ?_
      refine G_iconst C dX12_may_108 ?_
      refine G_isub C dX12_may_109 ?_
      refine G_iald C ly_77 (by decide) h.1 dX12_may_110 ?_
      have h := h.2
      refine G_aload_n C dX12_may_111 rfl ?_
      refine gI_X12_9 C ly_75 rfl wf_X12_25 dX12_may_112 ?_
      refine G_icmp_ge (tgt := 138) C dX12_may_115 (by decide) ⟨h.1.1, h.1.2⟩ (fun q => ?_) (fun q => ?_)
      · have h := h.2.1 q
        refine G_aload_n C dX12_may_138 rfl ?_
        refine gI_X12_9 C ly_75 rfl wf_X12_25 dX12_may_139 ?_
        refine G_iast C ly_99 (by decide) (by decide) dX12_may_142 ?_
        have h := h _ rfl
        obtain ⟨s12, e12⟩ : ∃ z, z = up s11 99 2 (s11 75 9) := ⟨_, rfl⟩
        rw [← e12] at h ⊢
        refine G_iconst C dX12_may_143 ?_
        refine G_istore (L' := [rv 75, iv v1, iv v2, iv v3, iv (s1 76 v2), iv (6 * v2), iv 0, none, none, none]) C dX12_may_144 (by decide) rfl ?_
        exact h
      · have h := h.2.2 q
        refine G_aload_n C dX12_may_118 rfl ?_
        refine gR_X12_46 C ly_75 rfl wf_X12_92 dX12_may_119 ?_
        refine G_aload_n C dX12_may_122 rfl ?_
        refine gR_X12_3 C ly_75 rfl wf_X12_13 dX12_may_123 ?_
        refine G_iload C dX12_may_126 rfl ?_
        refine G_iload C dX12_may_128 rfl ?_
        refine G_iadd C dX12_may_130 ?_
        refine G_iconst C dX12_may_131 ?_
        refine G_isub C dX12_may_132 ?_
        refine G_iald C ly_77 (by decide) h.1 dX12_may_133 ?_
        have h := h.2
        refine G_iald C ly_101 (by decide) h.1 dX12_may_134 ?_
        have h := h.2
        refine G_goto (tgt := 142) C dX12_may_135 (by decide) ?_
        refine G_iast C ly_99 (by decide) (by decide) dX12_may_142 ?_
        have h := h _ rfl
        obtain ⟨s13, e13⟩ : ∃ z, z = up s11 99 2 (s11 101 (s11 77 (((6 * v2) + (s1 76 v2)) - 1))) := ⟨_, rfl⟩
        rw [← e13] at h ⊢
        refine G_iconst C dX12_may_143 ?_
        refine G_istore (L' := [rv 75, iv v1, iv v2, iv v3, iv (s1 76 v2), iv (6 * v2), iv 0, none, none, none]) C dX12_may_144 (by decide) rfl ?_
        exact h
    · have h := h.2.2 q
      refine G_aload_n C dX12_may_90 rfl ?_
      refine gI_X12_9 C ly_75 rfl wf_X12_25 dX12_may_91 ?_
      refine G_iconst C dX12_may_94 ?_
      refine G_iadd C dX12_may_95 ?_
      refine G_goto (tgt := 142) C dX12_may_96 (by decide) ?_
      refine G_iast C ly_99 (by decide) (by decide) dX12_may_142 ?_
      have h := h _ rfl
      obtain ⟨s14, e14⟩ : ∃ z, z = up s11 99 2 ((s11 75 9) + 1) := ⟨_, rfl⟩
      rw [← e14] at h ⊢
      refine G_iconst C dX12_may_143 ?_
      refine G_istore (L' := [rv 75, iv v1, iv v2, iv v3, iv (s1 76 v2), iv (6 * v2), iv 0, none, none, none]) C dX12_may_144 (by decide) rfl ?_
      exact h
set_option maxRecDepth 20000 in
theorem kb_X12_may_146 {X : Cx} {d : Nat} {P : Int → Sto → Prop} (C : Ok LY X RX12 cX12_may 10 d) (r : RetZ LY X cX12_may P) {v1 v2 v3 v4 v5 v6 : Int} {s : Sto} (h : ((rg v6 ∧ rg v4) ∧ ((v4 ≤ v6 → (∀ s1 : Sto, s1 = up s 99 3 v6 → (∀ s2 : Sto, s2 = up s1 99 4 0 → (∀ s3 : Sto, s3 = up s2 99 5 0 → G LY X 226 [rv 75, iv v1, iv v2, iv v3, iv v4, iv v5, iv v6, iv 0, iv 0, none] [] s3)))) ∧ (v6 < v4 → ((0 ≤ v1 ∧ v1 < 51) ∧ ((rg v6 ∧ rg (s 76 v1)) ∧ (((s 76 v1) ≤ v6 → (∀ s4 : Sto, s4 = up s 99 3 v6 → (∀ s5 : Sto, s5 = up s4 99 4 0 → (∀ s6 : Sto, s6 = up s5 99 5 0 → G LY X 226 [rv 75, iv v1, iv v2, iv v3, iv v4, iv v5, iv v6, iv 0, iv 0, none] [] s6)))) ∧ (v6 < (s 76 v1) → ((0 ≤ (v5 + v6) ∧ (v5 + v6) < 306) ∧ ((0 ≤ ((6 * v1) + v6) ∧ ((6 * v1) + v6) < 306) ∧ ((rg (s 77 (v5 + v6)) ∧ rg (s 77 ((6 * v1) + v6))) ∧ (((s 77 (v5 + v6)) ≠ (s 77 ((6 * v1) + v6)) → (∀ s7 : Sto, s7 = up s 99 3 v6 → (∀ s8 : Sto, s8 = up s7 99 4 0 → (∀ s9 : Sto, s9 = up s8 99 5 0 → G LY X 226 [rv 75, iv v1, iv v2, iv v3, iv v4, iv v5, iv v6, iv 0, iv 0, none] [] s9)))) ∧ ((s 77 (v5 + v6)) = (s 77 ((6 * v1) + v6)) → G LY X 146 [rv 75, iv v1, iv v2, iv v3, iv v4, iv v5, iv (v6 + 1), none, none, none] [] s))))))))))))) : G LY X 146 [rv 75, iv v1, iv v2, iv v3, iv v4, iv v5, iv v6, none, none, none] [] s := by
  refine G_iload C dX12_may_146 rfl ?_
  refine G_iload C dX12_may_148 rfl ?_
  refine G_icmp_ge (tgt := 198) C dX12_may_150 (by decide) ⟨h.1.1, h.1.2⟩ (fun q => ?_) (fun q => ?_)
  · have h := h.2.1 q
    refine G_aload_n C dX12_may_198 rfl ?_
    refine gR_X12_44 C ly_75 rfl wf_X12_86 dX12_may_199 ?_
    refine G_iconst C dX12_may_202 ?_
    refine G_iload C dX12_may_203 rfl ?_
    refine G_iast C ly_99 (by decide) (by decide) dX12_may_205 ?_
    have h := h _ rfl
    obtain ⟨s1, e1⟩ : ∃ z, z = up s 99 3 v6 := ⟨_, rfl⟩
    rw [← e1] at h ⊢
    refine G_aload_n C dX12_may_206 rfl ?_
    refine gR_X12_44 C ly_75 rfl wf_X12_86 dX12_may_207 ?_
    refine G_iconst C dX12_may_210 ?_
    refine G_iconst C dX12_may_211 ?_
    refine G_iast C ly_99 (by decide) (by decide) dX12_may_212 ?_
    have h := h _ rfl
    obtain ⟨s2, e2⟩ : ∃ z, z = up s1 99 4 0 := ⟨_, rfl⟩
    rw [← e2] at h ⊢
    refine G_aload_n C dX12_may_213 rfl ?_
    refine gR_X12_44 C ly_75 rfl wf_X12_86 dX12_may_214 ?_
    refine G_iconst C dX12_may_217 ?_
    refine G_iconst C dX12_may_218 ?_
    refine G_iast C ly_99 (by decide) (by decide) dX12_may_219 ?_
    have h := h _ rfl
    obtain ⟨s3, e3⟩ : ∃ z, z = up s2 99 5 0 := ⟨_, rfl⟩
    rw [← e3] at h ⊢
    refine G_iconst C dX12_may_220 ?_
    refine G_istore (L' := [rv 75, iv v1, iv v2, iv v3, iv v4, iv v5, iv v6, iv 0, none, none]) C dX12_may_221 (by decide) rfl ?_
    refine G_iconst C dX12_may_223 ?_
    refine G_istore (L' := [rv 75, iv v1, iv v2, iv v3, iv v4, iv v5, iv v6, iv 0, iv 0, none]) C dX12_may_224 (by decide) rfl ?_
    exact h
  · have h := h.2.2 q
    refine G_iload C dX12_may_153 rfl ?_
    refine G_aload_n C dX12_may_155 rfl ?_
    refine gR_X12_2 C ly_75 rfl wf_X12_7 dX12_may_156 ?_
    refine G_iload_n C dX12_may_159 rfl ?_
    refine G_iald C ly_76 (by decide) h.1 dX12_may_160 ?_
    have h := h.2
    refine G_icmp_ge (tgt := 198) C dX12_may_161 (by decide) ⟨h.1.1, h.1.2⟩ (fun q => ?_) (fun q => ?_)
    · have h := h.2.1 q
      refine G_aload_n C dX12_may_198 rfl ?_
      refine gR_X12_44 C ly_75 rfl wf_X12_86 dX12_may_199 ?_
      refine G_iconst C dX12_may_202 ?_
      refine G_iload C dX12_may_203 rfl ?_
      refine G_iast C ly_99 (by decide) (by decide) dX12_may_205 ?_
      have h := h _ rfl
      obtain ⟨s4, e4⟩ : ∃ z, z = up s 99 3 v6 := ⟨_, rfl⟩
      rw [← e4] at h ⊢
      refine G_aload_n C dX12_may_206 rfl ?_
      refine gR_X12_44 C ly_75 rfl wf_X12_86 dX12_may_207 ?_
      refine G_iconst C dX12_may_210 ?_
      refine G_iconst C dX12_may_211 ?_
      refine G_iast C ly_99 (by decide) (by decide) dX12_may_212 ?_
      have h := h _ rfl
      obtain ⟨s5, e5⟩ : ∃ z, z = up s4 99 4 0 := ⟨_, rfl⟩
      rw [← e5] at h ⊢
      refine G_aload_n C dX12_may_213 rfl ?_
      refine gR_X12_44 C ly_75 rfl wf_X12_86 dX12_may_214 ?_
      refine G_iconst C dX12_may_217 ?_
      refine G_iconst C dX12_may_218 ?_
      refine G_iast C ly_99 (by decide) (by decide) dX12_may_219 ?_
      have h := h _ rfl
      obtain ⟨s6, e6⟩ : ∃ z, z = up s5 99 5 0 := ⟨_, rfl⟩
      rw [← e6] at h ⊢
      refine G_iconst C dX12_may_220 ?_
      refine G_istore (L' := [rv 75, iv v1, iv v2, iv v3, iv v4, iv v5, iv v6, iv 0, none, none]) C dX12_may_221 (by decide) rfl ?_
      refine G_iconst C dX12_may_223 ?_
      refine G_istore (L' := [rv 75, iv v1, iv v2, iv v3, iv v4, iv v5, iv v6, iv 0, iv 0, none]) C dX12_may_224 (by decide) rfl ?_
      exact h
    · have h := h.2.2 q
      refine G_aload_n C dX12_may_164 rfl ?_
      refine gR_X12_3 C ly_75 rfl wf_X12_13 dX12_may_165 ?_
      refine G_iload C dX12_may_168 rfl ?_
      refine G_iload C dX12_may_170 rfl ?_
      refine G_iadd C dX12_may_172 ?_
      refine G_iald C ly_77 (by decide) h.1 dX12_may_173 ?_
      have h := h.2
      refine G_aload_n C dX12_may_174 rfl ?_
      refine gR_X12_3 C ly_75 rfl wf_X12_13 dX12_may_175 ?_
      refine G_bipush C dX12_may_178 bi_6 ?_
      refine G_iload_n C dX12_may_180 rfl ?_
      refine G_imul C dX12_may_181 ?_
      refine G_iload C dX12_may_182 rfl ?_
      refine G_iadd C dX12_may_184 ?_
      refine G_iald C ly_77 (by decide) h.1 dX12_may_185 ?_
      have h := h.2
      refine G_icmp_ne (tgt := 198) C dX12_may_186 (by decide) ⟨h.1.1, h.1.2⟩ (fun q => ?_) (fun q => ?_)
      · have h := h.2.1 q
        refine G_aload_n C dX12_may_198 rfl ?_
        refine gR_X12_44 C ly_75 rfl wf_X12_86 dX12_may_199 ?_
        refine G_iconst C dX12_may_202 ?_
        refine G_iload C dX12_may_203 rfl ?_
        refine G_iast C ly_99 (by decide) (by decide) dX12_may_205 ?_
        have h := h _ rfl
        obtain ⟨s7, e7⟩ : ∃ z, z = up s 99 3 v6 := ⟨_, rfl⟩
        rw [← e7] at h ⊢
        refine G_aload_n C dX12_may_206 rfl ?_
        refine gR_X12_44 C ly_75 rfl wf_X12_86 dX12_may_207 ?_
        refine G_iconst C dX12_may_210 ?_
        refine G_iconst C dX12_may_211 ?_
        refine G_iast C ly_99 (by decide) (by decide) dX12_may_212 ?_
        have h := h _ rfl
        obtain ⟨s8, e8⟩ : ∃ z, z = up s7 99 4 0 := ⟨_, rfl⟩
        rw [← e8] at h ⊢
        refine G_aload_n C dX12_may_213 rfl ?_
        refine gR_X12_44 C ly_75 rfl wf_X12_86 dX12_may_214 ?_
        refine G_iconst C dX12_may_217 ?_
        refine G_iconst C dX12_may_218 ?_
        refine G_iast C ly_99 (by decide) (by decide) dX12_may_219 ?_
        have h := h _ rfl
        obtain ⟨s9, e9⟩ : ∃ z, z = up s8 99 5 0 := ⟨_, rfl⟩
        rw [← e9] at h ⊢
        refine G_iconst C dX12_may_220 ?_
        refine G_istore (L' := [rv 75, iv v1, iv v2, iv v3, iv v4, iv v5, iv v6, iv 0, none, none]) C dX12_may_221 (by decide) rfl ?_
        refine G_iconst C dX12_may_223 ?_
        refine G_istore (L' := [rv 75, iv v1, iv v2, iv v3, iv v4, iv v5, iv v6, iv 0, iv 0, none]) C dX12_may_224 (by decide) rfl ?_
        exact h
      · have h := h.2.2 q
        refine G_iload C dX12_may_189 rfl ?_
        refine G_iconst C dX12_may_191 ?_
        refine G_iadd C dX12_may_192 ?_
        refine G_istore (L' := [rv 75, iv v1, iv v2, iv v3, iv v4, iv v5, iv (v6 + 1), none, none, none]) C dX12_may_193 (by decide) rfl ?_
        refine G_goto (tgt := 146) C dX12_may_195 (by decide) ?_
        exact h
set_option maxRecDepth 20000 in
theorem kb_X12_may_226 {X : Cx} {d : Nat} {P : Int → Sto → Prop} (C : Ok LY X RX12 cX12_may 10 d) (r : RetZ LY X cX12_may P) {v1 v2 v3 v4 v5 v6 v7 v8 : Int} {s : Sto} (h : ((rg v8 ∧ rg v4) ∧ ((v4 ≤ v8 → ((0 ≤ v1 ∧ v1 < 20) ∧ (∀ s1 : Sto, s1 = up s 99 6 (s 79 v1) → ((0 ≤ v1 ∧ v1 < 20) ∧ (∀ s2 : Sto, s2 = up s1 99 7 (s1 80 v1) → ((0 ≤ v1 ∧ v1 < 20) ∧ (∀ s3 : Sto, s3 = up s2 99 8 (s2 78 v1) → (∀ s4 : Sto, s4 = up s3 99 9 v3 → G LY X 351 [rv 75, iv v1, iv v2, iv v3, iv v4, iv v5, iv v6, iv v7, iv 0, none] [] s4)))))))) ∧ (v8 < v4 → ((0 ≤ (v5 + v8) ∧ (v5 + v8) < 306) ∧ ((rg (s 77 (v5 + v8)) ∧ rg (s 75 9)) ∧ (((s 77 (v5 + v8)) < (s 75 9) → (((xand (xshr v7 (s 77 (v5 + v8))) 1) ≠ 1 → G LY X 226 [rv 75, iv v1, iv v2, iv v3, iv v4, iv v5, iv v6, iv (xor_ v7 (xshl 1 (s 77 (v5 + v8)))), iv (v8 + 1), none] [] s) ∧ ((xand (xshr v7 (s 77 (v5 + v8))) 1) = 1 → (∀ s5 : Sto, s5 = up s 99 5 1 → G LY X 226 [rv 75, iv v1, iv v2, iv v3, iv v4, iv v5, iv v6, iv (xor_ v7 (xshl 1 (s 77 (v5 + v8)))), iv (v8 + 1), none] [] s5)))) ∧ ((s 75 9) ≤ (s 77 (v5 + v8)) → (∀ s6 : Sto, s6 = up s 99 4 ((s 99 4) + 1) → (((xand (xshr v7 (s 77 (v5 + v8))) 1) ≠ 1 → G LY X 226 [rv 75, iv v1, iv v2, iv v3, iv v4, iv v5, iv v6, iv (xor_ v7 (xshl 1 (s 77 (v5 + v8)))), iv (v8 + 1), none] [] s6) ∧ ((xand (xshr v7 (s 77 (v5 + v8))) 1) = 1 → (∀ s7 : Sto, s7 = up s6 99 5 1 → G LY X 226 [rv 75, iv v1, iv v2, iv v3, iv v4, iv v5, iv v6, iv (xor_ v7 (xshl 1 (s 77 (v5 + v8)))), iv (v8 + 1), none] [] s7)))))))))))) : G LY X 226 [rv 75, iv v1, iv v2, iv v3, iv v4, iv v5, iv v6, iv v7, iv v8, none] [] s := by
  refine G_iload C dX12_may_226 rfl ?_
  refine G_iload C dX12_may_228 rfl ?_
  refine G_icmp_ge (tgt := 301) C dX12_may_230 (by decide) ⟨h.1.1, h.1.2⟩ (fun q => ?_) (fun q => ?_)
  · have h := h.2.1 q
    refine G_aload_n C dX12_may_301 rfl ?_
    refine gR_X12_44 C ly_75 rfl wf_X12_86 dX12_may_302 ?_
    refine G_bipush C dX12_may_305 bi_6 ?_
    refine G_aload_n C dX12_may_307 rfl ?_
    refine gR_X12_6 C ly_75 rfl wf_X12_19 dX12_may_308 ?_
    refine G_iload_n C dX12_may_311 rfl ?_
    refine G_iald C ly_79 (by decide) h.1 dX12_may_312 ?_
    have h := h.2
    refine G_iast C ly_99 (by decide) (by decide) dX12_may_313 ?_
    have h := h _ rfl
    obtain ⟨s1, e1⟩ : ∃ z, z = up s 99 6 (s 79 v1) := ⟨_, rfl⟩
    rw [← e1] at h ⊢
    refine G_aload_n C dX12_may_314 rfl ?_
    refine gR_X12_44 C ly_75 rfl wf_X12_86 dX12_may_315 ?_
    refine G_bipush C dX12_may_318 bi_7 ?_
    refine G_aload_n C dX12_may_320 rfl ?_
    refine gR_X12_7 C ly_75 rfl wf_X12_22 dX12_may_321 ?_
    refine G_iload_n C dX12_may_324 rfl ?_
    refine G_iald C ly_80 (by decide) h.1 dX12_may_325 ?_
    have h := h.2
    refine G_iast C ly_99 (by decide) (by decide) dX12_may_326 ?_
    have h := h _ rfl
    obtain ⟨s2, e2⟩ : ∃ z, z = up s1 99 7 (s1 80 v1) := ⟨_, rfl⟩
    rw [← e2] at h ⊢
    refine G_aload_n C dX12_may_327 rfl ?_
    refine gR_X12_44 C ly_75 rfl wf_X12_86 dX12_may_328 ?_
    refine G_bipush C dX12_may_331 bi_8 ?_
    refine G_aload_n C dX12_may_333 rfl ?_
    refine gR_X12_5 C ly_75 rfl wf_X12_16 dX12_may_334 ?_
    refine G_iload_n C dX12_may_337 rfl ?_
    refine G_iald C ly_78 (by decide) h.1 dX12_may_338 ?_
    have h := h.2
    refine G_iast C ly_99 (by decide) (by decide) dX12_may_339 ?_
    have h := h _ rfl
    obtain ⟨s3, e3⟩ : ∃ z, z = up s2 99 8 (s2 78 v1) := ⟨_, rfl⟩
    rw [← e3] at h ⊢
    refine G_aload_n C dX12_may_340 rfl ?_
    refine gR_X12_44 C ly_75 rfl wf_X12_86 dX12_may_341 ?_
    refine G_bipush C dX12_may_344 bi_9 ?_
    refine G_iload_n C dX12_may_346 rfl ?_
    refine G_iast C ly_99 (by decide) (by decide) dX12_may_347 ?_
    have h := h _ rfl
    obtain ⟨s4, e4⟩ : ∃ z, z = up s3 99 9 v3 := ⟨_, rfl⟩
    rw [← e4] at h ⊢
    refine G_iconst C dX12_may_348 ?_
    refine G_istore (L' := [rv 75, iv v1, iv v2, iv v3, iv v4, iv v5, iv v6, iv v7, iv 0, none]) C dX12_may_349 (by decide) rfl ?_
    exact h
  · have h := h.2.2 q
    refine G_aload_n C dX12_may_233 rfl ?_
    refine gR_X12_3 C ly_75 rfl wf_X12_13 dX12_may_234 ?_
    refine G_iload C dX12_may_237 rfl ?_
    refine G_iload C dX12_may_239 rfl ?_
    refine G_iadd C dX12_may_241 ?_
    refine G_iald C ly_77 (by decide) h.1 dX12_may_242 ?_
    have h := h.2
    refine G_istore (L' := [rv 75, iv v1, iv v2, iv v3, iv v4, iv v5, iv v6, iv v7, iv v8, iv (s 77 (v5 + v8))]) C dX12_may_243 (by decide) rfl ?_
    refine G_iload C dX12_may_245 rfl ?_
    refine G_aload_n C dX12_may_247 rfl ?_
    refine gI_X12_9 C ly_75 rfl wf_X12_25 dX12_may_248 ?_
    refine G_icmp_lt (tgt := 268) C dX12_may_251 (by decide) ⟨h.1.1, h.1.2⟩ (fun q => ?_) (fun q => ?_)
    · have h := h.2.1 q
      refine G_iload C dX12_may_268 rfl ?_
      refine G_iload C dX12_may_270 rfl ?_
      refine G_ishr C dX12_may_272 ?_
      refine G_iconst C dX12_may_273 ?_
      refine G_iand C dX12_may_274 ?_
      refine G_iconst C dX12_may_275 ?_
      refine G_icmp_ne (tgt := 286) C dX12_may_276 (by decide) ⟨(oI_rg _), (by decide)⟩ (fun q => ?_) (fun q => ?_)
      · have h := h.1 q
        refine G_iload C dX12_may_286 rfl ?_
        refine G_iconst C dX12_may_288 ?_
        refine G_iload C dX12_may_289 rfl ?_
        refine G_ishl C dX12_may_291 ?_
        refine G_ior C dX12_may_292 ?_
        refine G_istore (L' := [rv 75, iv v1, iv v2, iv v3, iv v4, iv v5, iv v6, iv (xor_ v7 (xshl 1 (s 77 (v5 + v8)))), iv v8, iv (s 77 (v5 + v8))]) C dX12_may_293 (by decide) rfl ?_
        refine G_iinc (L' := [rv 75, iv v1, iv v2, iv v3, iv v4, iv v5, iv v6, iv (xor_ v7 (xshl 1 (s 77 (v5 + v8)))), iv (v8 + 1), iv (s 77 (v5 + v8))]) C dX12_may_295 (by decide) rfl rfl ?_
        refine G_goto (tgt := 226) C dX12_may_298 (by decide) ?_
        refine G_drop (i := 9) (L' := [rv 75, iv v1, iv v2, iv v3, iv v4, iv v5, iv v6, iv (xor_ v7 (xshl 1 (s 77 (v5 + v8)))), iv (v8 + 1), none]) rfl ?_
        exact h
      · have h := h.2 q
        refine G_aload_n C dX12_may_279 rfl ?_
        refine gR_X12_44 C ly_75 rfl wf_X12_86 dX12_may_280 ?_
        refine G_iconst C dX12_may_283 ?_
        refine G_iconst C dX12_may_284 ?_
        refine G_iast C ly_99 (by decide) (by decide) dX12_may_285 ?_
        have h := h _ rfl
        obtain ⟨s5, e5⟩ : ∃ z, z = up s 99 5 1 := ⟨_, rfl⟩
        rw [← e5] at h ⊢
        refine G_iload C dX12_may_286 rfl ?_
        refine G_iconst C dX12_may_288 ?_
        refine G_iload C dX12_may_289 rfl ?_
        refine G_ishl C dX12_may_291 ?_
        refine G_ior C dX12_may_292 ?_
        refine G_istore (L' := [rv 75, iv v1, iv v2, iv v3, iv v4, iv v5, iv v6, iv (xor_ v7 (xshl 1 (s 77 (v5 + v8)))), iv v8, iv (s 77 (v5 + v8))]) C dX12_may_293 (by decide) rfl ?_
        refine G_iinc (L' := [rv 75, iv v1, iv v2, iv v3, iv v4, iv v5, iv v6, iv (xor_ v7 (xshl 1 (s 77 (v5 + v8)))), iv (v8 + 1), iv (s 77 (v5 + v8))]) C dX12_may_295 (by decide) rfl rfl ?_
        refine G_goto (tgt := 226) C dX12_may_298 (by decide) ?_
        refine G_drop (i := 9) (L' := [rv 75, iv v1, iv v2, iv v3, iv v4, iv v5, iv v6, iv (xor_ v7 (xshl 1 (s 77 (v5 + v8)))), iv (v8 + 1), none]) rfl ?_
        exact h
    · have h := h.2.2 q
      refine G_aload_n C dX12_may_254 rfl ?_
      refine gR_X12_44 C ly_75 rfl wf_X12_86 dX12_may_255 ?_
      refine G_iconst C dX12_may_258 ?_
      refine G_aload_n C dX12_may_259 rfl ?_
      refine gR_X12_44 C ly_75 rfl wf_X12_86 dX12_may_260 ?_
      refine G_iconst C dX12_may_263 ?_
      refine G_iald C ly_99 (by decide) (by decide) dX12_may_264 ?_
      refine G_iconst C dX12_may_265 ?_
      refine G_iadd C dX12_may_266 ?_
      refine G_iast C ly_99 (by decide) (by decide) dX12_may_267 ?_
      have h := h _ rfl
      obtain ⟨s6, e6⟩ : ∃ z, z = up s 99 4 ((s 99 4) + 1) := ⟨_, rfl⟩
      rw [← e6] at h ⊢
      refine G_iload C dX12_may_268 rfl ?_
      refine G_iload C dX12_may_270 rfl ?_
      refine G_ishr C dX12_may_272 ?_
      refine G_iconst C dX12_may_273 ?_
      refine G_iand C dX12_may_274 ?_
      refine G_iconst C dX12_may_275 ?_
      refine G_icmp_ne (tgt := 286) C dX12_may_276 (by decide) ⟨(oI_rg _), (by decide)⟩ (fun q => ?_) (fun q => ?_)
      · have h := h.1 q
        refine G_iload C dX12_may_286 rfl ?_
        refine G_iconst C dX12_may_288 ?_
        refine G_iload C dX12_may_289 rfl ?_
        refine G_ishl C dX12_may_291 ?_
        refine G_ior C dX12_may_292 ?_
        refine G_istore (L' := [rv 75, iv v1, iv v2, iv v3, iv v4, iv v5, iv v6, iv (xor_ v7 (xshl 1 (s 77 (v5 + v8)))), iv v8, iv (s 77 (v5 + v8))]) C dX12_may_293 (by decide) rfl ?_
        refine G_iinc (L' := [rv 75, iv v1, iv v2, iv v3, iv v4, iv v5, iv v6, iv (xor_ v7 (xshl 1 (s 77 (v5 + v8)))), iv (v8 + 1), iv (s 77 (v5 + v8))]) C dX12_may_295 (by decide) rfl rfl ?_
        refine G_goto (tgt := 226) C dX12_may_298 (by decide) ?_
        refine G_drop (i := 9) (L' := [rv 75, iv v1, iv v2, iv v3, iv v4, iv v5, iv v6, iv (xor_ v7 (xshl 1 (s 77 (v5 + v8)))), iv (v8 + 1), none]) rfl ?_
        exact h
      · have h := h.2 q
        refine G_aload_n C dX12_may_279 rfl ?_
        refine gR_X12_44 C ly_75 rfl wf_X12_86 dX12_may_280 ?_
        refine G_iconst C dX12_may_283 ?_
        refine G_iconst C dX12_may_284 ?_
        refine G_iast C ly_99 (by decide) (by decide) dX12_may_285 ?_
        have h := h _ rfl
        obtain ⟨s7, e7⟩ : ∃ z, z = up s6 99 5 1 := ⟨_, rfl⟩
        rw [← e7] at h ⊢
        refine G_iload C dX12_may_286 rfl ?_
        refine G_iconst C dX12_may_288 ?_
        refine G_iload C dX12_may_289 rfl ?_
        refine G_ishl C dX12_may_291 ?_
        refine G_ior C dX12_may_292 ?_
        refine G_istore (L' := [rv 75, iv v1, iv v2, iv v3, iv v4, iv v5, iv v6, iv (xor_ v7 (xshl 1 (s 77 (v5 + v8)))), iv v8, iv (s 77 (v5 + v8))]) C dX12_may_293 (by decide) rfl ?_
        refine G_iinc (L' := [rv 75, iv v1, iv v2, iv v3, iv v4, iv v5, iv v6, iv (xor_ v7 (xshl 1 (s 77 (v5 + v8)))), iv (v8 + 1), iv (s 77 (v5 + v8))]) C dX12_may_295 (by decide) rfl rfl ?_
        refine G_goto (tgt := 226) C dX12_may_298 (by decide) ?_
        refine G_drop (i := 9) (L' := [rv 75, iv v1, iv v2, iv v3, iv v4, iv v5, iv v6, iv (xor_ v7 (xshl 1 (s 77 (v5 + v8)))), iv (v8 + 1), none]) rfl ?_
        exact h
set_option maxRecDepth 20000 in
theorem kb_X12_may_351 {X : Cx} {d : Nat} {P : Int → Sto → Prop} (C : Ok LY X RX12 cX12_may 10 d) (r : RetZ LY X cX12_may P) {v1 v2 v3 v4 v5 v6 v7 v8 : Int} {s : Sto} (h : ((rg v8 ∧ rg (s 75 30)) ∧ (((s 75 30) ≤ v8 → P 1 s) ∧ (v8 < (s 75 30) → (CallI LY d MX12_isSo [.inr 75, .inl 0, .inl v8] s (fun r1 s1 => ((rg r1) ∧ ((r1 = 0 → G LY X 351 [rv 75, iv v1, iv v2, iv v3, iv v4, iv v5, iv v6, iv v7, iv (v8 + 1), none] [] s1) ∧ (r1 ≠ 0 → ((0 ≤ v8 ∧ v8 < 32) ∧ ((rg (s1 93 v8)) ∧ (((s1 93 v8) ≠ 0 → P 0 s1) ∧ ((s1 93 v8) = 0 → P 1 s1))))))))))))) : G LY X 351 [rv 75, iv v1, iv v2, iv v3, iv v4, iv v5, iv v6, iv v7, iv v8, none] [] s := by
  refine G_iload C dX12_may_351 rfl ?_
  refine G_aload_n C dX12_may_353 rfl ?_
  refine gI_X12_30 C ly_75 rfl wf_X12_180 dX12_may_354 ?_
  refine G_icmp_ge (tgt := 392) C dX12_may_357 (by decide) ⟨h.1.1, h.1.2⟩ (fun q => ?_) (fun q => ?_)
  · have h := h.2.1 q
    refine G_iconst C dX12_may_392 ?_
    exact r _ _ _ _ dX12_may_393 (by decide) h
  · have h := h.2.2 q
    refine G_aload_n C dX12_may_360 rfl ?_
    refine G_iconst C dX12_may_361 ?_
    refine G_iload C dX12_may_362 rfl ?_
    refine G_callVI (K := []) (args := [.inl 0, .inl v8]) (T := TX12) (N := 72) C ly_75 rfl (Nat.le_of_ble_eq_true rfl) mo_X12_isSo wc_X12_331 rfl dX12_may_364 h (fun r1 s1 h => ?_)
    refine G_if_eq (tgt := 386) C dX12_may_367 (by decide) h.1 (fun q => ?_) (fun q => ?_)
    · have h := h.2.1 q
      refine G_iinc (L' := [rv 75, iv v1, iv v2, iv v3, iv v4, iv v5, iv v6, iv v7, iv (v8 + 1), none]) C dX12_may_386 (by decide) rfl rfl ?_
      refine G_goto (tgt := 351) C dX12_may_389 (by decide) ?_
      exact h
    · have h := h.2.2 q
      refine G_aload_n C dX12_may_370 rfl ?_
      refine gR_X12_31 C ly_75 rfl wf_X12_65 dX12_may_371 ?_
      refine G_iload C dX12_may_374 rfl ?_
      refine G_iald C ly_93 (by decide) h.1 dX12_may_376 ?_
      have h := h.2
      refine G_if_ne (tgt := 384) C dX12_may_377 (by decide) h.1 (fun q => ?_) (fun q => ?_)
      · have h := h.2.1 q
        refine G_iconst C dX12_may_384 ?_
        exact r _ _ _ _ dX12_may_385 (by decide) h
      · have h := h.2.2 q
        refine G_iconst C dX12_may_380 ?_
        refine G_goto (tgt := 385) C dX12_may_381 (by decide) ?_
        exact r _ _ _ _ dX12_may_385 (by decide) h
set_option maxRecDepth 20000 in
theorem kb_X12_rests_0 {X : Cx} {d : Nat} {P : Sto → Prop} (C : Ok LY X RX12 cX12_rests 4 d) (r : RetV LY X cX12_rests P) {s : Sto} (h : (∀ s1 : Sto, s1 = up s 75 53 (-1) → (∀ s2 : Sto, s2 = up s1 75 54 0 → (∀ s3 : Sto, s3 = up s2 75 55 0 → G LY X 17 [rv 75, iv 0, none, none] [] s3)))) : G LY X 0 [rv 75, none, none, none] [] s := by
  refine G_aload_n C dX12_rests_0 rfl ?_
  refine G_iconst C dX12_rests_1 ?_
  refine gP_X12_53 C ly_75 rfl wf_X12_352 dX12_rests_2 ?_
  have h := h _ rfl
  obtain ⟨s1, e1⟩ : ∃ z, z = up s 75 53 (-1) := ⟨_, rfl⟩
  rw [← e1] at h ⊢
  refine G_aload_n C dX12_rests_5 rfl ?_
  refine G_iconst C dX12_rests_6 ?_
  refine gP_X12_54 C ly_75 rfl wf_X12_355 dX12_rests_7 ?_
  have h := h _ rfl
  obtain ⟨s2, e2⟩ : ∃ z, z = up s1 75 54 0 := ⟨_, rfl⟩
  rw [← e2] at h ⊢
  refine G_aload_n C dX12_rests_10 rfl ?_
  refine G_iconst C dX12_rests_11 ?_
  refine gP_X12_55 C ly_75 rfl wf_X12_358 dX12_rests_12 ?_
  have h := h _ rfl
  obtain ⟨s3, e3⟩ : ∃ z, z = up s2 75 55 0 := ⟨_, rfl⟩
  rw [← e3] at h ⊢
  refine G_iconst C dX12_rests_15 ?_
  refine G_istore_n (L' := [rv 75, iv 0, none, none]) C dX12_rests_16 (by decide) rfl ?_
  exact h
set_option maxRecDepth 20000 in
theorem kb_X12_rests_17 {X : Cx} {d : Nat} {P : Sto → Prop} (C : Ok LY X RX12 cX12_rests 4 d) (r : RetV LY X cX12_rests P) {v1 : Int} {s : Sto} (h : ((rg v1 ∧ rg (s 75 4)) ∧ (((s 75 4) ≤ v1 → (CallV LY d MX12_notes [.inr 75, .inl 0] s (fun s1 => G LY X 47 [rv 75, iv 0, none, none] [] s1))) ∧ (v1 < (s 75 4) → (CallV LY d MX12_movesName [.inr 75, .inl v1, .inl (31 + v1)] s (fun s2 => G LY X 17 [rv 75, iv (v1 + 1), none, none] [] s2)))))) : G LY X 17 [rv 75, iv v1, none, none] [] s := by
  refine G_iload_n C dX12_rests_17 rfl ?_
  refine G_aload_n C dX12_rests_18 rfl ?_
  refine gI_X12_4 C ly_75 rfl wf_X12_154 dX12_rests_19 ?_
  refine G_icmp_ge (tgt := 40) C dX12_rests_22 (by decide) ⟨h.1.1, h.1.2⟩ (fun q => ?_) (fun q => ?_)
  · have h := h.2.1 q
    refine G_aload_n C dX12_rests_40 rfl ?_
    refine G_iconst C dX12_rests_41 ?_
    refine G_callVV (K := []) (args := [.inl 0]) (T := TX12) (N := 72) C ly_75 rfl (Nat.le_of_ble_eq_true rfl) mo_X12_notes wc_X12_361 rfl dX12_rests_42 h (fun s1 h => ?_)
    refine G_iconst C dX12_rests_45 ?_
    refine G_istore_n (L' := [rv 75, iv 0, none, none]) C dX12_rests_46 (by decide) rfl ?_
    exact h
  · have h := h.2.2 q
    refine G_aload_n C dX12_rests_25 rfl ?_
    refine G_iload_n C dX12_rests_26 rfl ?_
    refine G_bipush C dX12_rests_27 bi_31 ?_
    refine G_iload_n C dX12_rests_29 rfl ?_
    refine G_iadd C dX12_rests_30 ?_
    refine G_callVV (K := []) (args := [.inl v1, .inl (31 + v1)]) (T := TX12) (N := 72) C ly_75 rfl (Nat.le_of_ble_eq_true rfl) mo_X12_movesName wc_X12_187 rfl dX12_rests_31 h (fun s2 h => ?_)
    refine G_iinc (L' := [rv 75, iv (v1 + 1), none, none]) C dX12_rests_34 (by decide) rfl rfl ?_
    refine G_goto (tgt := 17) C dX12_rests_37 (by decide) ?_
    exact h
set_option maxRecDepth 20000 in
theorem kb_X12_rests_47 {X : Cx} {d : Nat} {P : Sto → Prop} (C : Ok LY X RX12 cX12_rests 4 d) (r : RetV LY X cX12_rests P) {v1 : Int} {s : Sto} (h : ((rg v1) ∧ ((40 ≤ v1 → G LY X 150 [rv 75, iv 0, none, none] [] s) ∧ (v1 < 40 → ((rg (s 75 53)) ∧ (((s 75 53) ≠ (-1) → G LY X 150 [rv 75, iv 0, none, none] [] s) ∧ ((s 75 53) = (-1) → ((rg (s 75 54)) ∧ (((s 75 54) ≠ 0 → G LY X 150 [rv 75, iv 0, none, none] [] s) ∧ ((s 75 54) = 0 → (CallI LY d MX12_rounds [.inr 75] s (fun r1 s1 => (∀ s2 : Sto, s2 = up s1 75 55 ((s1 75 55) + r1) → ((rg r1) ∧ ((r1 ≠ 0 → (CallV LY d MX12_notes [.inr 75, .inl (v1 + 1)] s2 (fun s3 => G LY X 101 [rv 75, iv v1, iv r1, iv v1] [] s3))) ∧ (r1 = 0 → (∀ s4 : Sto, s4 = up s2 75 53 v1 → (CallV LY d MX12_notes [.inr 75, .inl (v1 + 1)] s4 (fun s5 => G LY X 101 [rv 75, iv v1, iv r1, iv v1] [] s5))))))))))))))))))) : G LY X 47 [rv 75, iv v1, none, none] [] s := by
  refine G_iload_n C dX12_rests_47 rfl ?_
  refine G_bipush C dX12_rests_48 bi_40 ?_
  refine G_icmp_ge (tgt := 148) C dX12_rests_50 (by decide) ⟨h.1, (by decide)⟩ (fun q => ?_) (fun q => ?_)
  · have h := h.2.1 q
    refine G_iconst C dX12_rests_148 ?_
    refine G_istore_n (L' := [rv 75, iv 0, none, none]) C dX12_rests_149 (by decide) rfl ?_
    exact h
  · have h := h.2.2 q
    refine G_aload_n C dX12_rests_53 rfl ?_
    refine gI_X12_53 C ly_75 rfl wf_X12_352 dX12_rests_54 ?_
    refine G_iconst C dX12_rests_57 ?_
    refine G_icmp_ne (tgt := 148) C dX12_rests_58 (by decide) ⟨h.1, (by decide)⟩ (fun q => ?_) (fun q => ?_)
    · have h := h.2.1 q
      refine G_iconst C dX12_rests_148 ?_
      refine G_istore_n (L' := [rv 75, iv 0, none, none]) C dX12_rests_149 (by decide) rfl ?_
      exact h
    · have h := h.2.2 q
      refine G_aload_n C dX12_rests_61 rfl ?_
      refine gI_X12_54 C ly_75 rfl wf_X12_355 dX12_rests_62 ?_
      refine G_if_ne (tgt := 148) C dX12_rests_65 (by decide) h.1 (fun q => ?_) (fun q => ?_)
      · have h := h.2.1 q
        refine G_iconst C dX12_rests_148 ?_
        refine G_istore_n (L' := [rv 75, iv 0, none, none]) C dX12_rests_149 (by decide) rfl ?_
        exact h
      · have h := h.2.2 q
        refine G_aload_n C dX12_rests_68 rfl ?_
        refine G_callVI (K := []) (args := []) (T := TX12) (N := 72) C ly_75 rfl (Nat.le_of_ble_eq_true rfl) mo_X12_rounds wc_X12_364 rfl dX12_rests_69 h (fun r1 s1 h => ?_)
        refine G_istore_n (L' := [rv 75, iv v1, iv r1, none]) C dX12_rests_72 (by decide) rfl ?_
        refine G_aload_n C dX12_rests_73 rfl ?_
        refine G_aload_n C dX12_rests_74 rfl ?_
        refine gI_X12_55 C ly_75 rfl wf_X12_358 dX12_rests_75 ?_
        refine G_iload_n C dX12_rests_78 rfl ?_
        refine G_iadd C dX12_rests_79 ?_
        refine gP_X12_55 C ly_75 rfl wf_X12_358 dX12_rests_80 ?_
        have h := h _ rfl
        obtain ⟨s2, e2⟩ : ∃ z, z = up s1 75 55 ((s1 75 55) + r1) := ⟨_, rfl⟩
        rw [← e2] at h ⊢
        refine G_iload_n C dX12_rests_83 rfl ?_
        refine G_if_ne (tgt := 92) C dX12_rests_84 (by decide) h.1 (fun q => ?_) (fun q => ?_)
        · have h := h.2.1 q
          refine G_aload_n C dX12_rests_92 rfl ?_
          refine G_iload_n C dX12_rests_93 rfl ?_
          refine G_iconst C dX12_rests_94 ?_
          refine G_iadd C dX12_rests_95 ?_
          refine G_callVV (K := []) (args := [.inl (v1 + 1)]) (T := TX12) (N := 72) C ly_75 rfl (Nat.le_of_ble_eq_true rfl) mo_X12_notes wc_X12_361 rfl dX12_rests_96 h (fun s3 h => ?_)
          refine G_iload_n C dX12_rests_99 rfl ?_
          refine G_istore_n (L' := [rv 75, iv v1, iv r1, iv v1]) C dX12_rests_100 (by decide) rfl ?_
          exact h
        · have h := h.2.2 q
          refine G_aload_n C dX12_rests_87 rfl ?_
          refine G_iload_n C dX12_rests_88 rfl ?_
          refine gP_X12_53 C ly_75 rfl wf_X12_352 dX12_rests_89 ?_
          have h := h _ rfl
          obtain ⟨s4, e4⟩ : ∃ z, z = up s2 75 53 v1 := ⟨_, rfl⟩
          rw [← e4] at h ⊢
          refine G_aload_n C dX12_rests_92 rfl ?_
          refine G_iload_n C dX12_rests_93 rfl ?_
          refine G_iconst C dX12_rests_94 ?_
          refine G_iadd C dX12_rests_95 ?_
          refine G_callVV (K := []) (args := [.inl (v1 + 1)]) (T := TX12) (N := 72) C ly_75 rfl (Nat.le_of_ble_eq_true rfl) mo_X12_notes wc_X12_361 rfl dX12_rests_96 h (fun s5 h => ?_)
          refine G_iload_n C dX12_rests_99 rfl ?_
          refine G_istore_n (L' := [rv 75, iv v1, iv r1, iv v1]) C dX12_rests_100 (by decide) rfl ?_
          exact h
set_option maxRecDepth 20000 in
theorem kb_X12_rests_101 {X : Cx} {d : Nat} {P : Sto → Prop} (C : Ok LY X RX12 cX12_rests 4 d) (r : RetV LY X cX12_rests P) {v1 v2 v3 : Int} {s : Sto} (h : ((rg v3) ∧ ((v3 < 0 → G LY X 47 [rv 75, iv (v1 + 1), none, none] [] s) ∧ (0 ≤ v3 → ((rg v2) ∧ ((v2 ≤ 0 → G LY X 47 [rv 75, iv (v1 + 1), none, none] [] s) ∧ (0 < v2 → ((rg (s 75 54)) ∧ (((s 75 54) ≠ 0 → G LY X 47 [rv 75, iv (v1 + 1), none, none] [] s) ∧ ((s 75 54) = 0 → (CallI LY d MX12_areNames [.inr 75, .inl v3, .inl (v1 + 1)] s (fun r1 s1 => ((rg r1) ∧ ((r1 = 0 → G LY X 101 [rv 75, iv v1, iv v2, iv (v3 + (-1))] [] s1) ∧ (r1 ≠ 0 → (∀ s2 : Sto, s2 = up s1 75 54 ((v1 + 1) - v3) → G LY X 101 [rv 75, iv v1, iv v2, iv (v3 + (-1))] [] s2)))))))))))))))) : G LY X 101 [rv 75, iv v1, iv v2, iv v3] [] s := by
  refine G_iload_n C dX12_rests_101 rfl ?_
  refine G_if_lt (tgt := 142) C dX12_rests_102 (by decide) h.1 (fun q => ?_) (fun q => ?_)
  · have h := h.2.1 q
    refine G_iinc (L' := [rv 75, iv (v1 + 1), iv v2, iv v3]) C dX12_rests_142 (by decide) rfl rfl ?_
    refine G_goto (tgt := 47) C dX12_rests_145 (by decide) ?_
    refine G_drop (i := 2) (L' := [rv 75, iv (v1 + 1), none, iv v3]) rfl ?_
    refine G_drop (i := 3) (L' := [rv 75, iv (v1 + 1), none, none]) rfl ?_
    exact h
  · have h := h.2.2 q
    refine G_iload_n C dX12_rests_105 rfl ?_
    refine G_if_le (tgt := 142) C dX12_rests_106 (by decide) h.1 (fun q => ?_) (fun q => ?_)
    · have h := h.2.1 q
      refine G_iinc (L' := [rv 75, iv (v1 + 1), iv v2, iv v3]) C dX12_rests_142 (by decide) rfl rfl ?_
      refine G_goto (tgt := 47) C dX12_rests_145 (by decide) ?_
      refine G_drop (i := 2) (L' := [rv 75, iv (v1 + 1), none, iv v3]) rfl ?_
      refine G_drop (i := 3) (L' := [rv 75, iv (v1 + 1), none, none]) rfl ?_
      exact h
    · have h := h.2.2 q
      refine G_aload_n C dX12_rests_109 rfl ?_
      refine gI_X12_54 C ly_75 rfl wf_X12_355 dX12_rests_110 ?_
      refine G_if_ne (tgt := 142) C dX12_rests_113 (by decide) h.1 (fun q => ?_) (fun q => ?_)
      · have h := h.2.1 q
        refine G_iinc (L' := [rv 75, iv (v1 + 1), iv v2, iv v3]) C dX12_rests_142 (by decide) rfl rfl ?_
        refine G_goto (tgt := 47) C dX12_rests_145 (by decide) ?_
        refine G_drop (i := 2) (L' := [rv 75, iv (v1 + 1), none, iv v3]) rfl ?_
        refine G_drop (i := 3) (L' := [rv 75, iv (v1 + 1), none, none]) rfl ?_
        exact h
      · have h := h.2.2 q
        refine G_aload_n C dX12_rests_116 rfl ?_
        refine G_iload_n C dX12_rests_117 rfl ?_
        refine G_iload_n C dX12_rests_118 rfl ?_
        refine G_iconst C dX12_rests_119 ?_
        refine G_iadd C dX12_rests_120 ?_
        refine G_callVI (K := []) (args := [.inl v3, .inl (v1 + 1)]) (T := TX12) (N := 72) C ly_75 rfl (Nat.le_of_ble_eq_true rfl) mo_X12_areNames wc_X12_367 rfl dX12_rests_121 h (fun r1 s1 h => ?_)
        refine G_if_eq (tgt := 136) C dX12_rests_124 (by decide) h.1 (fun q => ?_) (fun q => ?_)
        · have h := h.2.1 q
          refine G_iinc (L' := [rv 75, iv v1, iv v2, iv (v3 + (-1))]) C dX12_rests_136 (by decide) rfl rfl ?_
          refine G_goto (tgt := 101) C dX12_rests_139 (by decide) ?_
          exact h
        · have h := h.2.2 q
          refine G_aload_n C dX12_rests_127 rfl ?_
          refine G_iload_n C dX12_rests_128 rfl ?_
          refine G_iconst C dX12_rests_129 ?_
          refine G_iadd C dX12_rests_130 ?_
          refine G_iload_n C dX12_rests_131 rfl ?_
          refine G_isub C dX12_rests_132 ?_
          refine gP_X12_54 C ly_75 rfl wf_X12_355 dX12_rests_133 ?_
          have h := h _ rfl
          obtain ⟨s2, e2⟩ : ∃ z, z = up s1 75 54 ((v1 + 1) - v3) := ⟨_, rfl⟩
          rw [← e2] at h ⊢
          refine G_iinc (L' := [rv 75, iv v1, iv v2, iv (v3 + (-1))]) C dX12_rests_136 (by decide) rfl rfl ?_
          refine G_goto (tgt := 101) C dX12_rests_139 (by decide) ?_
          exact h
set_option maxRecDepth 20000 in
theorem kb_X12_rests_150 {X : Cx} {d : Nat} {P : Sto → Prop} (C : Ok LY X RX12 cX12_rests 4 d) (r : RetV LY X cX12_rests P) {v1 : Int} {s : Sto} (h : ((rg v1 ∧ rg (s 75 4)) ∧ (((s 75 4) ≤ v1 → P s) ∧ (v1 < (s 75 4) → (CallV LY d MX12_movesName [.inr 75, .inl (31 + v1), .inl v1] s (fun s1 => G LY X 150 [rv 75, iv (v1 + 1), none, none] [] s1)))))) : G LY X 150 [rv 75, iv v1, none, none] [] s := by
  refine G_iload_n C dX12_rests_150 rfl ?_
  refine G_aload_n C dX12_rests_151 rfl ?_
  refine gI_X12_4 C ly_75 rfl wf_X12_154 dX12_rests_152 ?_
  refine G_icmp_ge (tgt := 173) C dX12_rests_155 (by decide) ⟨h.1.1, h.1.2⟩ (fun q => ?_) (fun q => ?_)
  · have h := h.2.1 q
    exact r _ _ _ dX12_rests_173 h
  · have h := h.2.2 q
    refine G_aload_n C dX12_rests_158 rfl ?_
    refine G_bipush C dX12_rests_159 bi_31 ?_
    refine G_iload_n C dX12_rests_161 rfl ?_
    refine G_iadd C dX12_rests_162 ?_
    refine G_iload_n C dX12_rests_163 rfl ?_
    refine G_callVV (K := []) (args := [.inl (31 + v1), .inl v1]) (T := TX12) (N := 72) C ly_75 rfl (Nat.le_of_ble_eq_true rfl) mo_X12_movesName wc_X12_187 rfl dX12_rests_164 h (fun s1 h => ?_)
    refine G_iinc (L' := [rv 75, iv (v1 + 1), none, none]) C dX12_rests_167 (by decide) rfl rfl ?_
    refine G_goto (tgt := 150) C dX12_rests_170 (by decide) ?_
    exact h
set_option maxRecDepth 20000 in
theorem kb_X12_weds_0 {X : Cx} {d : Nat} {P : Sto → Prop} (C : Ok LY X RX12 cX12_weds 5 d) (r : RetV LY X cX12_weds P) {s : Sto} (h : (CallV LY d MX12_findsWorths [.inr 75, .inl 0] s (fun s1 => G LY X 7 [rv 75, iv 0, none, none, none] [] s1))) : G LY X 0 [rv 75, none, none, none, none] [] s := by
  refine G_aload_n C dX12_weds_0 rfl ?_
  refine G_iconst C dX12_weds_1 ?_
  refine G_callVV (K := []) (args := [.inl 0]) (T := TX12) (N := 72) C ly_75 rfl (Nat.le_of_ble_eq_true rfl) mo_X12_findsWorths wc_X12_324 rfl dX12_weds_2 h (fun s1 h => ?_)
  refine G_iconst C dX12_weds_5 ?_
  refine G_istore_n (L' := [rv 75, iv 0, none, none, none]) C dX12_weds_6 (by decide) rfl ?_
  exact h
set_option maxRecDepth 20000 in
theorem kb_X12_weds_7 {X : Cx} {d : Nat} {P : Sto → Prop} (C : Ok LY X RX12 cX12_weds 5 d) (r : RetV LY X cX12_weds P) {v1 : Int} {s : Sto} (h : ((rg v1 ∧ rg (s 75 4)) ∧ (((s 75 4) ≤ v1 → G LY X 37 [rv 75, iv 1, none, none, none] [] s) ∧ (v1 < (s 75 4) → ((0 ≤ v1 ∧ v1 < 20) ∧ (∀ s1 : Sto, s1 = up s 108 v1 (-1) → ((0 ≤ v1 ∧ v1 < 20) ∧ (∀ s2 : Sto, s2 = up s1 109 v1 0 → G LY X 7 [rv 75, iv (v1 + 1), none, none, none] [] s2)))))))) : G LY X 7 [rv 75, iv v1, none, none, none] [] s := by
  refine G_iload_n C dX12_weds_7 rfl ?_
  refine G_aload_n C dX12_weds_8 rfl ?_
  refine gI_X12_4 C ly_75 rfl wf_X12_154 dX12_weds_9 ?_
  refine G_icmp_ge (tgt := 35) C dX12_weds_12 (by decide) ⟨h.1.1, h.1.2⟩ (fun q => ?_) (fun q => ?_)
  · have h := h.2.1 q
    refine G_iconst C dX12_weds_35 ?_
    refine G_istore_n (L' := [rv 75, iv 1, none, none, none]) C dX12_weds_36 (by decide) rfl ?_
    exact h
  · have h := h.2.2 q
    refine G_aload_n C dX12_weds_15 rfl ?_
    refine gR_X12_56 C ly_75 rfl wf_X12_113 dX12_weds_16 ?_
    refine G_iload_n C dX12_weds_19 rfl ?_
    refine G_iconst C dX12_weds_20 ?_
    refine G_iast C ly_108 (by decide) h.1 dX12_weds_21 ?_
    have h := h.2
    have h := h _ rfl
    obtain ⟨s1, e1⟩ : ∃ z, z = up s 108 v1 (-1) := ⟨_, rfl⟩
    rw [← e1] at h ⊢
    refine G_aload_n C dX12_weds_22 rfl ?_
    refine gR_X12_57 C ly_75 rfl wf_X12_116 dX12_weds_23 ?_
    refine G_iload_n C dX12_weds_26 rfl ?_
    refine G_iconst C dX12_weds_27 ?_
    refine G_iast C ly_109 (by decide) h.1 dX12_weds_28 ?_
    have h := h.2
    have h := h _ rfl
    obtain ⟨s2, e2⟩ : ∃ z, z = up s1 109 v1 0 := ⟨_, rfl⟩
    rw [← e2] at h ⊢
    refine G_iinc (L' := [rv 75, iv (v1 + 1), none, none, none]) C dX12_weds_29 (by decide) rfl rfl ?_
    refine G_goto (tgt := 7) C dX12_weds_32 (by decide) ?_
    exact h
set_option maxRecDepth 20000 in
theorem kb_X12_weds_37 {X : Cx} {d : Nat} {P : Sto → Prop} (C : Ok LY X RX12 cX12_weds 5 d) (r : RetV LY X cX12_weds P) {v1 : Int} {s : Sto} (h : ((rg v1) ∧ ((v1 = 0 → P s) ∧ (v1 ≠ 0 → G LY X 45 [rv 75, iv 0, iv 0, none, none] [] s)))) : G LY X 37 [rv 75, iv v1, none, none, none] [] s := by
  refine G_iload_n C dX12_weds_37 rfl ?_
  refine G_if_eq (tgt := 174) C dX12_weds_38 (by decide) h.1 (fun q => ?_) (fun q => ?_)
  · have h := h.2.1 q
    exact r _ _ _ dX12_weds_174 h
  · have h := h.2.2 q
    refine G_iconst C dX12_weds_41 ?_
    refine G_istore_n (L' := [rv 75, iv 0, none, none, none]) C dX12_weds_42 (by decide) rfl ?_
    refine G_iconst C dX12_weds_43 ?_
    refine G_istore_n (L' := [rv 75, iv 0, iv 0, none, none]) C dX12_weds_44 (by decide) rfl ?_
    exact h
set_option maxRecDepth 20000 in
theorem kb_X12_weds_45 {X : Cx} {d : Nat} {P : Sto → Prop} (C : Ok LY X RX12 cX12_weds 5 d) (r : RetV LY X cX12_weds P) {v1 v2 : Int} {s : Sto} (h : ((rg v2 ∧ rg (s 75 4)) ∧ (((s 75 4) ≤ v2 → G LY X 37 [rv 75, iv v1, none, none, none] [] s) ∧ (v2 < (s 75 4) → ((0 ≤ v2 ∧ v2 < 20) ∧ ((rg (s 78 v2)) ∧ (((s 78 v2) ≠ 0 → G LY X 45 [rv 75, iv v1, iv (v2 + 1), none, none] [] s) ∧ ((s 78 v2) = 0 → ((0 ≤ v2 ∧ v2 < 20) ∧ ((rg (s 108 v2)) ∧ (((s 108 v2) = (-1) → ((0 ≤ v2 ∧ v2 < 20) ∧ (CallI LY d MX12_suitorAsks [.inr 75, .inl (s 109 v2)] s (fun r1 s1 => ((rg r1) ∧ ((r1 ≠ (-1) → ((0 ≤ v2 ∧ v2 < 20) ∧ ((0 ≤ v2 ∧ v2 < 20) ∧ (∀ s2 : Sto, s2 = up s1 109 v2 ((s1 109 v2) + 1) → ((0 ≤ r1 ∧ r1 < 20) ∧ ((rg (s2 108 r1)) ∧ (((s2 108 r1) = (-1) → ((rg (s2 108 r1)) ∧ (((s2 108 r1) = (-1) → ((0 ≤ r1 ∧ r1 < 20) ∧ (∀ s3 : Sto, s3 = up s2 108 r1 v2 → ((0 ≤ v2 ∧ v2 < 20) ∧ (∀ s4 : Sto, s4 = up s3 108 v2 r1 → G LY X 45 [rv 75, iv 1, iv (v2 + 1), none, none] [] s4))))) ∧ ((s2 108 r1) ≠ (-1) → ((0 ≤ (s2 108 r1) ∧ (s2 108 r1) < 20) ∧ (∀ s5 : Sto, s5 = up s2 108 (s2 108 r1) (-1) → ((0 ≤ r1 ∧ r1 < 20) ∧ (∀ s6 : Sto, s6 = up s5 108 r1 v2 → ((0 ≤ v2 ∧ v2 < 20) ∧ (∀ s7 : Sto, s7 = up s6 108 v2 r1 → G LY X 45 [rv 75, iv 1, iv (v2 + 1), none, none] [] s7)))))))))) ∧ ((s2 108 r1) ≠ (-1) → (CallI LY d MX12_isBetter [.inr 75, .inl (s2 108 r1), .inl v2] s2 (fun r8 s8 => ((rg r8) ∧ ((r8 = 0 → ((rg (s2 108 r1)) ∧ (((s2 108 r1) = (-1) → ((0 ≤ r1 ∧ r1 < 20) ∧ (∀ s9 : Sto, s9 = up s8 108 r1 v2 → ((0 ≤ v2 ∧ v2 < 20) ∧ (∀ s10 : Sto, s10 = up s9 108 v2 r1 → G LY X 45 [rv 75, iv 1, iv (v2 + 1), none, none] [] s10))))) ∧ ((s2 108 r1) ≠ (-1) → ((0 ≤ (s2 108 r1) ∧ (s2 108 r1) < 20) ∧ (∀ s11 : Sto, s11 = up s8 108 (s2 108 r1) (-1) → ((0 ≤ r1 ∧ r1 < 20) ∧ (∀ s12 : Sto, s12 = up s11 108 r1 v2 → ((0 ≤ v2 ∧ v2 < 20) ∧ (∀ s13 : Sto, s13 = up s12 108 v2 r1 → G LY X 45 [rv 75, iv 1, iv (v2 + 1), none, none] [] s13)))))))))) ∧ (r8 ≠ 0 → G LY X 45 [rv 75, iv 1, iv (v2 + 1), none, none] [] s8))))))))))))) ∧ (r1 = (-1) → G LY X 45 [rv 75, iv v1, iv (v2 + 1), none, none] [] s1))))))) ∧ ((s 108 v2) ≠ (-1) → G LY X 45 [rv 75, iv v1, iv (v2 + 1), none, none] [] s)))))))))))) : G LY X 45 [rv 75, iv v1, iv v2, none, none] [] s := by
  refine G_iload_n C dX12_weds_45 rfl ?_
  refine G_aload_n C dX12_weds_46 rfl ?_
  refine gI_X12_4 C ly_75 rfl wf_X12_154 dX12_weds_47 ?_
  refine G_icmp_ge (tgt := 171) C dX12_weds_50 (by decide) ⟨h.1.1, h.1.2⟩ (fun q => ?_) (fun q => ?_)
  · have h := h.2.1 q
    refine G_goto (tgt := 37) C dX12_weds_171 (by decide) ?_
    refine G_drop (i := 2) (L' := [rv 75, iv v1, none, none, none]) rfl ?_
    exact h
  · have h := h.2.2 q
    refine G_aload_n C dX12_weds_53 rfl ?_
    refine gR_X12_5 C ly_75 rfl wf_X12_16 dX12_weds_54 ?_
    refine G_iload_n C dX12_weds_57 rfl ?_
    refine G_iald C ly_78 (by decide) h.1 dX12_weds_58 ?_
    have h := h.2
    refine G_if_ne (tgt := 165) C dX12_weds_59 (by decide) h.1 (fun q => ?_) (fun q => ?_)
    · have h := h.2.1 q
      refine G_iinc (L' := [rv 75, iv v1, iv (v2 + 1), none, none]) C dX12_weds_165 (by decide) rfl rfl ?_
      refine G_goto (tgt := 45) C dX12_weds_168 (by decide) ?_
      exact h
    · have h := h.2.2 q
      refine G_aload_n C dX12_weds_62 rfl ?_
      refine gR_X12_56 C ly_75 rfl wf_X12_113 dX12_weds_63 ?_
      refine G_iload_n C dX12_weds_66 rfl ?_
      refine G_iald C ly_108 (by decide) h.1 dX12_weds_67 ?_
      have h := h.2
      refine G_iconst C dX12_weds_68 ?_
      refine G_icmp_eq (tgt := 75) C dX12_weds_69 (by decide) ⟨h.1, (by decide)⟩ (fun q => ?_) (fun q => ?_)
      · have h := h.2.1 q
        refine G_aload_n C dX12_weds_75 rfl ?_
        refine G_aload_n C dX12_weds_76 rfl ?_
        refine gR_X12_57 C ly_75 rfl wf_X12_116 dX12_weds_77 ?_
        refine G_iload_n C dX12_weds_80 rfl ?_
        refine G_iald C ly_109 (by decide) h.1 dX12_weds_81 ?_
        have h := h.2
        refine G_callVI (K := []) (args := [.inl (s 109 v2)]) (T := TX12) (N := 72) C ly_75 rfl (Nat.le_of_ble_eq_true rfl) mo_X12_suitorAsks wc_X12_376 rfl dX12_weds_82 h (fun r1 s1 h => ?_)
        refine G_istore_n (L' := [rv 75, iv v1, iv v2, iv r1, none]) C dX12_weds_85 (by decide) rfl ?_
        refine G_iload_n C dX12_weds_86 rfl ?_
        refine G_iconst C dX12_weds_87 ?_
        refine G_icmp_ne (tgt := 94) C dX12_weds_88 (by decide) ⟨h.1, (by decide)⟩ (fun q => ?_) (fun q => ?_)
        · have h := h.2.1 q
          refine G_aload_n C dX12_weds_94 rfl ?_
          refine gR_X12_57 C ly_75 rfl wf_X12_116 dX12_weds_95 ?_
          refine G_iload_n C dX12_weds_98 rfl ?_
          refine G_aload_n C dX12_weds_99 rfl ?_
          refine gR_X12_57 C ly_75 rfl wf_X12_116 dX12_weds_100 ?_
          refine G_iload_n C dX12_weds_103 rfl ?_
          refine G_iald C ly_109 (by decide) h.1 dX12_weds_104 ?_
          have h := h.2
          refine G_iconst C dX12_weds_105 ?_
          refine G_iadd C dX12_weds_106 ?_
          refine G_iast C ly_109 (by decide) h.1 dX12_weds_107 ?_
          have h := h.2
          have h := h _ rfl
          obtain ⟨s2, e2⟩ : ∃ z, z = up s1 109 v2 ((s1 109 v2) + 1) := ⟨_, rfl⟩
          rw [← e2] at h ⊢
          refine G_iconst C dX12_weds_108 ?_
          refine G_istore_n (L' := [rv 75, iv 1, iv v2, iv r1, none]) C dX12_weds_109 (by decide) rfl ?_
          refine G_aload_n C dX12_weds_110 rfl ?_
          refine gR_X12_56 C ly_75 rfl wf_X12_113 dX12_weds_111 ?_
          refine G_iload_n C dX12_weds_114 rfl ?_
          refine G_iald C ly_108 (by decide) h.1 dX12_weds_115 ?_
          have h := h.2
          refine G_istore (L' := [rv 75, iv 1, iv v2, iv r1, iv (s2 108 r1)]) C dX12_weds_116 (by decide) rfl ?_
          refine G_iload C dX12_weds_118 rfl ?_
          refine G_iconst C dX12_weds_120 ?_
          refine G_icmp_eq (tgt := 137) C dX12_weds_121 (by decide) ⟨h.1, (by decide)⟩ (fun q => ?_) (fun q => ?_)
          · have h := h.2.1 q
            refine G_iload C dX12_weds_137 rfl ?_
            refine G_iconst C dX12_weds_139 ?_
            refine G_icmp_eq (tgt := 151) C dX12_weds_140 (by decide) ⟨h.1, (by decide)⟩ (fun q => ?_) (fun q => ?_)
            · have h := h.2.1 q
              refine G_aload_n C dX12_weds_151 rfl ?_
              refine gR_X12_56 C ly_75 rfl wf_X12_113 dX12_weds_152 ?_
              refine G_iload_n C dX12_weds_155 rfl ?_
              refine G_iload_n C dX12_weds_156 rfl ?_
              refine G_iast C ly_108 (by decide) h.1 dX12_weds_157 ?_
              have h := h.2
              have h := h _ rfl
              obtain ⟨s3, e3⟩ : ∃ z, z = up s2 108 r1 v2 := ⟨_, rfl⟩
              rw [← e3] at h ⊢
              refine G_aload_n C dX12_weds_158 rfl ?_
              refine gR_X12_56 C ly_75 rfl wf_X12_113 dX12_weds_159 ?_
              refine G_iload_n C dX12_weds_162 rfl ?_
              refine G_iload_n C dX12_weds_163 rfl ?_
              refine G_iast C ly_108 (by decide) h.1 dX12_weds_164 ?_
              have h := h.2
              have h := h _ rfl
              obtain ⟨s4, e4⟩ : ∃ z, z = up s3 108 v2 r1 := ⟨_, rfl⟩
              rw [← e4] at h ⊢
              refine G_iinc (L' := [rv 75, iv 1, iv (v2 + 1), iv r1, iv (s2 108 r1)]) C dX12_weds_165 (by decide) rfl rfl ?_
              refine G_goto (tgt := 45) C dX12_weds_168 (by decide) ?_
              refine G_drop (i := 3) (L' := [rv 75, iv 1, iv (v2 + 1), none, iv (s2 108 r1)]) rfl ?_
              refine G_drop (i := 4) (L' := [rv 75, iv 1, iv (v2 + 1), none, none]) rfl ?_
              exact h
            · have h := h.2.2 q
              refine G_aload_n C dX12_weds_143 rfl ?_
              refine gR_X12_56 C ly_75 rfl wf_X12_113 dX12_weds_144 ?_
              refine G_iload C dX12_weds_147 rfl ?_
              refine G_iconst C dX12_weds_149 ?_
              refine G_iast C ly_108 (by decide) h.1 dX12_weds_150 ?_
              have h := h.2
              have h := h _ rfl
              obtain ⟨s5, e5⟩ : ∃ z, z = up s2 108 (s2 108 r1) (-1) := ⟨_, rfl⟩
              rw [← e5] at h ⊢
              refine G_aload_n C dX12_weds_151 rfl ?_
              refine gR_X12_56 C ly_75 rfl wf_X12_113 dX12_weds_152 ?_
              refine G_iload_n C dX12_weds_155 rfl ?_
              refine G_iload_n C dX12_weds_156 rfl ?_
              refine G_iast C ly_108 (by decide) h.1 dX12_weds_157 ?_
              have h := h.2
              have h := h _ rfl
              obtain ⟨s6, e6⟩ : ∃ z, z = up s5 108 r1 v2 := ⟨_, rfl⟩
              rw [← e6] at h ⊢
              refine G_aload_n C dX12_weds_158 rfl ?_
              refine gR_X12_56 C ly_75 rfl wf_X12_113 dX12_weds_159 ?_
              refine G_iload_n C dX12_weds_162 rfl ?_
              refine G_iload_n C dX12_weds_163 rfl ?_
              refine G_iast C ly_108 (by decide) h.1 dX12_weds_164 ?_
              have h := h.2
              have h := h _ rfl
              obtain ⟨s7, e7⟩ : ∃ z, z = up s6 108 v2 r1 := ⟨_, rfl⟩
              rw [← e7] at h ⊢
              refine G_iinc (L' := [rv 75, iv 1, iv (v2 + 1), iv r1, iv (s2 108 r1)]) C dX12_weds_165 (by decide) rfl rfl ?_
              refine G_goto (tgt := 45) C dX12_weds_168 (by decide) ?_
              refine G_drop (i := 3) (L' := [rv 75, iv 1, iv (v2 + 1), none, iv (s2 108 r1)]) rfl ?_
              refine G_drop (i := 4) (L' := [rv 75, iv 1, iv (v2 + 1), none, none]) rfl ?_
              exact h
          · have h := h.2.2 q
            refine G_aload_n C dX12_weds_124 rfl ?_
            refine G_iload C dX12_weds_125 rfl ?_
            refine G_iload_n C dX12_weds_127 rfl ?_
            refine G_callVI (K := []) (args := [.inl (s2 108 r1), .inl v2]) (T := TX12) (N := 72) C ly_75 rfl (Nat.le_of_ble_eq_true rfl) mo_X12_isBetter wc_X12_373 rfl dX12_weds_128 h (fun r8 s8 h => ?_)
            refine G_if_eq (tgt := 137) C dX12_weds_131 (by decide) h.1 (fun q => ?_) (fun q => ?_)
            · have h := h.2.1 q
              refine G_iload C dX12_weds_137 rfl ?_
              refine G_iconst C dX12_weds_139 ?_
              refine G_icmp_eq (tgt := 151) C dX12_weds_140 (by decide) ⟨h.1, (by decide)⟩ (fun q => ?_) (fun q => ?_)
              · have h := h.2.1 q
                refine G_aload_n C dX12_weds_151 rfl ?_
                refine gR_X12_56 C ly_75 rfl wf_X12_113 dX12_weds_152 ?_
                refine G_iload_n C dX12_weds_155 rfl ?_
                refine G_iload_n C dX12_weds_156 rfl ?_
                refine G_iast C ly_108 (by decide) h.1 dX12_weds_157 ?_
                have h := h.2
                have h := h _ rfl
                obtain ⟨s9, e9⟩ : ∃ z, z = up s8 108 r1 v2 := ⟨_, rfl⟩
                rw [← e9] at h ⊢
                refine G_aload_n C dX12_weds_158 rfl ?_
                refine gR_X12_56 C ly_75 rfl wf_X12_113 dX12_weds_159 ?_
                refine G_iload_n C dX12_weds_162 rfl ?_
                refine G_iload_n C dX12_weds_163 rfl ?_
                refine G_iast C ly_108 (by decide) h.1 dX12_weds_164 ?_
                have h := h.2
                have h := h _ rfl
                obtain ⟨s10, e10⟩ : ∃ z, z = up s9 108 v2 r1 := ⟨_, rfl⟩
                rw [← e10] at h ⊢
                refine G_iinc (L' := [rv 75, iv 1, iv (v2 + 1), iv r1, iv (s2 108 r1)]) C dX12_weds_165 (by decide) rfl rfl ?_
                refine G_goto (tgt := 45) C dX12_weds_168 (by decide) ?_
                refine G_drop (i := 3) (L' := [rv 75, iv 1, iv (v2 + 1), none, iv (s2 108 r1)]) rfl ?_
                refine G_drop (i := 4) (L' := [rv 75, iv 1, iv (v2 + 1), none, none]) rfl ?_
                exact h
              · have h := h.2.2 q
                refine G_aload_n C dX12_weds_143 rfl ?_
                refine gR_X12_56 C ly_75 rfl wf_X12_113 dX12_weds_144 ?_
                refine G_iload C dX12_weds_147 rfl ?_
                refine G_iconst C dX12_weds_149 ?_
                refine G_iast C ly_108 (by decide) h.1 dX12_weds_150 ?_
                have h := h.2
                have h := h _ rfl
                obtain ⟨s11, e11⟩ : ∃ z, z = up s8 108 (s2 108 r1) (-1) := ⟨_, rfl⟩
                rw [← e11] at h ⊢
                refine G_aload_n C dX12_weds_151 rfl ?_
                refine gR_X12_56 C ly_75 rfl wf_X12_113 dX12_weds_152 ?_
                refine G_iload_n C dX12_weds_155 rfl ?_
                refine G_iload_n C dX12_weds_156 rfl ?_
                refine G_iast C ly_108 (by decide) h.1 dX12_weds_157 ?_
                have h := h.2
                have h := h _ rfl
                obtain ⟨s12, e12⟩ : ∃ z, z = up s11 108 r1 v2 := ⟨_, rfl⟩
                rw [← e12] at h ⊢
                refine G_aload_n C dX12_weds_158 rfl ?_
                refine gR_X12_56 C ly_75 rfl wf_X12_113 dX12_weds_159 ?_
                refine G_iload_n C dX12_weds_162 rfl ?_
                refine G_iload_n C dX12_weds_163 rfl ?_
                refine G_iast C ly_108 (by decide) h.1 dX12_weds_164 ?_
                have h := h.2
                have h := h _ rfl
                obtain ⟨s13, e13⟩ : ∃ z, z = up s12 108 v2 r1 := ⟨_, rfl⟩
                rw [← e13] at h ⊢
                refine G_iinc (L' := [rv 75, iv 1, iv (v2 + 1), iv r1, iv (s2 108 r1)]) C dX12_weds_165 (by decide) rfl rfl ?_
                refine G_goto (tgt := 45) C dX12_weds_168 (by decide) ?_
                refine G_drop (i := 3) (L' := [rv 75, iv 1, iv (v2 + 1), none, iv (s2 108 r1)]) rfl ?_
                refine G_drop (i := 4) (L' := [rv 75, iv 1, iv (v2 + 1), none, none]) rfl ?_
                exact h
            · have h := h.2.2 q
              refine G_goto (tgt := 165) C dX12_weds_134 (by decide) ?_
              refine G_iinc (L' := [rv 75, iv 1, iv (v2 + 1), iv r1, iv (s2 108 r1)]) C dX12_weds_165 (by decide) rfl rfl ?_
              refine G_goto (tgt := 45) C dX12_weds_168 (by decide) ?_
              refine G_drop (i := 3) (L' := [rv 75, iv 1, iv (v2 + 1), none, iv (s2 108 r1)]) rfl ?_
              refine G_drop (i := 4) (L' := [rv 75, iv 1, iv (v2 + 1), none, none]) rfl ?_
              exact h
        · have h := h.2.2 q
          refine G_goto (tgt := 165) C dX12_weds_91 (by decide) ?_
          refine G_iinc (L' := [rv 75, iv v1, iv (v2 + 1), iv r1, none]) C dX12_weds_165 (by decide) rfl rfl ?_
          refine G_goto (tgt := 45) C dX12_weds_168 (by decide) ?_
          refine G_drop (i := 3) (L' := [rv 75, iv v1, iv (v2 + 1), none, none]) rfl ?_
          exact h
      · have h := h.2.2 q
        refine G_goto (tgt := 165) C dX12_weds_72 (by decide) ?_
        refine G_iinc (L' := [rv 75, iv v1, iv (v2 + 1), none, none]) C dX12_weds_165 (by decide) rfl rfl ?_
        refine G_goto (tgt := 45) C dX12_weds_168 (by decide) ?_
        exact h
set_option maxRecDepth 20000 in
theorem kb_X12_isLetterOf_0 {X : Cx} {d : Nat} {P : Int → Sto → Prop} (C : Ok LY X RX12 cX12_isLetterOf 2 d) (r : RetZ LY X cX12_isLetterOf P) {v1 : Int} {s : Sto} (h : ((rg v1) ∧ ((v1 < 0 → P 0 s) ∧ (0 ≤ v1 → ((rg v1 ∧ rg (s 75 9)) ∧ (((s 75 9) ≤ v1 → P 0 s) ∧ (v1 < (s 75 9) → P 1 s))))))) : G LY X 0 [rv 75, iv v1] [] s := by
  refine G_iload_n C dX12_isLetterOf_0 rfl ?_
  refine G_if_lt (tgt := 16) C dX12_isLetterOf_1 (by decide) h.1 (fun q => ?_) (fun q => ?_)
  · have h := h.2.1 q
    refine G_iconst C dX12_isLetterOf_16 ?_
    exact r _ _ _ _ dX12_isLetterOf_17 (by decide) h
  · have h := h.2.2 q
    refine G_iload_n C dX12_isLetterOf_4 rfl ?_
    refine G_aload_n C dX12_isLetterOf_5 rfl ?_
    refine gI_X12_9 C ly_75 rfl wf_X12_25 dX12_isLetterOf_6 ?_
    refine G_icmp_ge (tgt := 16) C dX12_isLetterOf_9 (by decide) ⟨h.1.1, h.1.2⟩ (fun q => ?_) (fun q => ?_)
    · have h := h.2.1 q
      refine G_iconst C dX12_isLetterOf_16 ?_
      exact r _ _ _ _ dX12_isLetterOf_17 (by decide) h
    · have h := h.2.2 q
      refine G_iconst C dX12_isLetterOf_12 ?_
      refine G_goto (tgt := 17) C dX12_isLetterOf_13 (by decide) ?_
      exact r _ _ _ _ dX12_isLetterOf_17 (by decide) h
set_option maxRecDepth 20000 in
theorem kb_X12_findsOvers_0 {X : Cx} {d : Nat} {P : Sto → Prop} (C : Ok LY X RX12 cX12_findsOvers 4 d) (r : RetV LY X cX12_findsOvers P) {s : Sto} (h : G LY X 2 [rv 75, iv 0, none, none] [] s) : G LY X 0 [rv 75, none, none, none] [] s := by
  refine G_iconst C dX12_findsOvers_0 ?_
  refine G_istore_n (L' := [rv 75, iv 0, none, none]) C dX12_findsOvers_1 (by decide) rfl ?_
  exact h
set_option maxRecDepth 20000 in
theorem kb_X12_findsOvers_2 {X : Cx} {d : Nat} {P : Sto → Prop} (C : Ok LY X RX12 cX12_findsOvers 4 d) (r : RetV LY X cX12_findsOvers P) {v1 : Int} {s : Sto} (h : ((rg v1) ∧ ((64 ≤ v1 → G LY X 23 [rv 75, iv 0, none, none] [] s) ∧ (v1 < 64 → ((0 ≤ v1 ∧ v1 < 64) ∧ (∀ s1 : Sto, s1 = up s 110 v1 0 → G LY X 2 [rv 75, iv (v1 + 1), none, none] [] s1)))))) : G LY X 2 [rv 75, iv v1, none, none] [] s := by
  refine G_iload_n C dX12_findsOvers_2 rfl ?_
  refine G_bipush C dX12_findsOvers_3 bi_64 ?_
  refine G_icmp_ge (tgt := 21) C dX12_findsOvers_5 (by decide) ⟨h.1, (by decide)⟩ (fun q => ?_) (fun q => ?_)
  · have h := h.2.1 q
    refine G_iconst C dX12_findsOvers_21 ?_
    refine G_istore_n (L' := [rv 75, iv 0, none, none]) C dX12_findsOvers_22 (by decide) rfl ?_
    exact h
  · have h := h.2.2 q
    refine G_aload_n C dX12_findsOvers_8 rfl ?_
    refine gR_X12_60 C ly_75 rfl wf_X12_119 dX12_findsOvers_9 ?_
    refine G_iload_n C dX12_findsOvers_12 rfl ?_
    refine G_iconst C dX12_findsOvers_13 ?_
    refine G_iast C ly_110 (by decide) h.1 dX12_findsOvers_14 ?_
    have h := h.2
    have h := h _ rfl
    obtain ⟨s1, e1⟩ : ∃ z, z = up s 110 v1 0 := ⟨_, rfl⟩
    rw [← e1] at h ⊢
    refine G_iinc (L' := [rv 75, iv (v1 + 1), none, none]) C dX12_findsOvers_15 (by decide) rfl rfl ?_
    refine G_goto (tgt := 2) C dX12_findsOvers_18 (by decide) ?_
    exact h
set_option maxRecDepth 20000 in
theorem kb_X12_findsOvers_23 {X : Cx} {d : Nat} {P : Sto → Prop} (C : Ok LY X RX12 cX12_findsOvers 4 d) (r : RetV LY X cX12_findsOvers P) {v1 : Int} {s : Sto} (h : ((rg v1 ∧ rg (s 75 18)) ∧ (((s 75 18) ≤ v1 → P s) ∧ (v1 < (s 75 18) → G LY X 33 [rv 75, iv v1, iv 0, none] [] s)))) : G LY X 23 [rv 75, iv v1, none, none] [] s := by
  refine G_iload_n C dX12_findsOvers_23 rfl ?_
  refine G_aload_n C dX12_findsOvers_24 rfl ?_
  refine gI_X12_18 C ly_75 rfl wf_X12_174 dX12_findsOvers_25 ?_
  refine G_icmp_ge (tgt := 141) C dX12_findsOvers_28 (by decide) ⟨h.1.1, h.1.2⟩ (fun q => ?_) (fun q => ?_)
  · have h := h.2.1 q
    exact r _ _ _ dX12_findsOvers_141 h
  · have h := h.2.2 q
    refine G_iconst C dX12_findsOvers_31 ?_
    refine G_istore_n (L' := [rv 75, iv v1, iv 0, none]) C dX12_findsOvers_32 (by decide) rfl ?_
    exact h
set_option maxRecDepth 20000 in
theorem kb_X12_findsOvers_33 {X : Cx} {d : Nat} {P : Sto → Prop} (C : Ok LY X RX12 cX12_findsOvers 4 d) (r : RetV LY X cX12_findsOvers P) {v1 v2 : Int} {s : Sto} (h : ((rg v2 ∧ rg (s 75 9)) ∧ (((s 75 9) ≤ v2 → G LY X 61 [rv 75, iv v1, iv 0, none] [] s) ∧ (v2 < (s 75 9) → (CallI LY d MX12_placeBy [.inr 75, .inl v1, .inl v2] s (fun r1 s1 => ((0 ≤ v2 ∧ v2 < 8) ∧ (∀ s2 : Sto, s2 = up s1 101 v2 r1 → G LY X 33 [rv 75, iv v1, iv (v2 + 1), none] [] s2)))))))) : G LY X 33 [rv 75, iv v1, iv v2, none] [] s := by
  refine G_iload_n C dX12_findsOvers_33 rfl ?_
  refine G_aload_n C dX12_findsOvers_34 rfl ?_
  refine gI_X12_9 C ly_75 rfl wf_X12_25 dX12_findsOvers_35 ?_
  refine G_icmp_ge (tgt := 59) C dX12_findsOvers_38 (by decide) ⟨h.1.1, h.1.2⟩ (fun q => ?_) (fun q => ?_)
  · have h := h.2.1 q
    refine G_iconst C dX12_findsOvers_59 ?_
    refine G_istore_n (L' := [rv 75, iv v1, iv 0, none]) C dX12_findsOvers_60 (by decide) rfl ?_
    exact h
  · have h := h.2.2 q
    refine G_aload_n C dX12_findsOvers_41 rfl ?_
    refine gR_X12_46 C ly_75 rfl wf_X12_92 dX12_findsOvers_42 ?_
    refine G_iload_n C dX12_findsOvers_45 rfl ?_
    refine G_aload_n C dX12_findsOvers_46 rfl ?_
    refine G_iload_n C dX12_findsOvers_47 rfl ?_
    refine G_iload_n C dX12_findsOvers_48 rfl ?_
    refine G_callVI (K := [.inl v2, .inr 101]) (args := [.inl v1, .inl v2]) (T := TX12) (N := 72) C ly_75 rfl (Nat.le_of_ble_eq_true rfl) mo_X12_placeBy wc_X12_388 rfl dX12_findsOvers_49 h (fun r1 s1 h => ?_)
    refine G_iast C ly_101 (by decide) h.1 dX12_findsOvers_52 ?_
    have h := h.2
    have h := h _ rfl
    obtain ⟨s2, e2⟩ : ∃ z, z = up s1 101 v2 r1 := ⟨_, rfl⟩
    rw [← e2] at h ⊢
    refine G_iinc (L' := [rv 75, iv v1, iv (v2 + 1), none]) C dX12_findsOvers_53 (by decide) rfl rfl ?_
    refine G_goto (tgt := 33) C dX12_findsOvers_56 (by decide) ?_
    exact h
set_option maxRecDepth 20000 in
theorem kb_X12_findsOvers_61 {X : Cx} {d : Nat} {P : Sto → Prop} (C : Ok LY X RX12 cX12_findsOvers 4 d) (r : RetV LY X cX12_findsOvers P) {v1 v2 : Int} {s : Sto} (h : ((rg v2 ∧ rg (s 75 9)) ∧ (((s 75 9) ≤ v2 → G LY X 23 [rv 75, iv (v1 + 1), none, none] [] s) ∧ (v2 < (s 75 9) → G LY X 71 [rv 75, iv v1, iv v2, iv 0] [] s)))) : G LY X 61 [rv 75, iv v1, iv v2, none] [] s := by
  refine G_iload_n C dX12_findsOvers_61 rfl ?_
  refine G_aload_n C dX12_findsOvers_62 rfl ?_
  refine gI_X12_9 C ly_75 rfl wf_X12_25 dX12_findsOvers_63 ?_
  refine G_icmp_ge (tgt := 135) C dX12_findsOvers_66 (by decide) ⟨h.1.1, h.1.2⟩ (fun q => ?_) (fun q => ?_)
  · have h := h.2.1 q
    refine G_iinc (L' := [rv 75, iv (v1 + 1), iv v2, none]) C dX12_findsOvers_135 (by decide) rfl rfl ?_
    refine G_goto (tgt := 23) C dX12_findsOvers_138 (by decide) ?_
    refine G_drop (i := 2) (L' := [rv 75, iv (v1 + 1), none, none]) rfl ?_
    exact h
  · have h := h.2.2 q
    refine G_iconst C dX12_findsOvers_69 ?_
    refine G_istore_n (L' := [rv 75, iv v1, iv v2, iv 0]) C dX12_findsOvers_70 (by decide) rfl ?_
    exact h
set_option maxRecDepth 20000 in
theorem kb_X12_findsOvers_71 {X : Cx} {d : Nat} {P : Sto → Prop} (C : Ok LY X RX12 cX12_findsOvers 4 d) (r : RetV LY X cX12_findsOvers P) {v1 v2 v3 : Int} {s : Sto} (h : ((rg v3 ∧ rg (s 75 9)) ∧ (((s 75 9) ≤ v3 → G LY X 61 [rv 75, iv v1, iv (v2 + 1), none] [] s) ∧ (v3 < (s 75 9) → ((0 ≤ v2 ∧ v2 < 8) ∧ ((0 ≤ v3 ∧ v3 < 8) ∧ ((rg (s 101 v2) ∧ rg (s 101 v3)) ∧ (((s 101 v3) ≤ (s 101 v2) → G LY X 71 [rv 75, iv v1, iv v2, iv (v3 + 1)] [] s) ∧ ((s 101 v2) < (s 101 v3) → ((0 ≤ ((8 * v2) + v3) ∧ ((8 * v2) + v3) < 64) ∧ ((0 ≤ v1 ∧ v1 < 12) ∧ ((0 ≤ ((8 * v2) + v3) ∧ ((8 * v2) + v3) < 64) ∧ (∀ s1 : Sto, s1 = up s 110 ((8 * v2) + v3) ((s 110 ((8 * v2) + v3)) + (s 89 v1)) → G LY X 71 [rv 75, iv v1, iv v2, iv (v3 + 1)] [] s1))))))))))))) : G LY X 71 [rv 75, iv v1, iv v2, iv v3] [] s := by
  refine G_iload_n C dX12_findsOvers_71 rfl ?_
  refine G_aload_n C dX12_findsOvers_72 rfl ?_
  refine gI_X12_9 C ly_75 rfl wf_X12_25 dX12_findsOvers_73 ?_
  refine G_icmp_ge (tgt := 129) C dX12_findsOvers_76 (by decide) ⟨h.1.1, h.1.2⟩ (fun q => ?_) (fun q => ?_)
  · have h := h.2.1 q
    refine G_iinc (L' := [rv 75, iv v1, iv (v2 + 1), iv v3]) C dX12_findsOvers_129 (by decide) rfl rfl ?_
    refine G_goto (tgt := 61) C dX12_findsOvers_132 (by decide) ?_
    refine G_drop (i := 3) (L' := [rv 75, iv v1, iv (v2 + 1), none]) rfl ?_
    exact h
  · have h := h.2.2 q
    refine G_aload_n C dX12_findsOvers_79 rfl ?_
    refine gR_X12_46 C ly_75 rfl wf_X12_92 dX12_findsOvers_80 ?_
    refine G_iload_n C dX12_findsOvers_83 rfl ?_
    refine G_iald C ly_101 (by decide) h.1 dX12_findsOvers_84 ?_
    have h := h.2
    refine G_aload_n C dX12_findsOvers_85 rfl ?_
    refine gR_X12_46 C ly_75 rfl wf_X12_92 dX12_findsOvers_86 ?_
    refine G_iload_n C dX12_findsOvers_89 rfl ?_
    refine G_iald C ly_101 (by decide) h.1 dX12_findsOvers_90 ?_
    have h := h.2
    refine G_icmp_ge (tgt := 123) C dX12_findsOvers_91 (by decide) ⟨h.1.1, h.1.2⟩ (fun q => ?_) (fun q => ?_)
    · have h := h.2.1 q
      refine G_iinc (L' := [rv 75, iv v1, iv v2, iv (v3 + 1)]) C dX12_findsOvers_123 (by decide) rfl rfl ?_
      refine G_goto (tgt := 71) C dX12_findsOvers_126 (by decide) ?_
      exact h
    · have h := h.2.2 q
      refine G_aload_n C dX12_findsOvers_94 rfl ?_
      refine gR_X12_60 C ly_75 rfl wf_X12_119 dX12_findsOvers_95 ?_
      refine G_bipush C dX12_findsOvers_98 bi_8 ?_
      refine G_iload_n C dX12_findsOvers_100 rfl ?_
      refine G_imul C dX12_findsOvers_101 ?_
      refine G_iload_n C dX12_findsOvers_102 rfl ?_
      refine G_iadd C dX12_findsOvers_103 ?_
      refine G_aload_n C dX12_findsOvers_104 rfl ?_
      refine gR_X12_60 C ly_75 rfl wf_X12_119 dX12_findsOvers_105 ?_
      refine G_bipush C dX12_findsOvers_108 bi_8 ?_
      refine G_iload_n C dX12_findsOvers_110 rfl ?_
      refine G_imul C dX12_findsOvers_111 ?_
      refine G_iload_n C dX12_findsOvers_112 rfl ?_
      refine G_iadd C dX12_findsOvers_113 ?_
      refine G_iald C ly_110 (by decide) h.1 dX12_findsOvers_114 ?_
      have h := h.2
      refine G_aload_n C dX12_findsOvers_115 rfl ?_
      refine gR_X12_19 C ly_75 rfl wf_X12_53 dX12_findsOvers_116 ?_
      refine G_iload_n C dX12_findsOvers_119 rfl ?_
      refine G_iald C ly_89 (by decide) h.1 dX12_findsOvers_120 ?_
      have h := h.2
      refine G_iadd C dX12_findsOvers_121 ?_
      refine G_iast C ly_110 (by decide) h.1 dX12_findsOvers_122 ?_
      have h := h.2
      have h := h _ rfl
      obtain ⟨s1, e1⟩ : ∃ z, z = up s 110 ((8 * v2) + v3) ((s 110 ((8 * v2) + v3)) + (s 89 v1)) := ⟨_, rfl⟩
      rw [← e1] at h ⊢
      refine G_iinc (L' := [rv 75, iv v1, iv v2, iv (v3 + 1)]) C dX12_findsOvers_123 (by decide) rfl rfl ?_
      refine G_goto (tgt := 71) C dX12_findsOvers_126 (by decide) ?_
      exact h
set_option maxRecDepth 20000 in
theorem kb_X12_findsVote_0 {X : Cx} {d : Nat} {P : Sto → Prop} (C : Ok LY X RX12 cX12_findsVote 4 d) (r : RetV LY X cX12_findsVote P) {v1 : Int} {s : Sto} (h : (CallV LY d MX12_begins [.inr 75] s (fun s1 => ((rg (s1 75 18)) ∧ (((s1 75 18) ≠ 0 → (CallV LY d MX12_findsOvers [.inr 75] s1 (fun s2 => ((rg v1) ∧ ((v1 ≠ 2 → G LY X 35 [rv 75, iv v1, iv 0, none] [] s2) ∧ (v1 = 2 → (CallV LY d MX12_findsNearest [.inr 75] s2 (fun s3 => P s3)))))))) ∧ ((s1 75 18) = 0 → (CallV LY d MX12_movesOrder [.inr 75, .inl 0, .inl 20] s1 (fun s4 => P s4)))))))) : G LY X 0 [rv 75, iv v1, none, none] [] s := by
  refine G_aload_n C dX12_findsVote_0 rfl ?_
  refine G_callVV (K := []) (args := []) (T := TX12) (N := 72) C ly_75 rfl (Nat.le_of_ble_eq_true rfl) mo_X12_begins wc_X12_168 rfl dX12_findsVote_1 h (fun s1 h => ?_)
  refine G_aload_n C dX12_findsVote_4 rfl ?_
  refine gI_X12_18 C ly_75 rfl wf_X12_174 dX12_findsVote_5 ?_
  refine G_if_ne (tgt := 19) C dX12_findsVote_8 (by decide) h.1 (fun q => ?_) (fun q => ?_)
  · have h := h.2.1 q
    refine G_aload_n C dX12_findsVote_19 rfl ?_
    refine G_callVV (K := []) (args := []) (T := TX12) (N := 72) C ly_75 rfl (Nat.le_of_ble_eq_true rfl) mo_X12_findsOvers wc_X12_394 rfl dX12_findsVote_20 h (fun s2 h => ?_)
    refine G_iload_n C dX12_findsVote_23 rfl ?_
    refine G_iconst C dX12_findsVote_24 ?_
    refine G_icmp_ne (tgt := 33) C dX12_findsVote_25 (by decide) ⟨h.1, (by decide)⟩ (fun q => ?_) (fun q => ?_)
    · have h := h.2.1 q
      refine G_iconst C dX12_findsVote_33 ?_
      refine G_istore_n (L' := [rv 75, iv v1, iv 0, none]) C dX12_findsVote_34 (by decide) rfl ?_
      exact h
    · have h := h.2.2 q
      refine G_aload_n C dX12_findsVote_28 rfl ?_
      refine G_callVV (K := []) (args := []) (T := TX12) (N := 72) C ly_75 rfl (Nat.le_of_ble_eq_true rfl) mo_X12_findsNearest wc_X12_397 rfl dX12_findsVote_29 h (fun s3 h => ?_)
      exact r _ _ _ dX12_findsVote_32 h
  · have h := h.2.2 q
    refine G_aload_n C dX12_findsVote_11 rfl ?_
    refine G_iconst C dX12_findsVote_12 ?_
    refine G_bipush C dX12_findsVote_13 bi_20 ?_
    refine G_callVV (K := []) (args := [.inl 0, .inl 20]) (T := TX12) (N := 72) C ly_75 rfl (Nat.le_of_ble_eq_true rfl) mo_X12_movesOrder wc_X12_198 rfl dX12_findsVote_15 h (fun s4 h => ?_)
    exact r _ _ _ dX12_findsVote_18 h
set_option maxRecDepth 20000 in
theorem kb_X12_findsVote_35 {X : Cx} {d : Nat} {P : Sto → Prop} (C : Ok LY X RX12 cX12_findsVote 4 d) (r : RetV LY X cX12_findsVote P) {v1 v2 : Int} {s : Sto} (h : ((rg v2 ∧ rg (s 75 9)) ∧ (((s 75 9) ≤ v2 → P s) ∧ (v2 < (s 75 9) → ((rg v1) ∧ ((v1 ≠ 0 → (CallI LY d MX12_beatenBy [.inr 75, .inl v2] s (fun r1 s1 => ((0 ≤ v2 ∧ v2 < 8) ∧ (∀ s2 : Sto, s2 = up s1 111 v2 r1 → G LY X 68 [rv 75, iv v1, iv v2, iv v2] [] s2))))) ∧ (v1 = 0 → (CallI LY d MX12_pointsOf [.inr 75, .inl v2] s (fun r3 s3 => ((0 ≤ v2 ∧ v2 < 8) ∧ (∀ s4 : Sto, s4 = up s3 111 v2 r3 → G LY X 68 [rv 75, iv v1, iv v2, iv v2] [] s4))))))))))) : G LY X 35 [rv 75, iv v1, iv v2, none] [] s := by
  refine G_iload_n C dX12_findsVote_35 rfl ?_
  refine G_aload_n C dX12_findsVote_36 rfl ?_
  refine gI_X12_9 C ly_75 rfl wf_X12_25 dX12_findsVote_37 ?_
  refine G_icmp_ge (tgt := 144) C dX12_findsVote_40 (by decide) ⟨h.1.1, h.1.2⟩ (fun q => ?_) (fun q => ?_)
  · have h := h.2.1 q
    exact r _ _ _ dX12_findsVote_144 h
  · have h := h.2.2 q
    refine G_aload_n C dX12_findsVote_43 rfl ?_
    refine gR_X12_61 C ly_75 rfl wf_X12_122 dX12_findsVote_44 ?_
    refine G_iload_n C dX12_findsVote_47 rfl ?_
    refine G_iload_n C dX12_findsVote_48 rfl ?_
    refine G_if_ne (tgt := 60) C dX12_findsVote_49 (by decide) h.1 (fun q => ?_) (fun q => ?_)
    · have h := h.2.1 q
      refine G_aload_n C dX12_findsVote_60 rfl ?_
      refine G_iload_n C dX12_findsVote_61 rfl ?_
      refine G_callVI (K := [.inl v2, .inr 111]) (args := [.inl v2]) (T := TX12) (N := 72) C ly_75 rfl (Nat.le_of_ble_eq_true rfl) mo_X12_beatenBy wc_X12_403 rfl dX12_findsVote_62 h (fun r1 s1 h => ?_)
      refine G_iast C ly_111 (by decide) h.1 dX12_findsVote_65 ?_
      have h := h.2
      have h := h _ rfl
      obtain ⟨s2, e2⟩ : ∃ z, z = up s1 111 v2 r1 := ⟨_, rfl⟩
      rw [← e2] at h ⊢
      refine G_iload_n C dX12_findsVote_66 rfl ?_
      refine G_istore_n (L' := [rv 75, iv v1, iv v2, iv v2]) C dX12_findsVote_67 (by decide) rfl ?_
      exact h
    · have h := h.2.2 q
      refine G_aload_n C dX12_findsVote_52 rfl ?_
      refine G_iload_n C dX12_findsVote_53 rfl ?_
      refine G_callVI (K := [.inl v2, .inr 111]) (args := [.inl v2]) (T := TX12) (N := 72) C ly_75 rfl (Nat.le_of_ble_eq_true rfl) mo_X12_pointsOf wc_X12_400 rfl dX12_findsVote_54 h (fun r3 s3 h => ?_)
      refine G_goto (tgt := 65) C dX12_findsVote_57 (by decide) ?_
      refine G_iast C ly_111 (by decide) h.1 dX12_findsVote_65 ?_
      have h := h.2
      have h := h _ rfl
      obtain ⟨s4, e4⟩ : ∃ z, z = up s3 111 v2 r3 := ⟨_, rfl⟩
      rw [← e4] at h ⊢
      refine G_iload_n C dX12_findsVote_66 rfl ?_
      refine G_istore_n (L' := [rv 75, iv v1, iv v2, iv v2]) C dX12_findsVote_67 (by decide) rfl ?_
      exact h
set_option maxRecDepth 20000 in
theorem kb_X12_findsVote_68 {X : Cx} {d : Nat} {P : Sto → Prop} (C : Ok LY X RX12 cX12_findsVote 4 d) (r : RetV LY X cX12_findsVote P) {v1 v2 v3 : Int} {s : Sto} (h : ((rg v3) ∧ ((v3 ≤ 0 → ((0 ≤ (160 + v3) ∧ (160 + v3) < 168) ∧ (∀ s1 : Sto, s1 = up s 81 (160 + v3) v2 → G LY X 35 [rv 75, iv v1, iv (v2 + 1), none] [] s1))) ∧ (0 < v3 → ((0 ≤ ((160 + v3) - 1) ∧ ((160 + v3) - 1) < 168) ∧ ((0 ≤ (s 81 ((160 + v3) - 1)) ∧ (s 81 ((160 + v3) - 1)) < 8) ∧ ((0 ≤ v2 ∧ v2 < 8) ∧ ((rg (s 111 (s 81 ((160 + v3) - 1))) ∧ rg (s 111 v2)) ∧ (((s 111 v2) ≤ (s 111 (s 81 ((160 + v3) - 1))) → ((0 ≤ (160 + v3) ∧ (160 + v3) < 168) ∧ (∀ s2 : Sto, s2 = up s 81 (160 + v3) v2 → G LY X 35 [rv 75, iv v1, iv (v2 + 1), none] [] s2))) ∧ ((s 111 (s 81 ((160 + v3) - 1))) < (s 111 v2) → ((0 ≤ ((160 + v3) - 1) ∧ ((160 + v3) - 1) < 168) ∧ ((0 ≤ (160 + v3) ∧ (160 + v3) < 168) ∧ (∀ s3 : Sto, s3 = up s 81 (160 + v3) (s 81 ((160 + v3) - 1)) → G LY X 68 [rv 75, iv v1, iv v2, iv (v3 - 1)] [] s3))))))))))))) : G LY X 68 [rv 75, iv v1, iv v2, iv v3] [] s := by
  refine G_iload_n C dX12_findsVote_68 rfl ?_
  refine G_if_le (tgt := 127) C dX12_findsVote_69 (by decide) h.1 (fun q => ?_) (fun q => ?_)
  · have h := h.2.1 q
    refine G_aload_n C dX12_findsVote_127 rfl ?_
    refine gR_X12_10 C ly_75 rfl wf_X12_29 dX12_findsVote_128 ?_
    refine G_sipush C dX12_findsVote_131 si_160 ?_
    refine G_iload_n C dX12_findsVote_134 rfl ?_
    refine G_iadd C dX12_findsVote_135 ?_
    refine G_iload_n C dX12_findsVote_136 rfl ?_
    refine G_iast C ly_81 (by decide) h.1 dX12_findsVote_137 ?_
    have h := h.2
    have h := h _ rfl
    obtain ⟨s1, e1⟩ : ∃ z, z = up s 81 (160 + v3) v2 := ⟨_, rfl⟩
    rw [← e1] at h ⊢
    refine G_iinc (L' := [rv 75, iv v1, iv (v2 + 1), iv v3]) C dX12_findsVote_138 (by decide) rfl rfl ?_
    refine G_goto (tgt := 35) C dX12_findsVote_141 (by decide) ?_
    refine G_drop (i := 3) (L' := [rv 75, iv v1, iv (v2 + 1), none]) rfl ?_
    exact h
  · have h := h.2.2 q
    refine G_aload_n C dX12_findsVote_72 rfl ?_
    refine gR_X12_61 C ly_75 rfl wf_X12_122 dX12_findsVote_73 ?_
    refine G_aload_n C dX12_findsVote_76 rfl ?_
    refine gR_X12_10 C ly_75 rfl wf_X12_29 dX12_findsVote_77 ?_
    refine G_sipush C dX12_findsVote_80 si_160 ?_
    refine G_iload_n C dX12_findsVote_83 rfl ?_
    refine G_iadd C dX12_findsVote_84 ?_
    refine G_iconst C dX12_findsVote_85 ?_
    refine G_isub C dX12_findsVote_86 ?_
    refine G_iald C ly_81 (by decide) h.1 dX12_findsVote_87 ?_
    have h := h.2
    refine G_iald C ly_111 (by decide) h.1 dX12_findsVote_88 ?_
    have h := h.2
    refine G_aload_n C dX12_findsVote_89 rfl ?_
    refine gR_X12_61 C ly_75 rfl wf_X12_122 dX12_findsVote_90 ?_
    refine G_iload_n C dX12_findsVote_93 rfl ?_
    refine G_iald C ly_111 (by decide) h.1 dX12_findsVote_94 ?_
    have h := h.2
    refine G_icmp_ge (tgt := 127) C dX12_findsVote_95 (by decide) ⟨h.1.1, h.1.2⟩ (fun q => ?_) (fun q => ?_)
    · have h := h.2.1 q
      refine G_aload_n C dX12_findsVote_127 rfl ?_
      refine gR_X12_10 C ly_75 rfl wf_X12_29 dX12_findsVote_128 ?_
      refine G_sipush C dX12_findsVote_131 si_160 ?_
      refine G_iload_n C dX12_findsVote_134 rfl ?_
      refine G_iadd C dX12_findsVote_135 ?_
      refine G_iload_n C dX12_findsVote_136 rfl ?_
      refine G_iast C ly_81 (by decide) h.1 dX12_findsVote_137 ?_
      have h := h.2
      have h := h _ rfl
      obtain ⟨s2, e2⟩ : ∃ z, z = up s 81 (160 + v3) v2 := ⟨_, rfl⟩
      rw [← e2] at h ⊢
      refine G_iinc (L' := [rv 75, iv v1, iv (v2 + 1), iv v3]) C dX12_findsVote_138 (by decide) rfl rfl ?_
      refine G_goto (tgt := 35) C dX12_findsVote_141 (by decide) ?_
      refine G_drop (i := 3) (L' := [rv 75, iv v1, iv (v2 + 1), none]) rfl ?_
      exact h
    · have h := h.2.2 q
      refine G_aload_n C dX12_findsVote_98 rfl ?_
      refine gR_X12_10 C ly_75 rfl wf_X12_29 dX12_findsVote_99 ?_
      refine G_sipush C dX12_findsVote_102 si_160 ?_
      refine G_iload_n C dX12_findsVote_105 rfl ?_
      refine G_iadd C dX12_findsVote_106 ?_
      refine G_aload_n C dX12_findsVote_107 rfl ?_
      refine gR_X12_10 C ly_75 rfl wf_X12_29 dX12_findsVote_108 ?_
      refine G_sipush C dX12_findsVote_111 si_160 ?_
      refine G_iload_n C dX12_findsVote_114 rfl ?_
      refine G_iadd C dX12_findsVote_115 ?_
      refine G_iconst C dX12_findsVote_116 ?_
      refine G_isub C dX12_findsVote_117 ?_
      refine G_iald C ly_81 (by decide) h.1 dX12_findsVote_118 ?_
      have h := h.2
      refine G_iast C ly_81 (by decide) h.1 dX12_findsVote_119 ?_
      have h := h.2
      have h := h _ rfl
      obtain ⟨s3, e3⟩ : ∃ z, z = up s 81 (160 + v3) (s 81 ((160 + v3) - 1)) := ⟨_, rfl⟩
      rw [← e3] at h ⊢
      refine G_iload_n C dX12_findsVote_120 rfl ?_
      refine G_iconst C dX12_findsVote_121 ?_
      refine G_isub C dX12_findsVote_122 ?_
      refine G_istore_n (L' := [rv 75, iv v1, iv v2, iv (v3 - 1)]) C dX12_findsVote_123 (by decide) rfl ?_
      refine G_goto (tgt := 68) C dX12_findsVote_124 (by decide) ?_
      exact h
set_option maxRecDepth 20000 in
theorem kb_X12_bringsAhead_0 {X : Cx} {d : Nat} {P : Int → Sto → Prop} (C : Ok LY X RX12 cX12_bringsAhead 6 d) (r : RetZ LY X cX12_bringsAhead P) {v1 v2 v3 : Int} {s : Sto} (h : (CallV LY d MX12_findsVote [.inr 75, .inl v3] s (fun s1 => G LY X 8 [rv 75, iv v1, iv v2, iv v3, iv 0, none] [] s1))) : G LY X 0 [rv 75, iv v1, iv v2, iv v3, none, none] [] s := by
  refine G_aload_n C dX12_bringsAhead_0 rfl ?_
  refine G_iload_n C dX12_bringsAhead_1 rfl ?_
  refine G_callVV (K := []) (args := [.inl v3]) (T := TX12) (N := 72) C ly_75 rfl (Nat.le_of_ble_eq_true rfl) mo_X12_findsVote wc_X12_409 rfl dX12_bringsAhead_2 h (fun s1 h => ?_)
  refine G_iconst C dX12_bringsAhead_5 ?_
  refine G_istore (L' := [rv 75, iv v1, iv v2, iv v3, iv 0, none]) C dX12_bringsAhead_6 (by decide) rfl ?_
  exact h
set_option maxRecDepth 20000 in
theorem kb_X12_bringsAhead_8 {X : Cx} {d : Nat} {P : Int → Sto → Prop} (C : Ok LY X RX12 cX12_bringsAhead 6 d) (r : RetZ LY X cX12_bringsAhead P) {v1 v2 v3 v4 : Int} {s : Sto} (h : ((rg v4 ∧ rg (s 75 9)) ∧ (((s 75 9) ≤ v4 → P 0 s) ∧ (v4 < (s 75 9) → ((0 ≤ (160 + v4) ∧ (160 + v4) < 168) ∧ ((rg (s 81 (160 + v4)) ∧ rg v1) ∧ (((s 81 (160 + v4)) = v1 → ((rg (s 81 (160 + v4)) ∧ rg v1) ∧ (((s 81 (160 + v4)) ≠ v1 → P 0 s) ∧ ((s 81 (160 + v4)) = v1 → P 1 s)))) ∧ ((s 81 (160 + v4)) ≠ v1 → ((rg (s 81 (160 + v4)) ∧ rg v2) ∧ (((s 81 (160 + v4)) ≠ v2 → G LY X 8 [rv 75, iv v1, iv v2, iv v3, iv (v4 + 1), none] [] s) ∧ ((s 81 (160 + v4)) = v2 → ((rg (s 81 (160 + v4)) ∧ rg v1) ∧ (((s 81 (160 + v4)) ≠ v1 → P 0 s) ∧ ((s 81 (160 + v4)) = v1 → P 1 s)))))))))))))) : G LY X 8 [rv 75, iv v1, iv v2, iv v3, iv v4, none] [] s := by
  refine G_iload C dX12_bringsAhead_8 rfl ?_
  refine G_aload_n C dX12_bringsAhead_10 rfl ?_
  refine gI_X12_9 C ly_75 rfl wf_X12_25 dX12_bringsAhead_11 ?_
  refine G_icmp_ge (tgt := 60) C dX12_bringsAhead_14 (by decide) ⟨h.1.1, h.1.2⟩ (fun q => ?_) (fun q => ?_)
  · have h := h.2.1 q
    refine G_iconst C dX12_bringsAhead_60 ?_
    exact r _ _ _ _ dX12_bringsAhead_61 (by decide) h
  · have h := h.2.2 q
    refine G_aload_n C dX12_bringsAhead_17 rfl ?_
    refine gR_X12_10 C ly_75 rfl wf_X12_29 dX12_bringsAhead_18 ?_
    refine G_sipush C dX12_bringsAhead_21 si_160 ?_
    refine G_iload C dX12_bringsAhead_24 rfl ?_
    refine G_iadd C dX12_bringsAhead_26 ?_
    refine G_iald C ly_81 (by decide) h.1 dX12_bringsAhead_27 ?_
    have h := h.2
    refine G_istore (L' := [rv 75, iv v1, iv v2, iv v3, iv v4, iv (s 81 (160 + v4))]) C dX12_bringsAhead_28 (by decide) rfl ?_
    refine G_iload C dX12_bringsAhead_30 rfl ?_
    refine G_iload_n C dX12_bringsAhead_32 rfl ?_
    refine G_icmp_eq (tgt := 42) C dX12_bringsAhead_33 (by decide) ⟨h.1.1, h.1.2⟩ (fun q => ?_) (fun q => ?_)
    · have h := h.2.1 q
      refine G_iload C dX12_bringsAhead_42 rfl ?_
      refine G_iload_n C dX12_bringsAhead_44 rfl ?_
      refine G_icmp_ne (tgt := 52) C dX12_bringsAhead_45 (by decide) ⟨h.1.1, h.1.2⟩ (fun q => ?_) (fun q => ?_)
      · have h := h.2.1 q
        refine G_iconst C dX12_bringsAhead_52 ?_
        exact r _ _ _ _ dX12_bringsAhead_53 (by decide) h
      · have h := h.2.2 q
        refine G_iconst C dX12_bringsAhead_48 ?_
        refine G_goto (tgt := 53) C dX12_bringsAhead_49 (by decide) ?_
        exact r _ _ _ _ dX12_bringsAhead_53 (by decide) h
    · have h := h.2.2 q
      refine G_iload C dX12_bringsAhead_36 rfl ?_
      refine G_iload_n C dX12_bringsAhead_38 rfl ?_
      refine G_icmp_ne (tgt := 54) C dX12_bringsAhead_39 (by decide) ⟨h.1.1, h.1.2⟩ (fun q => ?_) (fun q => ?_)
      · have h := h.2.1 q
        refine G_iinc (L' := [rv 75, iv v1, iv v2, iv v3, iv (v4 + 1), iv (s 81 (160 + v4))]) C dX12_bringsAhead_54 (by decide) rfl rfl ?_
        refine G_goto (tgt := 8) C dX12_bringsAhead_57 (by decide) ?_
        refine G_drop (i := 5) (L' := [rv 75, iv v1, iv v2, iv v3, iv (v4 + 1), none]) rfl ?_
        exact h
      · have h := h.2.2 q
        refine G_iload C dX12_bringsAhead_42 rfl ?_
        refine G_iload_n C dX12_bringsAhead_44 rfl ?_
        refine G_icmp_ne (tgt := 52) C dX12_bringsAhead_45 (by decide) ⟨h.1.1, h.1.2⟩ (fun q => ?_) (fun q => ?_)
        · have h := h.2.1 q
          refine G_iconst C dX12_bringsAhead_52 ?_
          exact r _ _ _ _ dX12_bringsAhead_53 (by decide) h
        · have h := h.2.2 q
          refine G_iconst C dX12_bringsAhead_48 ?_
          refine G_goto (tgt := 53) C dX12_bringsAhead_49 (by decide) ?_
          exact r _ _ _ _ dX12_bringsAhead_53 (by decide) h
set_option maxRecDepth 20000 in
theorem kb_X12_ones_0 {X : Cx} {d : Nat} {P : Int → Sto → Prop} (C : Ok LY X RX12 cX12_ones 4 d) (r : RetI LY X cX12_ones P) {v1 : Int} {s : Sto} (h : G LY X 4 [rv 75, iv v1, iv 0, iv v1] [] s) : G LY X 0 [rv 75, iv v1, none, none] [] s := by
  refine G_iconst C dX12_ones_0 ?_
  refine G_istore_n (L' := [rv 75, iv v1, iv 0, none]) C dX12_ones_1 (by decide) rfl ?_
  refine G_iload_n C dX12_ones_2 rfl ?_
  refine G_istore_n (L' := [rv 75, iv v1, iv 0, iv v1]) C dX12_ones_3 (by decide) rfl ?_
  exact h
set_option maxRecDepth 20000 in
theorem kb_X12_ones_4 {X : Cx} {d : Nat} {P : Int → Sto → Prop} (C : Ok LY X RX12 cX12_ones 4 d) (r : RetI LY X cX12_ones P) {v1 v2 v3 : Int} {s : Sto} (h : ((rg v3) ∧ ((v3 = 0 → P v2 s) ∧ (v3 ≠ 0 → G LY X 4 [rv 75, iv v1, iv (v2 + 1), iv (xand v3 (v3 - 1))] [] s)))) : G LY X 4 [rv 75, iv v1, iv v2, iv v3] [] s := by
  refine G_iload_n C dX12_ones_4 rfl ?_
  refine G_if_eq (tgt := 21) C dX12_ones_5 (by decide) h.1 (fun q => ?_) (fun q => ?_)
  · have h := h.2.1 q
    refine G_iload_n C dX12_ones_21 rfl ?_
    exact r _ _ _ _ dX12_ones_22 h
  · have h := h.2.2 q
    refine G_iload_n C dX12_ones_8 rfl ?_
    refine G_iconst C dX12_ones_9 ?_
    refine G_iadd C dX12_ones_10 ?_
    refine G_istore_n (L' := [rv 75, iv v1, iv (v2 + 1), iv v3]) C dX12_ones_11 (by decide) rfl ?_
    refine G_iload_n C dX12_ones_12 rfl ?_
    refine G_iload_n C dX12_ones_13 rfl ?_
    refine G_iconst C dX12_ones_14 ?_
    refine G_isub C dX12_ones_15 ?_
    refine G_iand C dX12_ones_16 ?_
    refine G_istore_n (L' := [rv 75, iv v1, iv (v2 + 1), iv (xand v3 (v3 - 1))]) C dX12_ones_17 (by decide) rfl ?_
    refine G_goto (tgt := 4) C dX12_ones_18 (by decide) ?_
    exact h
