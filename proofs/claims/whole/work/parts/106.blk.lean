set_option maxRecDepth 20000 in
theorem kb_X12_harmOf_0 {X : Cx} {d : Nat} {P : Int → Sto → Prop} (C : Ok LY X RX12 cX12_harmOf 7 d) (r : RetI LY X cX12_harmOf P) {v1 : Int} {s : Sto} (h : (CallV LY d MX12_findsWorths [.inr 75, .inl 0] s (fun s1 => G LY X 7 [rv 75, iv v1, iv 0, none, none, none, none] [] s1))) : G LY X 0 [rv 75, iv v1, none, none, none, none, none] [] s := by
  refine G_aload_n C dX12_harmOf_0 rfl ?_
  refine G_iconst C dX12_harmOf_1 ?_
  refine G_callVV (K := []) (args := [.inl 0]) (T := TX12) (N := 72) C ly_75 rfl (Nat.le_of_ble_eq_true rfl) mo_X12_findsWorths wc_X12_324 rfl dX12_harmOf_2 h (fun s1 h => ?_)
  refine G_iconst C dX12_harmOf_5 ?_
  refine G_istore_n (L' := [rv 75, iv v1, iv 0, none, none, none, none]) C dX12_harmOf_6 (by decide) rfl ?_
  exact h
set_option maxRecDepth 20000 in
theorem kb_X12_harmOf_7 {X : Cx} {d : Nat} {P : Int → Sto → Prop} (C : Ok LY X RX12 cX12_harmOf 7 d) (r : RetI LY X cX12_harmOf P) {v1 v2 : Int} {s : Sto} (h : ((rg v2 ∧ rg (s 75 4)) ∧ (((s 75 4) ≤ v2 → (CallV LY d MX12_findsWorths [.inr 75, .inl v1] s (fun s1 => G LY X 42 [rv 75, iv v1, iv 0, iv 0, none, none, none] [] s1))) ∧ (v2 < (s 75 4) → ((0 ≤ v2 ∧ v2 < 20) ∧ ((0 ≤ v2 ∧ v2 < 20) ∧ (∀ s2 : Sto, s2 = up s 114 v2 (s 103 v2) → G LY X 7 [rv 75, iv v1, iv (v2 + 1), none, none, none, none] [] s2))))))) : G LY X 7 [rv 75, iv v1, iv v2, none, none, none, none] [] s := by
  refine G_iload_n C dX12_harmOf_7 rfl ?_
  refine G_aload_n C dX12_harmOf_8 rfl ?_
  refine gI_X12_4 C ly_75 rfl wf_X12_154 dX12_harmOf_9 ?_
  refine G_icmp_ge (tgt := 33) C dX12_harmOf_12 (by decide) ⟨h.1.1, h.1.2⟩ (fun q => ?_) (fun q => ?_)
  · have h := h.2.1 q
    refine G_aload_n C dX12_harmOf_33 rfl ?_
    refine G_iload_n C dX12_harmOf_34 rfl ?_
    refine G_callVV (K := []) (args := [.inl v1]) (T := TX12) (N := 72) C ly_75 rfl (Nat.le_of_ble_eq_true rfl) mo_X12_findsWorths wc_X12_324 rfl dX12_harmOf_35 h (fun s1 h => ?_)
    refine G_iconst C dX12_harmOf_38 ?_
    refine G_istore_n (L' := [rv 75, iv v1, iv 0, none, none, none, none]) C dX12_harmOf_39 (by decide) rfl ?_
    refine G_iconst C dX12_harmOf_40 ?_
    refine G_istore_n (L' := [rv 75, iv v1, iv 0, iv 0, none, none, none]) C dX12_harmOf_41 (by decide) rfl ?_
    exact h
  · have h := h.2.2 q
    refine G_aload_n C dX12_harmOf_15 rfl ?_
    refine gR_X12_64 C ly_75 rfl wf_X12_131 dX12_harmOf_16 ?_
    refine G_iload_n C dX12_harmOf_19 rfl ?_
    refine G_aload_n C dX12_harmOf_20 rfl ?_
    refine gR_X12_48 C ly_75 rfl wf_X12_98 dX12_harmOf_21 ?_
    refine G_iload_n C dX12_harmOf_24 rfl ?_
    refine G_iald C ly_103 (by decide) h.1 dX12_harmOf_25 ?_
    have h := h.2
    refine G_iast C ly_114 (by decide) h.1 dX12_harmOf_26 ?_
    have h := h.2
    have h := h _ rfl
    obtain ⟨s2, e2⟩ : ∃ z, z = up s 114 v2 (s 103 v2) := ⟨_, rfl⟩
    rw [← e2] at h ⊢
    refine G_iinc (L' := [rv 75, iv v1, iv (v2 + 1), none, none, none, none]) C dX12_harmOf_27 (by decide) rfl rfl ?_
    refine G_goto (tgt := 7) C dX12_harmOf_30 (by decide) ?_
    exact h
set_option maxRecDepth 20000 in
theorem kb_X12_harmOf_42 {X : Cx} {d : Nat} {P : Int → Sto → Prop} (C : Ok LY X RX12 cX12_harmOf 7 d) (r : RetI LY X cX12_harmOf P) {v1 v2 v3 : Int} {s : Sto} (h : ((rg v3 ∧ rg (s 75 4)) ∧ (((s 75 4) ≤ v3 → P v2 s) ∧ (v3 < (s 75 4) → ((0 ≤ v3 ∧ v3 < 20) ∧ ((0 ≤ v3 ∧ v3 < 20) ∧ ((rg ((s 114 v3) - (s 103 v3))) ∧ ((0 < ((s 114 v3) - (s 103 v3)) → G LY X 79 [rv 75, iv v1, iv v2, iv v3, iv ((s 114 v3) - (s 103 v3)), iv 0, iv 0] [] s) ∧ (((s 114 v3) - (s 103 v3)) ≤ 0 → G LY X 42 [rv 75, iv v1, iv v2, iv (v3 + 1), none, none, none] [] s))))))))) : G LY X 42 [rv 75, iv v1, iv v2, iv v3, none, none, none] [] s := by
  refine G_iload_n C dX12_harmOf_42 rfl ?_
  refine G_aload_n C dX12_harmOf_43 rfl ?_
  refine gI_X12_4 C ly_75 rfl wf_X12_154 dX12_harmOf_44 ?_
  refine G_icmp_ge (tgt := 157) C dX12_harmOf_47 (by decide) ⟨h.1.1, h.1.2⟩ (fun q => ?_) (fun q => ?_)
  · have h := h.2.1 q
    refine G_iload_n C dX12_harmOf_157 rfl ?_
    exact r _ _ _ _ dX12_harmOf_158 h
  · have h := h.2.2 q
    refine G_aload_n C dX12_harmOf_50 rfl ?_
    refine gR_X12_64 C ly_75 rfl wf_X12_131 dX12_harmOf_51 ?_
    refine G_iload_n C dX12_harmOf_54 rfl ?_
    refine G_iald C ly_114 (by decide) h.1 dX12_harmOf_55 ?_
    have h := h.2
    refine G_aload_n C dX12_harmOf_56 rfl ?_
    refine gR_X12_48 C ly_75 rfl wf_X12_98 dX12_harmOf_57 ?_
    refine G_iload_n C dX12_harmOf_60 rfl ?_
    refine G_iald C ly_103 (by decide) h.1 dX12_harmOf_61 ?_
    have h := h.2
    refine G_isub C dX12_harmOf_62 ?_
    refine G_istore (L' := [rv 75, iv v1, iv v2, iv v3, iv ((s 114 v3) - (s 103 v3)), none, none]) C dX12_harmOf_63 (by decide) rfl ?_
    refine G_iload C dX12_harmOf_65 rfl ?_
    refine G_if_gt (tgt := 73) C dX12_harmOf_67 (by decide) h.1 (fun q => ?_) (fun q => ?_)
    · have h := h.2.1 q
      refine G_iconst C dX12_harmOf_73 ?_
      refine G_istore (L' := [rv 75, iv v1, iv v2, iv v3, iv ((s 114 v3) - (s 103 v3)), iv 0, none]) C dX12_harmOf_74 (by decide) rfl ?_
      refine G_iconst C dX12_harmOf_76 ?_
      refine G_istore (L' := [rv 75, iv v1, iv v2, iv v3, iv ((s 114 v3) - (s 103 v3)), iv 0, iv 0]) C dX12_harmOf_77 (by decide) rfl ?_
      exact h
    · have h := h.2.2 q
      refine G_goto (tgt := 151) C dX12_harmOf_70 (by decide) ?_
      refine G_iinc (L' := [rv 75, iv v1, iv v2, iv (v3 + 1), iv ((s 114 v3) - (s 103 v3)), none, none]) C dX12_harmOf_151 (by decide) rfl rfl ?_
      refine G_goto (tgt := 42) C dX12_harmOf_154 (by decide) ?_
      refine G_drop (i := 4) (L' := [rv 75, iv v1, iv v2, iv (v3 + 1), none, none, none]) rfl ?_
      exact h
set_option maxRecDepth 20000 in
theorem kb_X12_harmOf_79 {X : Cx} {d : Nat} {P : Int → Sto → Prop} (C : Ok LY X RX12 cX12_harmOf 7 d) (r : RetI LY X cX12_harmOf P) {v1 v2 v3 v4 v5 v6 : Int} {s : Sto} (h : ((rg v6 ∧ rg (s 75 4)) ∧ (((s 75 4) ≤ v6 → G LY X 42 [rv 75, iv v1, iv (v2 + (v4 * ((s 75 4) - v5))), iv (v3 + 1), none, none, none] [] s) ∧ (v6 < (s 75 4) → ((0 ≤ v6 ∧ v6 < 20) ∧ ((0 ≤ v3 ∧ v3 < 20) ∧ ((rg (s 114 v6) ∧ rg (s 114 v3)) ∧ (((s 114 v6) < (s 114 v3) → G LY X 79 [rv 75, iv v1, iv v2, iv v3, iv v4, iv (v5 + 1), iv (v6 + 1)] [] s) ∧ ((s 114 v3) ≤ (s 114 v6) → ((0 ≤ v6 ∧ v6 < 20) ∧ ((0 ≤ v3 ∧ v3 < 20) ∧ ((rg (s 114 v6) ∧ rg (s 114 v3)) ∧ (((s 114 v6) ≠ (s 114 v3) → G LY X 79 [rv 75, iv v1, iv v2, iv v3, iv v4, iv v5, iv (v6 + 1)] [] s) ∧ ((s 114 v6) = (s 114 v3) → ((rg v6 ∧ rg v3) ∧ ((v3 ≤ v6 → G LY X 79 [rv 75, iv v1, iv v2, iv v3, iv v4, iv v5, iv (v6 + 1)] [] s) ∧ (v6 < v3 → G LY X 79 [rv 75, iv v1, iv v2, iv v3, iv v4, iv (v5 + 1), iv (v6 + 1)] [] s))))))))))))))))) : G LY X 79 [rv 75, iv v1, iv v2, iv v3, iv v4, iv v5, iv v6] [] s := by
  refine G_iload C dX12_harmOf_79 rfl ?_
  refine G_aload_n C dX12_harmOf_81 rfl ?_
  refine gI_X12_4 C ly_75 rfl wf_X12_154 dX12_harmOf_82 ?_
  refine G_icmp_ge (tgt := 138) C dX12_harmOf_85 (by decide) ⟨h.1.1, h.1.2⟩ (fun q => ?_) (fun q => ?_)
  · have h := h.2.1 q
    refine G_iload_n C dX12_harmOf_138 rfl ?_
    refine G_iload C dX12_harmOf_139 rfl ?_
    refine G_aload_n C dX12_harmOf_141 rfl ?_
    refine gI_X12_4 C ly_75 rfl wf_X12_154 dX12_harmOf_142 ?_
    refine G_iload C dX12_harmOf_145 rfl ?_
    refine G_isub C dX12_harmOf_147 ?_
    refine G_imul C dX12_harmOf_148 ?_
    refine G_iadd C dX12_harmOf_149 ?_
    refine G_istore_n (L' := [rv 75, iv v1, iv (v2 + (v4 * ((s 75 4) - v5))), iv v3, iv v4, iv v5, iv v6]) C dX12_harmOf_150 (by decide) rfl ?_
    refine G_iinc (L' := [rv 75, iv v1, iv (v2 + (v4 * ((s 75 4) - v5))), iv (v3 + 1), iv v4, iv v5, iv v6]) C dX12_harmOf_151 (by decide) rfl rfl ?_
    refine G_goto (tgt := 42) C dX12_harmOf_154 (by decide) ?_
    refine G_drop (i := 4) (L' := [rv 75, iv v1, iv (v2 + (v4 * ((s 75 4) - v5))), iv (v3 + 1), none, iv v5, iv v6]) rfl ?_
    refine G_drop (i := 5) (L' := [rv 75, iv v1, iv (v2 + (v4 * ((s 75 4) - v5))), iv (v3 + 1), none, none, iv v6]) rfl ?_
    refine G_drop (i := 6) (L' := [rv 75, iv v1, iv (v2 + (v4 * ((s 75 4) - v5))), iv (v3 + 1), none, none, none]) rfl ?_
    exact h
  · have h := h.2.2 q
    refine G_aload_n C dX12_harmOf_88 rfl ?_
    refine gR_X12_64 C ly_75 rfl wf_X12_131 dX12_harmOf_89 ?_
    refine G_iload C dX12_harmOf_92 rfl ?_
    refine G_iald C ly_114 (by decide) h.1 dX12_harmOf_94 ?_
    have h := h.2
    refine G_aload_n C dX12_harmOf_95 rfl ?_
    refine gR_X12_64 C ly_75 rfl wf_X12_131 dX12_harmOf_96 ?_
    refine G_iload_n C dX12_harmOf_99 rfl ?_
    refine G_iald C ly_114 (by decide) h.1 dX12_harmOf_100 ?_
    have h := h.2
    refine G_icmp_lt (tgt := 126) C dX12_harmOf_101 (by decide) ⟨h.1.1, h.1.2⟩ (fun q => ?_) (fun q => ?_)
    · have h := h.2.1 q
      refine G_iload C dX12_harmOf_126 rfl ?_
      refine G_iconst C dX12_harmOf_128 ?_
      refine G_iadd C dX12_harmOf_129 ?_
      refine G_istore (L' := [rv 75, iv v1, iv v2, iv v3, iv v4, iv (v5 + 1), iv v6]) C dX12_harmOf_130 (by decide) rfl ?_
      refine G_iinc (L' := [rv 75, iv v1, iv v2, iv v3, iv v4, iv (v5 + 1), iv (v6 + 1)]) C dX12_harmOf_132 (by decide) rfl rfl ?_
      refine G_goto (tgt := 79) C dX12_harmOf_135 (by decide) ?_
      exact h
    · have h := h.2.2 q
      refine G_aload_n C dX12_harmOf_104 rfl ?_
      refine gR_X12_64 C ly_75 rfl wf_X12_131 dX12_harmOf_105 ?_
      refine G_iload C dX12_harmOf_108 rfl ?_
      refine G_iald C ly_114 (by decide) h.1 dX12_harmOf_110 ?_
      have h := h.2
      refine G_aload_n C dX12_harmOf_111 rfl ?_
      refine gR_X12_64 C ly_75 rfl wf_X12_131 dX12_harmOf_112 ?_
      refine G_iload_n C dX12_harmOf_115 rfl ?_
      refine G_iald C ly_114 (by decide) h.1 dX12_harmOf_116 ?_
      have h := h.2
      refine G_icmp_ne (tgt := 132) C dX12_harmOf_117 (by decide) ⟨h.1.1, h.1.2⟩ (fun q => ?_) (fun q => ?_)
      · have h := h.2.1 q
        refine G_iinc (L' := [rv 75, iv v1, iv v2, iv v3, iv v4, iv v5, iv (v6 + 1)]) C dX12_harmOf_132 (by decide) rfl rfl ?_
        refine G_goto (tgt := 79) C dX12_harmOf_135 (by decide) ?_
        exact h
      · have h := h.2.2 q
        refine G_iload C dX12_harmOf_120 rfl ?_
        refine G_iload_n C dX12_harmOf_122 rfl ?_
        refine G_icmp_ge (tgt := 132) C dX12_harmOf_123 (by decide) ⟨h.1.1, h.1.2⟩ (fun q => ?_) (fun q => ?_)
        · have h := h.2.1 q
          refine G_iinc (L' := [rv 75, iv v1, iv v2, iv v3, iv v4, iv v5, iv (v6 + 1)]) C dX12_harmOf_132 (by decide) rfl rfl ?_
          refine G_goto (tgt := 79) C dX12_harmOf_135 (by decide) ?_
          exact h
        · have h := h.2.2 q
          refine G_iload C dX12_harmOf_126 rfl ?_
          refine G_iconst C dX12_harmOf_128 ?_
          refine G_iadd C dX12_harmOf_129 ?_
          refine G_istore (L' := [rv 75, iv v1, iv v2, iv v3, iv v4, iv (v5 + 1), iv v6]) C dX12_harmOf_130 (by decide) rfl ?_
          refine G_iinc (L' := [rv 75, iv v1, iv v2, iv v3, iv v4, iv (v5 + 1), iv (v6 + 1)]) C dX12_harmOf_132 (by decide) rfl rfl ?_
          refine G_goto (tgt := 79) C dX12_harmOf_135 (by decide) ?_
          exact h
set_option maxRecDepth 20000 in
theorem kb_X12_isAlphabet_0 {X : Cx} {d : Nat} {P : Int → Sto → Prop} (C : Ok LY X RX12 cX12_isAlphabet 3 d) (r : RetZ LY X cX12_isAlphabet P) {v1 : Int} {s : Sto} (h : G LY X 2 [rv 75, iv v1, iv 0] [] s) : G LY X 0 [rv 75, iv v1, none] [] s := by
  refine G_iconst C dX12_isAlphabet_0 ?_
  refine G_istore_n (L' := [rv 75, iv v1, iv 0]) C dX12_isAlphabet_1 (by decide) rfl ?_
  exact h
set_option maxRecDepth 20000 in
theorem kb_X12_isAlphabet_2 {X : Cx} {d : Nat} {P : Int → Sto → Prop} (C : Ok LY X RX12 cX12_isAlphabet 3 d) (r : RetZ LY X cX12_isAlphabet P) {v1 v2 : Int} {s : Sto} (h : ((rg v2 ∧ rg (s 75 9)) ∧ (((s 75 9) ≤ v2 → P 1 s) ∧ (v2 < (s 75 9) → ((0 ≤ ((8 * v1) + v2) ∧ ((8 * v1) + v2) < 168) ∧ ((0 ≤ v2 ∧ v2 < 168) ∧ ((rg (s 81 ((8 * v1) + v2)) ∧ rg (s 81 v2)) ∧ (((s 81 ((8 * v1) + v2)) = (s 81 v2) → G LY X 2 [rv 75, iv v1, iv (v2 + 1)] [] s) ∧ ((s 81 ((8 * v1) + v2)) ≠ (s 81 v2) → P 0 s))))))))) : G LY X 2 [rv 75, iv v1, iv v2] [] s := by
  refine G_iload_n C dX12_isAlphabet_2 rfl ?_
  refine G_aload_n C dX12_isAlphabet_3 rfl ?_
  refine gI_X12_9 C ly_75 rfl wf_X12_25 dX12_isAlphabet_4 ?_
  refine G_icmp_ge (tgt := 38) C dX12_isAlphabet_7 (by decide) ⟨h.1.1, h.1.2⟩ (fun q => ?_) (fun q => ?_)
  · have h := h.2.1 q
    refine G_iconst C dX12_isAlphabet_38 ?_
    exact r _ _ _ _ dX12_isAlphabet_39 (by decide) h
  · have h := h.2.2 q
    refine G_aload_n C dX12_isAlphabet_10 rfl ?_
    refine gR_X12_10 C ly_75 rfl wf_X12_29 dX12_isAlphabet_11 ?_
    refine G_bipush C dX12_isAlphabet_14 bi_8 ?_
    refine G_iload_n C dX12_isAlphabet_16 rfl ?_
    refine G_imul C dX12_isAlphabet_17 ?_
    refine G_iload_n C dX12_isAlphabet_18 rfl ?_
    refine G_iadd C dX12_isAlphabet_19 ?_
    refine G_iald C ly_81 (by decide) h.1 dX12_isAlphabet_20 ?_
    have h := h.2
    refine G_aload_n C dX12_isAlphabet_21 rfl ?_
    refine gR_X12_10 C ly_75 rfl wf_X12_29 dX12_isAlphabet_22 ?_
    refine G_iload_n C dX12_isAlphabet_25 rfl ?_
    refine G_iald C ly_81 (by decide) h.1 dX12_isAlphabet_26 ?_
    have h := h.2
    refine G_icmp_eq (tgt := 32) C dX12_isAlphabet_27 (by decide) ⟨h.1.1, h.1.2⟩ (fun q => ?_) (fun q => ?_)
    · have h := h.2.1 q
      refine G_iinc (L' := [rv 75, iv v1, iv (v2 + 1)]) C dX12_isAlphabet_32 (by decide) rfl rfl ?_
      refine G_goto (tgt := 2) C dX12_isAlphabet_35 (by decide) ?_
      exact h
    · have h := h.2.2 q
      refine G_iconst C dX12_isAlphabet_30 ?_
      exact r _ _ _ _ dX12_isAlphabet_31 (by decide) h
set_option maxRecDepth 20000 in
theorem kb_X12_nextOrder_0 {X : Cx} {d : Nat} {P : Int → Sto → Prop} (C : Ok LY X RX12 cX12_nextOrder 7 d) (r : RetZ LY X cX12_nextOrder P) {s : Sto} (h : G LY X 11 [rv 75, iv 152, iv ((s 75 9) - 2), none, none, none, none] [] s) : G LY X 0 [rv 75, none, none, none, none, none, none] [] s := by
  refine G_sipush C dX12_nextOrder_0 si_152 ?_
  refine G_istore_n (L' := [rv 75, iv 152, none, none, none, none, none]) C dX12_nextOrder_3 (by decide) rfl ?_
  refine G_aload_n C dX12_nextOrder_4 rfl ?_
  refine gI_X12_9 C ly_75 rfl wf_X12_25 dX12_nextOrder_5 ?_
  refine G_iconst C dX12_nextOrder_8 ?_
  refine G_isub C dX12_nextOrder_9 ?_
  refine G_istore_n (L' := [rv 75, iv 152, iv ((s 75 9) - 2), none, none, none, none]) C dX12_nextOrder_10 (by decide) rfl ?_
  exact h
set_option maxRecDepth 20000 in
theorem kb_X12_nextOrder_11 {X : Cx} {d : Nat} {P : Int → Sto → Prop} (C : Ok LY X RX12 cX12_nextOrder 7 d) (r : RetZ LY X cX12_nextOrder P) {v1 v2 : Int} {s : Sto} (h : ((rg v2) ∧ ((v2 < 0 → ((rg v2) ∧ ((0 ≤ v2 → G LY X 56 [rv 75, iv v1, iv v2, iv ((s 75 9) - 1), none, none, none] [] s) ∧ (v2 < 0 → P 0 s)))) ∧ (0 ≤ v2 → ((0 ≤ (v1 + v2) ∧ (v1 + v2) < 168) ∧ ((0 ≤ ((v1 + v2) + 1) ∧ ((v1 + v2) + 1) < 168) ∧ ((rg (s 81 (v1 + v2)) ∧ rg (s 81 ((v1 + v2) + 1))) ∧ (((s 81 (v1 + v2)) ≤ (s 81 ((v1 + v2) + 1)) → ((rg v2) ∧ ((0 ≤ v2 → G LY X 56 [rv 75, iv v1, iv v2, iv ((s 75 9) - 1), none, none, none] [] s) ∧ (v2 < 0 → P 0 s)))) ∧ ((s 81 ((v1 + v2) + 1)) < (s 81 (v1 + v2)) → G LY X 11 [rv 75, iv v1, iv (v2 - 1), none, none, none, none] [] s))))))))) : G LY X 11 [rv 75, iv v1, iv v2, none, none, none, none] [] s := by
  refine G_iload_n C dX12_nextOrder_11 rfl ?_
  refine G_if_lt (tgt := 43) C dX12_nextOrder_12 (by decide) h.1 (fun q => ?_) (fun q => ?_)
  · have h := h.2.1 q
    refine G_iload_n C dX12_nextOrder_43 rfl ?_
    refine G_if_ge (tgt := 49) C dX12_nextOrder_44 (by decide) h.1 (fun q => ?_) (fun q => ?_)
    · have h := h.2.1 q
      refine G_aload_n C dX12_nextOrder_49 rfl ?_
      refine gI_X12_9 C ly_75 rfl wf_X12_25 dX12_nextOrder_50 ?_
      refine G_iconst C dX12_nextOrder_53 ?_
      refine G_isub C dX12_nextOrder_54 ?_
      refine G_istore_n (L' := [rv 75, iv v1, iv v2, iv ((s 75 9) - 1), none, none, none]) C dX12_nextOrder_55 (by decide) rfl ?_
      exact h
    · have h := h.2.2 q
      refine G_iconst C dX12_nextOrder_47 ?_
      exact r _ _ _ _ dX12_nextOrder_48 (by decide) h
  · have h := h.2.2 q
    refine G_aload_n C dX12_nextOrder_15 rfl ?_
    refine gR_X12_10 C ly_75 rfl wf_X12_29 dX12_nextOrder_16 ?_
    refine G_iload_n C dX12_nextOrder_19 rfl ?_
    refine G_iload_n C dX12_nextOrder_20 rfl ?_
    refine G_iadd C dX12_nextOrder_21 ?_
    refine G_iald C ly_81 (by decide) h.1 dX12_nextOrder_22 ?_
    have h := h.2
    refine G_aload_n C dX12_nextOrder_23 rfl ?_
    refine gR_X12_10 C ly_75 rfl wf_X12_29 dX12_nextOrder_24 ?_
    refine G_iload_n C dX12_nextOrder_27 rfl ?_
    refine G_iload_n C dX12_nextOrder_28 rfl ?_
    refine G_iadd C dX12_nextOrder_29 ?_
    refine G_iconst C dX12_nextOrder_30 ?_
    refine G_iadd C dX12_nextOrder_31 ?_
    refine G_iald C ly_81 (by decide) h.1 dX12_nextOrder_32 ?_
    have h := h.2
    refine G_icmp_le (tgt := 43) C dX12_nextOrder_33 (by decide) ⟨h.1.1, h.1.2⟩ (fun q => ?_) (fun q => ?_)
    · have h := h.2.1 q
      refine G_iload_n C dX12_nextOrder_43 rfl ?_
      refine G_if_ge (tgt := 49) C dX12_nextOrder_44 (by decide) h.1 (fun q => ?_) (fun q => ?_)
      · have h := h.2.1 q
        refine G_aload_n C dX12_nextOrder_49 rfl ?_
        refine gI_X12_9 C ly_75 rfl wf_X12_25 dX12_nextOrder_50 ?_
        refine G_iconst C dX12_nextOrder_53 ?_
        refine G_isub C dX12_nextOrder_54 ?_
        refine G_istore_n (L' := [rv 75, iv v1, iv v2, iv ((s 75 9) - 1), none, none, none]) C dX12_nextOrder_55 (by decide) rfl ?_
        exact h
      · have h := h.2.2 q
        refine G_iconst C dX12_nextOrder_47 ?_
        exact r _ _ _ _ dX12_nextOrder_48 (by decide) h
    · have h := h.2.2 q
      refine G_iload_n C dX12_nextOrder_36 rfl ?_
      refine G_iconst C dX12_nextOrder_37 ?_
      refine G_isub C dX12_nextOrder_38 ?_
      refine G_istore_n (L' := [rv 75, iv v1, iv (v2 - 1), none, none, none, none]) C dX12_nextOrder_39 (by decide) rfl ?_
      refine G_goto (tgt := 11) C dX12_nextOrder_40 (by decide) ?_
      exact h
set_option maxRecDepth 20000 in
theorem kb_X12_nextOrder_56 {X : Cx} {d : Nat} {P : Int → Sto → Prop} (C : Ok LY X RX12 cX12_nextOrder 7 d) (r : RetZ LY X cX12_nextOrder P) {v1 v2 v3 : Int} {s : Sto} (h : ((0 ≤ (v1 + v3) ∧ (v1 + v3) < 168) ∧ ((0 ≤ (v1 + v2) ∧ (v1 + v2) < 168) ∧ ((rg (s 81 (v1 + v3)) ∧ rg (s 81 (v1 + v2))) ∧ (((s 81 (v1 + v2)) ≤ (s 81 (v1 + v3)) → ((0 ≤ (v1 + v2) ∧ (v1 + v2) < 168) ∧ ((0 ≤ (v1 + v3) ∧ (v1 + v3) < 168) ∧ ((0 ≤ (v1 + v2) ∧ (v1 + v2) < 168) ∧ (∀ s1 : Sto, s1 = up s 81 (v1 + v2) (s 81 (v1 + v3)) → ((0 ≤ (v1 + v3) ∧ (v1 + v3) < 168) ∧ (∀ s2 : Sto, s2 = up s1 81 (v1 + v3) (s 81 (v1 + v2)) → G LY X 131 [rv 75, iv v1, iv v2, iv v3, iv (s 81 (v1 + v2)), iv (v2 + 1), iv ((s2 75 9) - 1)] [] s2))))))) ∧ ((s 81 (v1 + v3)) < (s 81 (v1 + v2)) → G LY X 56 [rv 75, iv v1, iv v2, iv (v3 - 1), none, none, none] [] s)))))) : G LY X 56 [rv 75, iv v1, iv v2, iv v3, none, none, none] [] s := by
  refine G_aload_n C dX12_nextOrder_56 rfl ?_
  refine gR_X12_10 C ly_75 rfl wf_X12_29 dX12_nextOrder_57 ?_
  refine G_iload_n C dX12_nextOrder_60 rfl ?_
  refine G_iload_n C dX12_nextOrder_61 rfl ?_
  refine G_iadd C dX12_nextOrder_62 ?_
  refine G_iald C ly_81 (by decide) h.1 dX12_nextOrder_63 ?_
  have h := h.2
  refine G_aload_n C dX12_nextOrder_64 rfl ?_
  refine gR_X12_10 C ly_75 rfl wf_X12_29 dX12_nextOrder_65 ?_
  refine G_iload_n C dX12_nextOrder_68 rfl ?_
  refine G_iload_n C dX12_nextOrder_69 rfl ?_
  refine G_iadd C dX12_nextOrder_70 ?_
  refine G_iald C ly_81 (by decide) h.1 dX12_nextOrder_71 ?_
  have h := h.2
  refine G_icmp_ge (tgt := 82) C dX12_nextOrder_72 (by decide) ⟨h.1.1, h.1.2⟩ (fun q => ?_) (fun q => ?_)
  · have h := h.2.1 q
    refine G_aload_n C dX12_nextOrder_82 rfl ?_
    refine gR_X12_10 C ly_75 rfl wf_X12_29 dX12_nextOrder_83 ?_
    refine G_iload_n C dX12_nextOrder_86 rfl ?_
    refine G_iload_n C dX12_nextOrder_87 rfl ?_
    refine G_iadd C dX12_nextOrder_88 ?_
    refine G_iald C ly_81 (by decide) h.1 dX12_nextOrder_89 ?_
    have h := h.2
    refine G_istore (L' := [rv 75, iv v1, iv v2, iv v3, iv (s 81 (v1 + v2)), none, none]) C dX12_nextOrder_90 (by decide) rfl ?_
    refine G_aload_n C dX12_nextOrder_92 rfl ?_
    refine gR_X12_10 C ly_75 rfl wf_X12_29 dX12_nextOrder_93 ?_
    refine G_iload_n C dX12_nextOrder_96 rfl ?_
    refine G_iload_n C dX12_nextOrder_97 rfl ?_
    refine G_iadd C dX12_nextOrder_98 ?_
    refine G_aload_n C dX12_nextOrder_99 rfl ?_
    refine gR_X12_10 C ly_75 rfl wf_X12_29 dX12_nextOrder_100 ?_
    refine G_iload_n C dX12_nextOrder_103 rfl ?_
    refine G_iload_n C dX12_nextOrder_104 rfl ?_
    refine G_iadd C dX12_nextOrder_105 ?_
    refine G_iald C ly_81 (by decide) h.1 dX12_nextOrder_106 ?_
    have h := h.2
    refine G_iast C ly_81 (by decide) h.1 dX12_nextOrder_107 ?_
    have h := h.2
    have h := h _ rfl
    obtain ⟨s1, e1⟩ : ∃ z, z = up s 81 (v1 + v2) (s 81 (v1 + v3)) := ⟨_, rfl⟩
    rw [← e1] at h ⊢
    refine G_aload_n C dX12_nextOrder_108 rfl ?_
    refine gR_X12_10 C ly_75 rfl wf_X12_29 dX12_nextOrder_109 ?_
    refine G_iload_n C dX12_nextOrder_112 rfl ?_
    refine G_iload_n C dX12_nextOrder_113 rfl ?_
    refine G_iadd C dX12_nextOrder_114 ?_
    refine G_iload C dX12_nextOrder_115 rfl ?_
    refine G_iast C ly_81 (by decide) h.1 dX12_nextOrder_117 ?_
    have h := h.2
    have h := h _ rfl
    obtain ⟨s2, e2⟩ : ∃ z, z = up s1 81 (v1 + v3) (s 81 (v1 + v2)) := ⟨_, rfl⟩
    rw [← e2] at h ⊢
    refine G_iload_n C dX12_nextOrder_118 rfl ?_
    refine G_iconst C dX12_nextOrder_119 ?_
    refine G_iadd C dX12_nextOrder_120 ?_
    refine G_istore (L' := [rv 75, iv v1, iv v2, iv v3, iv (s 81 (v1 + v2)), iv (v2 + 1), none]) C dX12_nextOrder_121 (by decide) rfl ?_
    refine G_aload_n C dX12_nextOrder_123 rfl ?_
    refine gI_X12_9 C ly_75 rfl wf_X12_25 dX12_nextOrder_124 ?_
    refine G_iconst C dX12_nextOrder_127 ?_
    refine G_isub C dX12_nextOrder_128 ?_
    refine G_istore (L' := [rv 75, iv v1, iv v2, iv v3, iv (s 81 (v1 + v2)), iv (v2 + 1), iv ((s2 75 9) - 1)]) C dX12_nextOrder_129 (by decide) rfl ?_
    exact h
  · have h := h.2.2 q
    refine G_iload_n C dX12_nextOrder_75 rfl ?_
    refine G_iconst C dX12_nextOrder_76 ?_
    refine G_isub C dX12_nextOrder_77 ?_
    refine G_istore_n (L' := [rv 75, iv v1, iv v2, iv (v3 - 1), none, none, none]) C dX12_nextOrder_78 (by decide) rfl ?_
    refine G_goto (tgt := 56) C dX12_nextOrder_79 (by decide) ?_
    exact h
set_option maxRecDepth 20000 in
theorem kb_X12_nextOrder_131 {X : Cx} {d : Nat} {P : Int → Sto → Prop} (C : Ok LY X RX12 cX12_nextOrder 7 d) (r : RetZ LY X cX12_nextOrder P) {v1 v2 v3 v4 v5 v6 : Int} {s : Sto} (h : ((rg v5 ∧ rg v6) ∧ ((v6 ≤ v5 → P 1 s) ∧ (v5 < v6 → ((0 ≤ (v1 + v5) ∧ (v1 + v5) < 168) ∧ ((0 ≤ (v1 + v6) ∧ (v1 + v6) < 168) ∧ ((0 ≤ (v1 + v5) ∧ (v1 + v5) < 168) ∧ (∀ s1 : Sto, s1 = up s 81 (v1 + v5) (s 81 (v1 + v6)) → ((0 ≤ (v1 + v6) ∧ (v1 + v6) < 168) ∧ (∀ s2 : Sto, s2 = up s1 81 (v1 + v6) (s 81 (v1 + v5)) → G LY X 131 [rv 75, iv v1, iv v2, iv v3, iv (s 81 (v1 + v5)), iv (v5 + 1), iv (v6 - 1)] [] s2)))))))))) : G LY X 131 [rv 75, iv v1, iv v2, iv v3, iv v4, iv v5, iv v6] [] s := by
  refine G_iload C dX12_nextOrder_131 rfl ?_
  refine G_iload C dX12_nextOrder_133 rfl ?_
  refine G_icmp_ge (tgt := 193) C dX12_nextOrder_135 (by decide) ⟨h.1.1, h.1.2⟩ (fun q => ?_) (fun q => ?_)
  · have h := h.2.1 q
    refine G_iconst C dX12_nextOrder_193 ?_
    exact r _ _ _ _ dX12_nextOrder_194 (by decide) h
  · have h := h.2.2 q
    refine G_aload_n C dX12_nextOrder_138 rfl ?_
    refine gR_X12_10 C ly_75 rfl wf_X12_29 dX12_nextOrder_139 ?_
    refine G_iload_n C dX12_nextOrder_142 rfl ?_
    refine G_iload C dX12_nextOrder_143 rfl ?_
    refine G_iadd C dX12_nextOrder_145 ?_
    refine G_iald C ly_81 (by decide) h.1 dX12_nextOrder_146 ?_
    have h := h.2
    refine G_istore (L' := [rv 75, iv v1, iv v2, iv v3, iv (s 81 (v1 + v5)), iv v5, iv v6]) C dX12_nextOrder_147 (by decide) rfl ?_
    refine G_aload_n C dX12_nextOrder_149 rfl ?_
    refine gR_X12_10 C ly_75 rfl wf_X12_29 dX12_nextOrder_150 ?_
    refine G_iload_n C dX12_nextOrder_153 rfl ?_
    refine G_iload C dX12_nextOrder_154 rfl ?_
    refine G_iadd C dX12_nextOrder_156 ?_
    refine G_aload_n C dX12_nextOrder_157 rfl ?_
    refine gR_X12_10 C ly_75 rfl wf_X12_29 dX12_nextOrder_158 ?_
    refine G_iload_n C dX12_nextOrder_161 rfl ?_
    refine G_iload C dX12_nextOrder_162 rfl ?_
    refine G_iadd C dX12_nextOrder_164 ?_
    refine G_iald C ly_81 (by decide) h.1 dX12_nextOrder_165 ?_
    have h := h.2
    refine G_iast C ly_81 (by decide) h.1 dX12_nextOrder_166 ?_
    have h := h.2
    have h := h _ rfl
    obtain ⟨s1, e1⟩ : ∃ z, z = up s 81 (v1 + v5) (s 81 (v1 + v6)) := ⟨_, rfl⟩
    rw [← e1] at h ⊢
    refine G_aload_n C dX12_nextOrder_167 rfl ?_
    refine gR_X12_10 C ly_75 rfl wf_X12_29 dX12_nextOrder_168 ?_
    refine G_iload_n C dX12_nextOrder_171 rfl ?_
    refine G_iload C dX12_nextOrder_172 rfl ?_
    refine G_iadd C dX12_nextOrder_174 ?_
    refine G_iload C dX12_nextOrder_175 rfl ?_
    refine G_iast C ly_81 (by decide) h.1 dX12_nextOrder_177 ?_
    have h := h.2
    have h := h _ rfl
    obtain ⟨s2, e2⟩ : ∃ z, z = up s1 81 (v1 + v6) (s 81 (v1 + v5)) := ⟨_, rfl⟩
    rw [← e2] at h ⊢
    refine G_iload C dX12_nextOrder_178 rfl ?_
    refine G_iconst C dX12_nextOrder_180 ?_
    refine G_iadd C dX12_nextOrder_181 ?_
    refine G_istore (L' := [rv 75, iv v1, iv v2, iv v3, iv (s 81 (v1 + v5)), iv (v5 + 1), iv v6]) C dX12_nextOrder_182 (by decide) rfl ?_
    refine G_iload C dX12_nextOrder_184 rfl ?_
    refine G_iconst C dX12_nextOrder_186 ?_
    refine G_isub C dX12_nextOrder_187 ?_
    refine G_istore (L' := [rv 75, iv v1, iv v2, iv v3, iv (s 81 (v1 + v5)), iv (v5 + 1), iv (v6 - 1)]) C dX12_nextOrder_188 (by decide) rfl ?_
    refine G_goto (tgt := 131) C dX12_nextOrder_190 (by decide) ?_
    exact h
set_option maxRecDepth 20000 in
theorem kb_X12_yearGoes_0 {X : Cx} {d : Nat} {P : Sto → Prop} (C : Ok LY X RX12 cX12_yearGoes 2 d) (r : RetV LY X cX12_yearGoes P) {s : Sto} (h : (CallV LY d MX12_findsWorths [.inr 75, .inl 0] s (fun s1 => G LY X 7 [rv 75, iv 0] [] s1))) : G LY X 0 [rv 75, none] [] s := by
  refine G_aload_n C dX12_yearGoes_0 rfl ?_
  refine G_iconst C dX12_yearGoes_1 ?_
  refine G_callVV (K := []) (args := [.inl 0]) (T := TX12) (N := 72) C ly_75 rfl (Nat.le_of_ble_eq_true rfl) mo_X12_findsWorths wc_X12_324 rfl dX12_yearGoes_2 h (fun s1 h => ?_)
  refine G_iconst C dX12_yearGoes_5 ?_
  refine G_istore_n (L' := [rv 75, iv 0]) C dX12_yearGoes_6 (by decide) rfl ?_
  exact h
set_option maxRecDepth 20000 in
theorem kb_X12_yearGoes_7 {X : Cx} {d : Nat} {P : Sto → Prop} (C : Ok LY X RX12 cX12_yearGoes 2 d) (r : RetV LY X cX12_yearGoes P) {v1 : Int} {s : Sto} (h : ((rg v1 ∧ rg (s 75 4)) ∧ (((s 75 4) ≤ v1 → G LY X 56 [rv 75, iv 0] [] s) ∧ (v1 < (s 75 4) → ((0 ≤ v1 ∧ v1 < 20) ∧ ((0 ≤ v1 ∧ v1 < 20) ∧ ((0 ≤ v1 ∧ v1 < 20) ∧ (∀ s1 : Sto, s1 = up s 80 v1 ((s 80 v1) + (s 103 v1)) → ((0 ≤ v1 ∧ v1 < 20) ∧ ((0 ≤ v1 ∧ v1 < 20) ∧ (∀ s2 : Sto, s2 = up s1 79 v1 ((s1 79 v1) + 1) → G LY X 7 [rv 75, iv (v1 + 1)] [] s2))))))))))) : G LY X 7 [rv 75, iv v1] [] s := by
  refine G_iload_n C dX12_yearGoes_7 rfl ?_
  refine G_aload_n C dX12_yearGoes_8 rfl ?_
  refine gI_X12_4 C ly_75 rfl wf_X12_154 dX12_yearGoes_9 ?_
  refine G_icmp_ge (tgt := 54) C dX12_yearGoes_12 (by decide) ⟨h.1.1, h.1.2⟩ (fun q => ?_) (fun q => ?_)
  · have h := h.2.1 q
    refine G_iconst C dX12_yearGoes_54 ?_
    refine G_istore_n (L' := [rv 75, iv 0]) C dX12_yearGoes_55 (by decide) rfl ?_
    exact h
  · have h := h.2.2 q
    refine G_aload_n C dX12_yearGoes_15 rfl ?_
    refine gR_X12_7 C ly_75 rfl wf_X12_22 dX12_yearGoes_16 ?_
    refine G_iload_n C dX12_yearGoes_19 rfl ?_
    refine G_aload_n C dX12_yearGoes_20 rfl ?_
    refine gR_X12_7 C ly_75 rfl wf_X12_22 dX12_yearGoes_21 ?_
    refine G_iload_n C dX12_yearGoes_24 rfl ?_
    refine G_iald C ly_80 (by decide) h.1 dX12_yearGoes_25 ?_
    have h := h.2
    refine G_aload_n C dX12_yearGoes_26 rfl ?_
    refine gR_X12_48 C ly_75 rfl wf_X12_98 dX12_yearGoes_27 ?_
    refine G_iload_n C dX12_yearGoes_30 rfl ?_
    refine G_iald C ly_103 (by decide) h.1 dX12_yearGoes_31 ?_
    have h := h.2
    refine G_iadd C dX12_yearGoes_32 ?_
    refine G_iast C ly_80 (by decide) h.1 dX12_yearGoes_33 ?_
    have h := h.2
    have h := h _ rfl
    obtain ⟨s1, e1⟩ : ∃ z, z = up s 80 v1 ((s 80 v1) + (s 103 v1)) := ⟨_, rfl⟩
    rw [← e1] at h ⊢
    refine G_aload_n C dX12_yearGoes_34 rfl ?_
    refine gR_X12_6 C ly_75 rfl wf_X12_19 dX12_yearGoes_35 ?_
    refine G_iload_n C dX12_yearGoes_38 rfl ?_
    refine G_aload_n C dX12_yearGoes_39 rfl ?_
    refine gR_X12_6 C ly_75 rfl wf_X12_19 dX12_yearGoes_40 ?_
    refine G_iload_n C dX12_yearGoes_43 rfl ?_
    refine G_iald C ly_79 (by decide) h.1 dX12_yearGoes_44 ?_
    have h := h.2
    refine G_iconst C dX12_yearGoes_45 ?_
    refine G_iadd C dX12_yearGoes_46 ?_
    refine G_iast C ly_79 (by decide) h.1 dX12_yearGoes_47 ?_
    have h := h.2
    have h := h _ rfl
    obtain ⟨s2, e2⟩ : ∃ z, z = up s1 79 v1 ((s1 79 v1) + 1) := ⟨_, rfl⟩
    rw [← e2] at h ⊢
    refine G_iinc (L' := [rv 75, iv (v1 + 1)]) C dX12_yearGoes_48 (by decide) rfl rfl ?_
    refine G_goto (tgt := 7) C dX12_yearGoes_51 (by decide) ?_
    exact h
set_option maxRecDepth 20000 in
theorem kb_X12_yearGoes_56 {X : Cx} {d : Nat} {P : Sto → Prop} (C : Ok LY X RX12 cX12_yearGoes 2 d) (r : RetV LY X cX12_yearGoes P) {v1 : Int} {s : Sto} (h : ((rg v1 ∧ rg (s 75 4)) ∧ (((s 75 4) ≤ v1 → (∀ s1 : Sto, s1 = up s 75 21 ((s 75 21) + 1) → (((xrem (s1 75 21) 10) ≤ 0 → (∀ s2 : Sto, s2 = up s1 75 58 0 → (CallV LY d MX12_findsVote [.inr 75, .inl (s2 82 6)] s2 (fun s3 => (CallV LY d MX12_movesOrder [.inr 75, .inl 20, .inl 0] s3 (fun s4 => P s4)))))) ∧ (0 < (xrem (s1 75 21) 10) → P s1)))) ∧ (v1 < (s 75 4) → ((0 ≤ v1 ∧ v1 < 20) ∧ ((rg (s 79 v1)) ∧ ((99 < (s 79 v1) → ((0 ≤ v1 ∧ v1 < 20) ∧ (∀ s5 : Sto, s5 = up s 79 v1 0 → ((rg (s5 75 8)) ∧ (((s5 75 8) ≤ 0 → G LY X 56 [rv 75, iv (v1 + 1)] [] s5) ∧ (0 < (s5 75 8) → (CallI LY d MX12_draw [.inr 75, .inl (s5 75 8)] s5 (fun r6 s6 => (CallV LY d MX12_movesName [.inr 75, .inl (20 + r6), .inl v1] s6 (fun s7 => G LY X 56 [rv 75, iv (v1 + 1)] [] s7)))))))))) ∧ ((s 79 v1) ≤ 99 → G LY X 56 [rv 75, iv (v1 + 1)] [] s)))))))) : G LY X 56 [rv 75, iv v1] [] s := by
  refine G_iload_n C dX12_yearGoes_56 rfl ?_
  refine G_aload_n C dX12_yearGoes_57 rfl ?_
  refine gI_X12_4 C ly_75 rfl wf_X12_154 dX12_yearGoes_58 ?_
  refine G_icmp_ge (tgt := 114) C dX12_yearGoes_61 (by decide) ⟨h.1.1, h.1.2⟩ (fun q => ?_) (fun q => ?_)
  · have h := h.2.1 q
    refine G_aload_n C dX12_yearGoes_114 rfl ?_
    refine G_aload_n C dX12_yearGoes_115 rfl ?_
    refine gI_X12_21 C ly_75 rfl wf_X12_177 dX12_yearGoes_116 ?_
    refine G_iconst C dX12_yearGoes_119 ?_
    refine G_iadd C dX12_yearGoes_120 ?_
    refine gP_X12_21 C ly_75 rfl wf_X12_177 dX12_yearGoes_121 ?_
    have h := h _ rfl
    obtain ⟨s1, e1⟩ : ∃ z, z = up s 75 21 ((s 75 21) + 1) := ⟨_, rfl⟩
    rw [← e1] at h ⊢
    refine G_aload_n C dX12_yearGoes_124 rfl ?_
    refine gI_X12_21 C ly_75 rfl wf_X12_177 dX12_yearGoes_125 ?_
    refine G_bipush C dX12_yearGoes_128 bi_10 ?_
    refine G_irem C dX12_yearGoes_130 (by decide) ?_
    refine G_if_le (tgt := 135) C dX12_yearGoes_131 (by decide) (oI_rg _) (fun q => ?_) (fun q => ?_)
    · have h := h.1 q
      refine G_aload_n C dX12_yearGoes_135 rfl ?_
      refine G_iconst C dX12_yearGoes_136 ?_
      refine gP_X12_58 C ly_75 rfl wf_X12_382 dX12_yearGoes_137 ?_
      have h := h _ rfl
      obtain ⟨s2, e2⟩ : ∃ z, z = up s1 75 58 0 := ⟨_, rfl⟩
      rw [← e2] at h ⊢
      refine G_aload_n C dX12_yearGoes_140 rfl ?_
      refine G_aload_n C dX12_yearGoes_141 rfl ?_
      refine gR_X12_11 C ly_75 rfl wf_X12_32 dX12_yearGoes_142 ?_
      refine G_bipush C dX12_yearGoes_145 bi_6 ?_
      refine G_iald C ly_82 (by decide) (by decide) dX12_yearGoes_147 ?_
      refine G_callVV (K := []) (args := [.inl (s2 82 6)]) (T := TX12) (N := 72) C ly_75 rfl (Nat.le_of_ble_eq_true rfl) mo_X12_findsVote wc_X12_409 rfl dX12_yearGoes_148 h (fun s3 h => ?_)
      refine G_aload_n C dX12_yearGoes_151 rfl ?_
      refine G_bipush C dX12_yearGoes_152 bi_20 ?_
      refine G_iconst C dX12_yearGoes_154 ?_
      refine G_callVV (K := []) (args := [.inl 20, .inl 0]) (T := TX12) (N := 72) C ly_75 rfl (Nat.le_of_ble_eq_true rfl) mo_X12_movesOrder wc_X12_198 rfl dX12_yearGoes_155 h (fun s4 h => ?_)
      exact r _ _ _ dX12_yearGoes_158 h
    · have h := h.2 q
      exact r _ _ _ dX12_yearGoes_134 h
  · have h := h.2.2 q
    refine G_aload_n C dX12_yearGoes_64 rfl ?_
    refine gR_X12_6 C ly_75 rfl wf_X12_19 dX12_yearGoes_65 ?_
    refine G_iload_n C dX12_yearGoes_68 rfl ?_
    refine G_iald C ly_79 (by decide) h.1 dX12_yearGoes_69 ?_
    have h := h.2
    refine G_bipush C dX12_yearGoes_70 bi_99 ?_
    refine G_icmp_gt (tgt := 78) C dX12_yearGoes_72 (by decide) ⟨h.1, (by decide)⟩ (fun q => ?_) (fun q => ?_)
    · have h := h.2.1 q
      refine G_aload_n C dX12_yearGoes_78 rfl ?_
      refine gR_X12_6 C ly_75 rfl wf_X12_19 dX12_yearGoes_79 ?_
      refine G_iload_n C dX12_yearGoes_82 rfl ?_
      refine G_iconst C dX12_yearGoes_83 ?_
      refine G_iast C ly_79 (by decide) h.1 dX12_yearGoes_84 ?_
      have h := h.2
      have h := h _ rfl
      obtain ⟨s5, e5⟩ : ∃ z, z = up s 79 v1 0 := ⟨_, rfl⟩
      rw [← e5] at h ⊢
      refine G_aload_n C dX12_yearGoes_85 rfl ?_
      refine gI_X12_8 C ly_75 rfl wf_X12_171 dX12_yearGoes_86 ?_
      refine G_if_le (tgt := 108) C dX12_yearGoes_89 (by decide) h.1 (fun q => ?_) (fun q => ?_)
      · have h := h.2.1 q
        refine G_iinc (L' := [rv 75, iv (v1 + 1)]) C dX12_yearGoes_108 (by decide) rfl rfl ?_
        refine G_goto (tgt := 56) C dX12_yearGoes_111 (by decide) ?_
        exact h
      · have h := h.2.2 q
        refine G_aload_n C dX12_yearGoes_92 rfl ?_
        refine G_bipush C dX12_yearGoes_93 bi_20 ?_
        refine G_aload_n C dX12_yearGoes_95 rfl ?_
        refine G_aload_n C dX12_yearGoes_96 rfl ?_
        refine gI_X12_8 C ly_75 rfl wf_X12_171 dX12_yearGoes_97 ?_
        refine G_callVI (K := [.inl 20, .inr 75]) (args := [.inl (s5 75 8)]) (T := TX12) (N := 72) C ly_75 rfl (Nat.le_of_ble_eq_true rfl) mo_X12_draw wc_X12_427 rfl dX12_yearGoes_100 h (fun r6 s6 h => ?_)
        refine G_iadd C dX12_yearGoes_103 ?_
        refine G_iload_n C dX12_yearGoes_104 rfl ?_
        refine G_callVV (K := []) (args := [.inl (20 + r6), .inl v1]) (T := TX12) (N := 72) C ly_75 rfl (Nat.le_of_ble_eq_true rfl) mo_X12_movesName wc_X12_187 rfl dX12_yearGoes_105 h (fun s7 h => ?_)
        refine G_iinc (L' := [rv 75, iv (v1 + 1)]) C dX12_yearGoes_108 (by decide) rfl rfl ?_
        refine G_goto (tgt := 56) C dX12_yearGoes_111 (by decide) ?_
        exact h
    · have h := h.2.2 q
      refine G_goto (tgt := 108) C dX12_yearGoes_75 (by decide) ?_
      refine G_iinc (L' := [rv 75, iv (v1 + 1)]) C dX12_yearGoes_108 (by decide) rfl rfl ?_
      refine G_goto (tgt := 56) C dX12_yearGoes_111 (by decide) ?_
      exact h
set_option maxRecDepth 20000 in
theorem kb_X12_kept_0 {X : Cx} {d : Nat} {P : Int → Sto → Prop} (C : Ok LY X RX12 cX12_kept 2 d) (r : RetI LY X cX12_kept P) {v1 : Int} {s : Sto} (h : (∀ s1 : Sto, s1 = up s 75 70 ((s 75 70) + 1) → ((rg (s1 75 68)) ∧ (((s1 75 68) ≠ 0 → ((0 ≤ ((s1 75 70) - 1) ∧ ((s1 75 70) - 1) < 1700) ∧ (∀ s2 : Sto, s2 = up s1 118 ((s1 75 70) - 1) v1 → P v1 s2))) ∧ ((s1 75 68) = 0 → ((0 ≤ ((s1 75 70) - 1) ∧ ((s1 75 70) - 1) < 1700) ∧ P (s1 118 ((s1 75 70) - 1)) s1)))))) : G LY X 0 [rv 75, iv v1] [] s := by
  refine G_aload_n C dX12_kept_0 rfl ?_
  refine G_aload_n C dX12_kept_1 rfl ?_
  refine gI_X12_70 C ly_75 rfl wf_X12_433 dX12_kept_2 ?_
  refine G_iconst C dX12_kept_5 ?_
  refine G_iadd C dX12_kept_6 ?_
  refine gP_X12_70 C ly_75 rfl wf_X12_433 dX12_kept_7 ?_
  have h := h _ rfl
  obtain ⟨s1, e1⟩ : ∃ z, z = up s 75 70 ((s 75 70) + 1) := ⟨_, rfl⟩
  rw [← e1] at h ⊢
  refine G_aload_n C dX12_kept_10 rfl ?_
  refine gI_X12_68 C ly_75 rfl wf_X12_436 dX12_kept_11 ?_
  refine G_if_ne (tgt := 29) C dX12_kept_14 (by decide) h.1 (fun q => ?_) (fun q => ?_)
  · have h := h.2.1 q
    refine G_aload_n C dX12_kept_29 rfl ?_
    refine gR_X12_71 C ly_75 rfl wf_X12_143 dX12_kept_30 ?_
    refine G_aload_n C dX12_kept_33 rfl ?_
    refine gI_X12_70 C ly_75 rfl wf_X12_433 dX12_kept_34 ?_
    refine G_iconst C dX12_kept_37 ?_
    refine G_isub C dX12_kept_38 ?_
    refine G_iload_n C dX12_kept_39 rfl ?_
    refine G_iast C ly_118 (by decide) h.1 dX12_kept_40 ?_
    have h := h.2
    have h := h _ rfl
    obtain ⟨s2, e2⟩ : ∃ z, z = up s1 118 ((s1 75 70) - 1) v1 := ⟨_, rfl⟩
    rw [← e2] at h ⊢
    refine G_iload_n C dX12_kept_41 rfl ?_
    exact r _ _ _ _ dX12_kept_42 h
  · have h := h.2.2 q
    refine G_aload_n C dX12_kept_17 rfl ?_
    refine gR_X12_71 C ly_75 rfl wf_X12_143 dX12_kept_18 ?_
    refine G_aload_n C dX12_kept_21 rfl ?_
    refine gI_X12_70 C ly_75 rfl wf_X12_433 dX12_kept_22 ?_
    refine G_iconst C dX12_kept_25 ?_
    refine G_isub C dX12_kept_26 ?_
    refine G_iald C ly_118 (by decide) h.1 dX12_kept_27 ?_
    have h := h.2
    exact r _ _ _ _ dX12_kept_28 h
set_option maxRecDepth 20000 in
theorem kb_X12_keepsPeople_0 {X : Cx} {d : Nat} {P : Sto → Prop} (C : Ok LY X RX12 cX12_keepsPeople 2 d) (r : RetV LY X cX12_keepsPeople P) {s : Sto} (h : (CallI LY d MX12_kept [.inr 75, .inl (s 75 4)] s (fun r1 s1 => (∀ s2 : Sto, s2 = up s1 75 4 r1 → G LY X 14 [rv 75, iv 0] [] s2)))) : G LY X 0 [rv 75, none] [] s := by
  refine G_aload_n C dX12_keepsPeople_0 rfl ?_
  refine G_aload_n C dX12_keepsPeople_1 rfl ?_
  refine G_aload_n C dX12_keepsPeople_2 rfl ?_
  refine gI_X12_4 C ly_75 rfl wf_X12_154 dX12_keepsPeople_3 ?_
  refine G_callVI (K := [.inr 75]) (args := [.inl (s 75 4)]) (T := TX12) (N := 72) C ly_75 rfl (Nat.le_of_ble_eq_true rfl) mo_X12_kept wc_X12_439 rfl dX12_keepsPeople_6 h (fun r1 s1 h => ?_)
  refine gP_X12_4 C ly_75 rfl wf_X12_154 dX12_keepsPeople_9 ?_
  have h := h _ rfl
  obtain ⟨s2, e2⟩ : ∃ z, z = up s1 75 4 r1 := ⟨_, rfl⟩
  rw [← e2] at h ⊢
  refine G_iconst C dX12_keepsPeople_12 ?_
  refine G_istore_n (L' := [rv 75, iv 0]) C dX12_keepsPeople_13 (by decide) rfl ?_
  exact h
set_option maxRecDepth 20000 in
theorem kb_X12_keepsPeople_14 {X : Cx} {d : Nat} {P : Sto → Prop} (C : Ok LY X RX12 cX12_keepsPeople 2 d) (r : RetV LY X cX12_keepsPeople P) {v1 : Int} {s : Sto} (h : ((rg v1) ∧ ((20 ≤ v1 → (CallI LY d MX12_kept [.inr 75, .inl (s 75 8)] s (fun r1 s1 => (∀ s2 : Sto, s2 = up s1 75 8 r1 → G LY X 88 [rv 75, iv 0] [] s2)))) ∧ (v1 < 20 → ((0 ≤ v1 ∧ v1 < 20) ∧ (CallI LY d MX12_kept [.inr 75, .inl (s 78 v1)] s (fun r3 s3 => ((0 ≤ v1 ∧ v1 < 20) ∧ (∀ s4 : Sto, s4 = up s3 78 v1 r3 → ((0 ≤ v1 ∧ v1 < 20) ∧ (CallI LY d MX12_kept [.inr 75, .inl (s4 79 v1)] s4 (fun r5 s5 => ((0 ≤ v1 ∧ v1 < 20) ∧ (∀ s6 : Sto, s6 = up s5 79 v1 r5 → ((0 ≤ v1 ∧ v1 < 20) ∧ (CallI LY d MX12_kept [.inr 75, .inl (s6 80 v1)] s6 (fun r7 s7 => ((0 ≤ v1 ∧ v1 < 20) ∧ (∀ s8 : Sto, s8 = up s7 80 v1 r7 → G LY X 14 [rv 75, iv (v1 + 1)] [] s8))))))))))))))))))) : G LY X 14 [rv 75, iv v1] [] s := by
  refine G_iload_n C dX12_keepsPeople_14 rfl ?_
  refine G_bipush C dX12_keepsPeople_15 bi_20 ?_
  refine G_icmp_ge (tgt := 74) C dX12_keepsPeople_17 (by decide) ⟨h.1, (by decide)⟩ (fun q => ?_) (fun q => ?_)
  · have h := h.2.1 q
    refine G_aload_n C dX12_keepsPeople_74 rfl ?_
    refine G_aload_n C dX12_keepsPeople_75 rfl ?_
    refine G_aload_n C dX12_keepsPeople_76 rfl ?_
    refine gI_X12_8 C ly_75 rfl wf_X12_171 dX12_keepsPeople_77 ?_
    refine G_callVI (K := [.inr 75]) (args := [.inl (s 75 8)]) (T := TX12) (N := 72) C ly_75 rfl (Nat.le_of_ble_eq_true rfl) mo_X12_kept wc_X12_439 rfl dX12_keepsPeople_80 h (fun r1 s1 h => ?_)
    refine gP_X12_8 C ly_75 rfl wf_X12_171 dX12_keepsPeople_83 ?_
    have h := h _ rfl
    obtain ⟨s2, e2⟩ : ∃ z, z = up s1 75 8 r1 := ⟨_, rfl⟩
    rw [← e2] at h ⊢
    refine G_iconst C dX12_keepsPeople_86 ?_
    refine G_istore_n (L' := [rv 75, iv 0]) C dX12_keepsPeople_87 (by decide) rfl ?_
    exact h
  · have h := h.2.2 q
    refine G_aload_n C dX12_keepsPeople_20 rfl ?_
    refine gR_X12_5 C ly_75 rfl wf_X12_16 dX12_keepsPeople_21 ?_
    refine G_iload_n C dX12_keepsPeople_24 rfl ?_
    refine G_aload_n C dX12_keepsPeople_25 rfl ?_
    refine G_aload_n C dX12_keepsPeople_26 rfl ?_
    refine gR_X12_5 C ly_75 rfl wf_X12_16 dX12_keepsPeople_27 ?_
    refine G_iload_n C dX12_keepsPeople_30 rfl ?_
    refine G_iald C ly_78 (by decide) h.1 dX12_keepsPeople_31 ?_
    have h := h.2
    refine G_callVI (K := [.inl v1, .inr 78]) (args := [.inl (s 78 v1)]) (T := TX12) (N := 72) C ly_75 rfl (Nat.le_of_ble_eq_true rfl) mo_X12_kept wc_X12_439 rfl dX12_keepsPeople_32 h (fun r3 s3 h => ?_)
    refine G_iast C ly_78 (by decide) h.1 dX12_keepsPeople_35 ?_
    have h := h.2
    have h := h _ rfl
    obtain ⟨s4, e4⟩ : ∃ z, z = up s3 78 v1 r3 := ⟨_, rfl⟩
    rw [← e4] at h ⊢
    refine G_aload_n C dX12_keepsPeople_36 rfl ?_
    refine gR_X12_6 C ly_75 rfl wf_X12_19 dX12_keepsPeople_37 ?_
    refine G_iload_n C dX12_keepsPeople_40 rfl ?_
    refine G_aload_n C dX12_keepsPeople_41 rfl ?_
    refine G_aload_n C dX12_keepsPeople_42 rfl ?_
    refine gR_X12_6 C ly_75 rfl wf_X12_19 dX12_keepsPeople_43 ?_
    refine G_iload_n C dX12_keepsPeople_46 rfl ?_
    refine G_iald C ly_79 (by decide) h.1 dX12_keepsPeople_47 ?_
    have h := h.2
    refine G_callVI (K := [.inl v1, .inr 79]) (args := [.inl (s4 79 v1)]) (T := TX12) (N := 72) C ly_75 rfl (Nat.le_of_ble_eq_true rfl) mo_X12_kept wc_X12_439 rfl dX12_keepsPeople_48 h (fun r5 s5 h => ?_)
    refine G_iast C ly_79 (by decide) h.1 dX12_keepsPeople_51 ?_
    have h := h.2
    have h := h _ rfl
    obtain ⟨s6, e6⟩ : ∃ z, z = up s5 79 v1 r5 := ⟨_, rfl⟩
    rw [← e6] at h ⊢
    refine G_aload_n C dX12_keepsPeople_52 rfl ?_
    refine gR_X12_7 C ly_75 rfl wf_X12_22 dX12_keepsPeople_53 ?_
    refine G_iload_n C dX12_keepsPeople_56 rfl ?_
    refine G_aload_n C dX12_keepsPeople_57 rfl ?_
    refine G_aload_n C dX12_keepsPeople_58 rfl ?_
    refine gR_X12_7 C ly_75 rfl wf_X12_22 dX12_keepsPeople_59 ?_
    refine G_iload_n C dX12_keepsPeople_62 rfl ?_
    refine G_iald C ly_80 (by decide) h.1 dX12_keepsPeople_63 ?_
    have h := h.2
    refine G_callVI (K := [.inl v1, .inr 80]) (args := [.inl (s6 80 v1)]) (T := TX12) (N := 72) C ly_75 rfl (Nat.le_of_ble_eq_true rfl) mo_X12_kept wc_X12_439 rfl dX12_keepsPeople_64 h (fun r7 s7 h => ?_)
    refine G_iast C ly_80 (by decide) h.1 dX12_keepsPeople_67 ?_
    have h := h.2
    have h := h _ rfl
    obtain ⟨s8, e8⟩ : ∃ z, z = up s7 80 v1 r7 := ⟨_, rfl⟩
    rw [← e8] at h ⊢
    refine G_iinc (L' := [rv 75, iv (v1 + 1)]) C dX12_keepsPeople_68 (by decide) rfl rfl ?_
    refine G_goto (tgt := 14) C dX12_keepsPeople_71 (by decide) ?_
    exact h
set_option maxRecDepth 20000 in
theorem kb_X12_keepsPeople_88 {X : Cx} {d : Nat} {P : Sto → Prop} (C : Ok LY X RX12 cX12_keepsPeople 2 d) (r : RetV LY X cX12_keepsPeople P) {v1 : Int} {s : Sto} (h : ((rg v1) ∧ ((30 ≤ v1 → G LY X 118 [rv 75, iv 0] [] s) ∧ (v1 < 30 → ((0 ≤ v1 ∧ v1 < 51) ∧ (CallI LY d MX12_kept [.inr 75, .inl (s 76 v1)] s (fun r1 s1 => ((0 ≤ v1 ∧ v1 < 51) ∧ (∀ s2 : Sto, s2 = up s1 76 v1 r1 → G LY X 88 [rv 75, iv (v1 + 1)] [] s2))))))))) : G LY X 88 [rv 75, iv v1] [] s := by
  refine G_iload_n C dX12_keepsPeople_88 rfl ?_
  refine G_bipush C dX12_keepsPeople_89 bi_30 ?_
  refine G_icmp_ge (tgt := 116) C dX12_keepsPeople_91 (by decide) ⟨h.1, (by decide)⟩ (fun q => ?_) (fun q => ?_)
  · have h := h.2.1 q
    refine G_iconst C dX12_keepsPeople_116 ?_
    refine G_istore_n (L' := [rv 75, iv 0]) C dX12_keepsPeople_117 (by decide) rfl ?_
    exact h
  · have h := h.2.2 q
    refine G_aload_n C dX12_keepsPeople_94 rfl ?_
    refine gR_X12_2 C ly_75 rfl wf_X12_7 dX12_keepsPeople_95 ?_
    refine G_iload_n C dX12_keepsPeople_98 rfl ?_
    refine G_aload_n C dX12_keepsPeople_99 rfl ?_
    refine G_aload_n C dX12_keepsPeople_100 rfl ?_
    refine gR_X12_2 C ly_75 rfl wf_X12_7 dX12_keepsPeople_101 ?_
    refine G_iload_n C dX12_keepsPeople_104 rfl ?_
    refine G_iald C ly_76 (by decide) h.1 dX12_keepsPeople_105 ?_
    have h := h.2
    refine G_callVI (K := [.inl v1, .inr 76]) (args := [.inl (s 76 v1)]) (T := TX12) (N := 72) C ly_75 rfl (Nat.le_of_ble_eq_true rfl) mo_X12_kept wc_X12_439 rfl dX12_keepsPeople_106 h (fun r1 s1 h => ?_)
    refine G_iast C ly_76 (by decide) h.1 dX12_keepsPeople_109 ?_
    have h := h.2
    have h := h _ rfl
    obtain ⟨s2, e2⟩ : ∃ z, z = up s1 76 v1 r1 := ⟨_, rfl⟩
    rw [← e2] at h ⊢
    refine G_iinc (L' := [rv 75, iv (v1 + 1)]) C dX12_keepsPeople_110 (by decide) rfl rfl ?_
    refine G_goto (tgt := 88) C dX12_keepsPeople_113 (by decide) ?_
    exact h
set_option maxRecDepth 20000 in
theorem kb_X12_keepsPeople_118 {X : Cx} {d : Nat} {P : Sto → Prop} (C : Ok LY X RX12 cX12_keepsPeople 2 d) (r : RetV LY X cX12_keepsPeople P) {v1 : Int} {s : Sto} (h : ((rg v1) ∧ ((180 ≤ v1 → P s) ∧ (v1 < 180 → ((0 ≤ v1 ∧ v1 < 306) ∧ (CallI LY d MX12_kept [.inr 75, .inl (s 77 v1)] s (fun r1 s1 => ((0 ≤ v1 ∧ v1 < 306) ∧ (∀ s2 : Sto, s2 = up s1 77 v1 r1 → G LY X 118 [rv 75, iv (v1 + 1)] [] s2))))))))) : G LY X 118 [rv 75, iv v1] [] s := by
  refine G_iload_n C dX12_keepsPeople_118 rfl ?_
  refine G_sipush C dX12_keepsPeople_119 si_180 ?_
  refine G_icmp_ge (tgt := 147) C dX12_keepsPeople_122 (by decide) ⟨h.1, (by decide)⟩ (fun q => ?_) (fun q => ?_)
  · have h := h.2.1 q
    exact r _ _ _ dX12_keepsPeople_147 h
  · have h := h.2.2 q
    refine G_aload_n C dX12_keepsPeople_125 rfl ?_
    refine gR_X12_3 C ly_75 rfl wf_X12_13 dX12_keepsPeople_126 ?_
    refine G_iload_n C dX12_keepsPeople_129 rfl ?_
    refine G_aload_n C dX12_keepsPeople_130 rfl ?_
    refine G_aload_n C dX12_keepsPeople_131 rfl ?_
    refine gR_X12_3 C ly_75 rfl wf_X12_13 dX12_keepsPeople_132 ?_
    refine G_iload_n C dX12_keepsPeople_135 rfl ?_
    refine G_iald C ly_77 (by decide) h.1 dX12_keepsPeople_136 ?_
    have h := h.2
    refine G_callVI (K := [.inl v1, .inr 77]) (args := [.inl (s 77 v1)]) (T := TX12) (N := 72) C ly_75 rfl (Nat.le_of_ble_eq_true rfl) mo_X12_kept wc_X12_439 rfl dX12_keepsPeople_137 h (fun r1 s1 h => ?_)
    refine G_iast C ly_77 (by decide) h.1 dX12_keepsPeople_140 ?_
    have h := h.2
    have h := h _ rfl
    obtain ⟨s2, e2⟩ : ∃ z, z = up s1 77 v1 r1 := ⟨_, rfl⟩
    rw [← e2] at h ⊢
    refine G_iinc (L' := [rv 75, iv (v1 + 1)]) C dX12_keepsPeople_141 (by decide) rfl rfl ?_
    refine G_goto (tgt := 118) C dX12_keepsPeople_144 (by decide) ?_
    exact h
set_option maxRecDepth 20000 in
theorem kb_X12_keepsNaming_0 {X : Cx} {d : Nat} {P : Sto → Prop} (C : Ok LY X RX12 cX12_keepsNaming 2 d) (r : RetV LY X cX12_keepsNaming P) {s : Sto} (h : (CallI LY d MX12_kept [.inr 75, .inl (s 75 30)] s (fun r1 s1 => (∀ s2 : Sto, s2 = up s1 75 30 r1 → G LY X 14 [rv 75, iv 0] [] s2)))) : G LY X 0 [rv 75, none] [] s := by
  refine G_aload_n C dX12_keepsNaming_0 rfl ?_
  refine G_aload_n C dX12_keepsNaming_1 rfl ?_
  refine G_aload_n C dX12_keepsNaming_2 rfl ?_
  refine gI_X12_30 C ly_75 rfl wf_X12_180 dX12_keepsNaming_3 ?_
  refine G_callVI (K := [.inr 75]) (args := [.inl (s 75 30)]) (T := TX12) (N := 72) C ly_75 rfl (Nat.le_of_ble_eq_true rfl) mo_X12_kept wc_X12_439 rfl dX12_keepsNaming_6 h (fun r1 s1 h => ?_)
  refine gP_X12_30 C ly_75 rfl wf_X12_180 dX12_keepsNaming_9 ?_
  have h := h _ rfl
  obtain ⟨s2, e2⟩ : ∃ z, z = up s1 75 30 r1 := ⟨_, rfl⟩
  rw [← e2] at h ⊢
  refine G_iconst C dX12_keepsNaming_12 ?_
  refine G_istore_n (L' := [rv 75, iv 0]) C dX12_keepsNaming_13 (by decide) rfl ?_
  exact h
set_option maxRecDepth 20000 in
theorem kb_X12_keepsNaming_14 {X : Cx} {d : Nat} {P : Sto → Prop} (C : Ok LY X RX12 cX12_keepsNaming 2 d) (r : RetV LY X cX12_keepsNaming P) {v1 : Int} {s : Sto} (h : ((rg v1) ∧ ((16 ≤ v1 → G LY X 76 [rv 75, iv 0] [] s) ∧ (v1 < 16 → ((0 ≤ v1 ∧ v1 < 32) ∧ (CallI LY d MX12_kept [.inr 75, .inl (s 93 v1)] s (fun r1 s1 => ((0 ≤ v1 ∧ v1 < 32) ∧ (∀ s2 : Sto, s2 = up s1 93 v1 r1 → ((0 ≤ v1 ∧ v1 < 32) ∧ (CallI LY d MX12_kept [.inr 75, .inl (s2 94 v1)] s2 (fun r3 s3 => ((0 ≤ v1 ∧ v1 < 32) ∧ (∀ s4 : Sto, s4 = up s3 94 v1 r3 → ((0 ≤ v1 ∧ v1 < 32) ∧ (CallI LY d MX12_kept [.inr 75, .inl (s4 95 v1)] s4 (fun r5 s5 => ((0 ≤ v1 ∧ v1 < 32) ∧ (∀ s6 : Sto, s6 = up s5 95 v1 r5 → G LY X 14 [rv 75, iv (v1 + 1)] [] s6))))))))))))))))))) : G LY X 14 [rv 75, iv v1] [] s := by
  refine G_iload_n C dX12_keepsNaming_14 rfl ?_
  refine G_bipush C dX12_keepsNaming_15 bi_16 ?_
  refine G_icmp_ge (tgt := 74) C dX12_keepsNaming_17 (by decide) ⟨h.1, (by decide)⟩ (fun q => ?_) (fun q => ?_)
  · have h := h.2.1 q
    refine G_iconst C dX12_keepsNaming_74 ?_
    refine G_istore_n (L' := [rv 75, iv 0]) C dX12_keepsNaming_75 (by decide) rfl ?_
    exact h
  · have h := h.2.2 q
    refine G_aload_n C dX12_keepsNaming_20 rfl ?_
    refine gR_X12_31 C ly_75 rfl wf_X12_65 dX12_keepsNaming_21 ?_
    refine G_iload_n C dX12_keepsNaming_24 rfl ?_
    refine G_aload_n C dX12_keepsNaming_25 rfl ?_
    refine G_aload_n C dX12_keepsNaming_26 rfl ?_
    refine gR_X12_31 C ly_75 rfl wf_X12_65 dX12_keepsNaming_27 ?_
    refine G_iload_n C dX12_keepsNaming_30 rfl ?_
    refine G_iald C ly_93 (by decide) h.1 dX12_keepsNaming_31 ?_
    have h := h.2
    refine G_callVI (K := [.inl v1, .inr 93]) (args := [.inl (s 93 v1)]) (T := TX12) (N := 72) C ly_75 rfl (Nat.le_of_ble_eq_true rfl) mo_X12_kept wc_X12_439 rfl dX12_keepsNaming_32 h (fun r1 s1 h => ?_)
    refine G_iast C ly_93 (by decide) h.1 dX12_keepsNaming_35 ?_
    have h := h.2
    have h := h _ rfl
    obtain ⟨s2, e2⟩ : ∃ z, z = up s1 93 v1 r1 := ⟨_, rfl⟩
    rw [← e2] at h ⊢
    refine G_aload_n C dX12_keepsNaming_36 rfl ?_
    refine gR_X12_32 C ly_75 rfl wf_X12_68 dX12_keepsNaming_37 ?_
    refine G_iload_n C dX12_keepsNaming_40 rfl ?_
    refine G_aload_n C dX12_keepsNaming_41 rfl ?_
    refine G_aload_n C dX12_keepsNaming_42 rfl ?_
    refine gR_X12_32 C ly_75 rfl wf_X12_68 dX12_keepsNaming_43 ?_
    refine G_iload_n C dX12_keepsNaming_46 rfl ?_
    refine G_iald C ly_94 (by decide) h.1 dX12_keepsNaming_47 ?_
    have h := h.2
    refine G_callVI (K := [.inl v1, .inr 94]) (args := [.inl (s2 94 v1)]) (T := TX12) (N := 72) C ly_75 rfl (Nat.le_of_ble_eq_true rfl) mo_X12_kept wc_X12_439 rfl dX12_keepsNaming_48 h (fun r3 s3 h => ?_)
    refine G_iast C ly_94 (by decide) h.1 dX12_keepsNaming_51 ?_
    have h := h.2
    have h := h _ rfl
    obtain ⟨s4, e4⟩ : ∃ z, z = up s3 94 v1 r3 := ⟨_, rfl⟩
    rw [← e4] at h ⊢
    refine G_aload_n C dX12_keepsNaming_52 rfl ?_
    refine gR_X12_33 C ly_75 rfl wf_X12_71 dX12_keepsNaming_53 ?_
    refine G_iload_n C dX12_keepsNaming_56 rfl ?_
    refine G_aload_n C dX12_keepsNaming_57 rfl ?_
    refine G_aload_n C dX12_keepsNaming_58 rfl ?_
    refine gR_X12_33 C ly_75 rfl wf_X12_71 dX12_keepsNaming_59 ?_
    refine G_iload_n C dX12_keepsNaming_62 rfl ?_
    refine G_iald C ly_95 (by decide) h.1 dX12_keepsNaming_63 ?_
    have h := h.2
    refine G_callVI (K := [.inl v1, .inr 95]) (args := [.inl (s4 95 v1)]) (T := TX12) (N := 72) C ly_75 rfl (Nat.le_of_ble_eq_true rfl) mo_X12_kept wc_X12_439 rfl dX12_keepsNaming_64 h (fun r5 s5 h => ?_)
    refine G_iast C ly_95 (by decide) h.1 dX12_keepsNaming_67 ?_
    have h := h.2
    have h := h _ rfl
    obtain ⟨s6, e6⟩ : ∃ z, z = up s5 95 v1 r5 := ⟨_, rfl⟩
    rw [← e6] at h ⊢
    refine G_iinc (L' := [rv 75, iv (v1 + 1)]) C dX12_keepsNaming_68 (by decide) rfl rfl ?_
    refine G_goto (tgt := 14) C dX12_keepsNaming_71 (by decide) ?_
    exact h
set_option maxRecDepth 20000 in
theorem kb_X12_keepsNaming_76 {X : Cx} {d : Nat} {P : Sto → Prop} (C : Ok LY X RX12 cX12_keepsNaming 2 d) (r : RetV LY X cX12_keepsNaming P) {v1 : Int} {s : Sto} (h : ((rg v1) ∧ ((400 ≤ v1 → P s) ∧ (v1 < 400 → ((0 ≤ v1 ∧ v1 < 800) ∧ (CallI LY d MX12_kept [.inr 75, .inl (s 96 v1)] s (fun r1 s1 => ((0 ≤ v1 ∧ v1 < 800) ∧ (∀ s2 : Sto, s2 = up s1 96 v1 r1 → ((0 ≤ v1 ∧ v1 < 800) ∧ (CallI LY d MX12_kept [.inr 75, .inl (s2 97 v1)] s2 (fun r3 s3 => ((0 ≤ v1 ∧ v1 < 800) ∧ (∀ s4 : Sto, s4 = up s3 97 v1 r3 → G LY X 76 [rv 75, iv (v1 + 1)] [] s4)))))))))))))) : G LY X 76 [rv 75, iv v1] [] s := by
  refine G_iload_n C dX12_keepsNaming_76 rfl ?_
  refine G_sipush C dX12_keepsNaming_77 si_400 ?_
  refine G_icmp_ge (tgt := 121) C dX12_keepsNaming_80 (by decide) ⟨h.1, (by decide)⟩ (fun q => ?_) (fun q => ?_)
  · have h := h.2.1 q
    exact r _ _ _ dX12_keepsNaming_121 h
  · have h := h.2.2 q
    refine G_aload_n C dX12_keepsNaming_83 rfl ?_
    refine gR_X12_34 C ly_75 rfl wf_X12_74 dX12_keepsNaming_84 ?_
    refine G_iload_n C dX12_keepsNaming_87 rfl ?_
    refine G_aload_n C dX12_keepsNaming_88 rfl ?_
    refine G_aload_n C dX12_keepsNaming_89 rfl ?_
    refine gR_X12_34 C ly_75 rfl wf_X12_74 dX12_keepsNaming_90 ?_
    refine G_iload_n C dX12_keepsNaming_93 rfl ?_
    refine G_iald C ly_96 (by decide) h.1 dX12_keepsNaming_94 ?_
    have h := h.2
    refine G_callVI (K := [.inl v1, .inr 96]) (args := [.inl (s 96 v1)]) (T := TX12) (N := 72) C ly_75 rfl (Nat.le_of_ble_eq_true rfl) mo_X12_kept wc_X12_439 rfl dX12_keepsNaming_95 h (fun r1 s1 h => ?_)
    refine G_iast C ly_96 (by decide) h.1 dX12_keepsNaming_98 ?_
    have h := h.2
    have h := h _ rfl
    obtain ⟨s2, e2⟩ : ∃ z, z = up s1 96 v1 r1 := ⟨_, rfl⟩
    rw [← e2] at h ⊢
    refine G_aload_n C dX12_keepsNaming_99 rfl ?_
    refine gR_X12_35 C ly_75 rfl wf_X12_77 dX12_keepsNaming_100 ?_
    refine G_iload_n C dX12_keepsNaming_103 rfl ?_
    refine G_aload_n C dX12_keepsNaming_104 rfl ?_
    refine G_aload_n C dX12_keepsNaming_105 rfl ?_
    refine gR_X12_35 C ly_75 rfl wf_X12_77 dX12_keepsNaming_106 ?_
    refine G_iload_n C dX12_keepsNaming_109 rfl ?_
    refine G_iald C ly_97 (by decide) h.1 dX12_keepsNaming_110 ?_
    have h := h.2
    refine G_callVI (K := [.inl v1, .inr 97]) (args := [.inl (s2 97 v1)]) (T := TX12) (N := 72) C ly_75 rfl (Nat.le_of_ble_eq_true rfl) mo_X12_kept wc_X12_439 rfl dX12_keepsNaming_111 h (fun r3 s3 h => ?_)
    refine G_iast C ly_97 (by decide) h.1 dX12_keepsNaming_114 ?_
    have h := h.2
    have h := h _ rfl
    obtain ⟨s4, e4⟩ : ∃ z, z = up s3 97 v1 r3 := ⟨_, rfl⟩
    rw [← e4] at h ⊢
    refine G_iinc (L' := [rv 75, iv (v1 + 1)]) C dX12_keepsNaming_115 (by decide) rfl rfl ?_
    refine G_goto (tgt := 76) C dX12_keepsNaming_118 (by decide) ?_
    exact h
set_option maxRecDepth 20000 in
theorem kb_X5_plainOrder_0 {X : Cx} {d : Nat} {P : Int → Sto → Prop} (C : Ok LY X RX5 cX5_plainOrder 3 d) (r : RetI LY X cX5_plainOrder P) {v0 : Int} {s : Sto} (h : G LY X 4 [iv v0, iv 0, iv 0] [] s) : G LY X 0 [iv v0, none, none] [] s := by
  refine G_iconst C dX5_plainOrder_0 ?_
  refine G_istore_n (L' := [iv v0, iv 0, none]) C dX5_plainOrder_1 (by decide) rfl ?_
  refine G_iconst C dX5_plainOrder_2 ?_
  refine G_istore_n (L' := [iv v0, iv 0, iv 0]) C dX5_plainOrder_3 (by decide) rfl ?_
  exact h
set_option maxRecDepth 20000 in
theorem kb_X5_plainOrder_4 {X : Cx} {d : Nat} {P : Int → Sto → Prop} (C : Ok LY X RX5 cX5_plainOrder 3 d) (r : RetI LY X cX5_plainOrder P) {v0 v1 v2 : Int} {s : Sto} (h : ((rg v2 ∧ rg v0) ∧ ((v0 ≤ v2 → P v1 s) ∧ (v2 < v0 → G LY X 4 [iv v0, iv (xor_ (xshl v1 3) v2), iv (v2 + 1)] [] s)))) : G LY X 4 [iv v0, iv v1, iv v2] [] s := by
  refine G_iload_n C dX5_plainOrder_4 rfl ?_
  refine G_iload_n C dX5_plainOrder_5 rfl ?_
  refine G_icmp_ge (tgt := 21) C dX5_plainOrder_6 (by decide) ⟨h.1.1, h.1.2⟩ (fun q => ?_) (fun q => ?_)
  · have h := h.2.1 q
    refine G_iload_n C dX5_plainOrder_21 rfl ?_
    exact r _ _ _ _ dX5_plainOrder_22 h
  · have h := h.2.2 q
    refine G_iload_n C dX5_plainOrder_9 rfl ?_
    refine G_iconst C dX5_plainOrder_10 ?_
    refine G_ishl C dX5_plainOrder_11 ?_
    refine G_iload_n C dX5_plainOrder_12 rfl ?_
    refine G_ior C dX5_plainOrder_13 ?_
    refine G_istore_n (L' := [iv v0, iv (xor_ (xshl v1 3) v2), iv v2]) C dX5_plainOrder_14 (by decide) rfl ?_
    refine G_iinc (L' := [iv v0, iv (xor_ (xshl v1 3) v2), iv (v2 + 1)]) C dX5_plainOrder_15 (by decide) rfl rfl ?_
    refine G_goto (tgt := 4) C dX5_plainOrder_18 (by decide) ?_
    exact h
set_option maxRecDepth 20000 in
theorem kb_X4_clear_0 {X : Cx} {d : Nat} {P : Sto → Prop} (C : Ok LY X RX4 cX4_clear 1 d) (r : RetV LY X cX4_clear P) {s : Sto} (h : (∀ s1 : Sto, s1 = up s 17 0 0 → (∀ s2 : Sto, s2 = up s1 17 1 0 → P s2))) : G LY X 0 [rv 17] [] s := by
  refine G_aload_n C dX4_clear_0 rfl ?_
  refine G_iconst C dX4_clear_1 ?_
  refine gP_X4_0 C ly_17 rfl wf_X4_9 dX4_clear_2 ?_
  have h := h _ rfl
  obtain ⟨s1, e1⟩ : ∃ z, z = up s 17 0 0 := ⟨_, rfl⟩
  rw [← e1] at h ⊢
  refine G_aload_n C dX4_clear_5 rfl ?_
  refine G_iconst C dX4_clear_6 ?_
  refine gP_X4_1 C ly_17 rfl wf_X4_15 dX4_clear_7 ?_
  have h := h _ rfl
  obtain ⟨s2, e2⟩ : ∃ z, z = up s1 17 1 0 := ⟨_, rfl⟩
  rw [← e2] at h ⊢
  exact r _ _ _ dX4_clear_10 h
set_option maxRecDepth 20000 in
theorem kb_X8_split_0 {X : Cx} {d : Nat} {P : Sto → Prop} (C : Ok LY X RX8 cX8_split 5 d) (r : RetV LY X cX8_split P) {s : Sto} (h : G LY X 7 [rv 39, rv 1, iv 0, iv 0, iv 0] [] s) : G LY X 0 [rv 39, rv 1, none, none, none] [] s := by
  refine G_iconst C dX8_split_0 ?_
  refine G_istore_n (L' := [rv 39, rv 1, iv 0, none, none]) C dX8_split_1 (by decide) rfl ?_
  refine G_iconst C dX8_split_2 ?_
  refine G_istore_n (L' := [rv 39, rv 1, iv 0, iv 0, none]) C dX8_split_3 (by decide) rfl ?_
  refine G_iconst C dX8_split_4 ?_
  refine G_istore (L' := [rv 39, rv 1, iv 0, iv 0, iv 0]) C dX8_split_5 (by decide) rfl ?_
  exact h
set_option maxRecDepth 20000 in
theorem kb_X8_split_7 {X : Cx} {d : Nat} {P : Sto → Prop} (C : Ok LY X RX8 cX8_split 5 d) (r : RetV LY X cX8_split P) (h1d : 1 ≤ d) {v2 v3 v4 : Int} {s : Sto} (h : ((rg v4 ∧ rg (s 1 1)) ∧ (((s 1 1) ≤ v4 → ((0 ≤ v2 ∧ v2 < 401) ∧ (∀ s1 : Sto, s1 = up s 40 v2 10200 → ((0 ≤ v2 ∧ v2 < 401) ∧ (∀ s2 : Sto, s2 = up s1 41 v2 (s1 1 1) → P s2))))) ∧ (v4 < (s 1 1) → ((rg v4) ∧ ((400 ≤ v4 → ((0 ≤ v2 ∧ v2 < 401) ∧ (∀ s3 : Sto, s3 = up s 40 v2 10200 → ((0 ≤ v2 ∧ v2 < 401) ∧ (∀ s4 : Sto, s4 = up s3 41 v2 (s3 1 1) → P s4))))) ∧ (v4 < 400 → (CallI LY d MX8_runEnd [.inr 1, .inl v4] s (fun r5 s5 => ((0 ≤ v4 ∧ v4 < 400) ∧ (CallI LY d MX9_isBlank [.inl (s5 2 v4)] s5 (fun r6 s6 => ((rg r6) ∧ ((r6 ≠ 0 → ((rg (v4 + 1) ∧ rg r5) ∧ G LY X 7 [rv 39, rv 1, iv v2, iv r5, iv (max (v4 + 1) r5)] [] s6)) ∧ (r6 = 0 → (CallI LY d MX8_tokenOf [.inr 1, .inl v4, .inl r5] s6 (fun r7 s7 => ((0 ≤ v2 ∧ v2 < 401) ∧ (∀ s8 : Sto, s8 = up s7 40 v2 r7 → ((0 ≤ v2 ∧ v2 < 401) ∧ (∀ s9 : Sto, s9 = up s8 41 v2 v4 → ((rg (v4 + 1) ∧ rg r5) ∧ G LY X 7 [rv 39, rv 1, iv (v2 + 1), iv r5, iv (max (v4 + 1) r5)] [] s9)))))))))))))))))))))) : G LY X 7 [rv 39, rv 1, iv v2, iv v3, iv v4] [] s := by
  refine G_iload C dX8_split_7 rfl ?_
  refine G_aload_n C dX8_split_9 rfl ?_
  refine gI_X9_1 C ly_1 rfl wf_X8_46 dX8_split_10 ?_
  refine G_icmp_ge (tgt := 81) C dX8_split_13 (by decide) ⟨h.1.1, h.1.2⟩ (fun q => ?_) (fun q => ?_)
  · have h := h.2.1 q
    refine G_aload_n C dX8_split_81 rfl ?_
    refine gR_X8_0 C ly_39 rfl wf_X8_9 dX8_split_82 ?_
    refine G_iload_n C dX8_split_85 rfl ?_
    refine G_sipush C dX8_split_86 si_10200 ?_
    refine G_iast C ly_40 (by decide) h.1 dX8_split_89 ?_
    have h := h.2
    have h := h _ rfl
    obtain ⟨s1, e1⟩ : ∃ z, z = up s 40 v2 10200 := ⟨_, rfl⟩
    rw [← e1] at h ⊢
    refine G_aload_n C dX8_split_90 rfl ?_
    refine gR_X8_1 C ly_39 rfl wf_X8_15 dX8_split_91 ?_
    refine G_iload_n C dX8_split_94 rfl ?_
    refine G_aload_n C dX8_split_95 rfl ?_
    refine gI_X9_1 C ly_1 rfl wf_X8_46 dX8_split_96 ?_
    refine G_iast C ly_41 (by decide) h.1 dX8_split_99 ?_
    have h := h.2
    have h := h _ rfl
    obtain ⟨s2, e2⟩ : ∃ z, z = up s1 41 v2 (s1 1 1) := ⟨_, rfl⟩
    rw [← e2] at h ⊢
    exact r _ _ _ dX8_split_100 h
  · have h := h.2.2 q
    refine G_iload C dX8_split_16 rfl ?_
    refine G_sipush C dX8_split_18 si_400 ?_
    refine G_icmp_ge (tgt := 81) C dX8_split_21 (by decide) ⟨h.1, (by decide)⟩ (fun q => ?_) (fun q => ?_)
    · have h := h.2.1 q
      refine G_aload_n C dX8_split_81 rfl ?_
      refine gR_X8_0 C ly_39 rfl wf_X8_9 dX8_split_82 ?_
      refine G_iload_n C dX8_split_85 rfl ?_
      refine G_sipush C dX8_split_86 si_10200 ?_
      refine G_iast C ly_40 (by decide) h.1 dX8_split_89 ?_
      have h := h.2
      have h := h _ rfl
      obtain ⟨s3, e3⟩ : ∃ z, z = up s 40 v2 10200 := ⟨_, rfl⟩
      rw [← e3] at h ⊢
      refine G_aload_n C dX8_split_90 rfl ?_
      refine gR_X8_1 C ly_39 rfl wf_X8_15 dX8_split_91 ?_
      refine G_iload_n C dX8_split_94 rfl ?_
      refine G_aload_n C dX8_split_95 rfl ?_
      refine gI_X9_1 C ly_1 rfl wf_X8_46 dX8_split_96 ?_
      refine G_iast C ly_41 (by decide) h.1 dX8_split_99 ?_
      have h := h.2
      have h := h _ rfl
      obtain ⟨s4, e4⟩ : ∃ z, z = up s3 41 v2 (s3 1 1) := ⟨_, rfl⟩
      rw [← e4] at h ⊢
      exact r _ _ _ dX8_split_100 h
    · have h := h.2.2 q
      refine G_aload_n C dX8_split_24 rfl ?_
      refine G_iload C dX8_split_25 rfl ?_
      refine G_callSI (K := []) (args := [.inr 1, .inl v4]) C (Nat.le_of_ble_eq_true rfl) mo_X8_runEnd wc_X8_51 rfl dX8_split_27 h (fun r5 s5 h => ?_)
      refine G_istore_n (L' := [rv 39, rv 1, iv v2, iv r5, iv v4]) C dX8_split_30 (by decide) rfl ?_
      refine G_aload_n C dX8_split_31 rfl ?_
      refine gR_X9_0 C ly_1 rfl wf_X8_55 dX8_split_32 ?_
      refine G_iload C dX8_split_35 rfl ?_
      refine G_iald C ly_2 (by decide) h.1 dX8_split_37 ?_
      have h := h.2
      refine G_callSI (K := []) (args := [.inl (s5 2 v4)]) C (Nat.le_of_ble_eq_true rfl) mo_X9_isBlank wc_X8_58 rfl dX8_split_38 h (fun r6 s6 h => ?_)
      refine G_if_ne (tgt := 68) C dX8_split_41 (by decide) h.1 (fun q => ?_) (fun q => ?_)
      · have h := h.2.1 q
        refine G_iload C dX8_split_68 rfl ?_
        refine G_iconst C dX8_split_70 ?_
        refine G_iadd C dX8_split_71 ?_
        refine G_iload_n C dX8_split_72 rfl ?_
        refine G_max C ⟨h.1.1, h.1.2⟩ h1d (Nat.le_of_ble_eq_true rfl) ws_701 mmaxw dX8_split_73 ?_
        have h := h.2
        refine G_istore (L' := [rv 39, rv 1, iv v2, iv r5, iv (max (v4 + 1) r5)]) C dX8_split_76 (by decide) rfl ?_
        refine G_goto (tgt := 7) C dX8_split_78 (by decide) ?_
        exact h
      · have h := h.2.2 q
        refine G_aload_n C dX8_split_44 rfl ?_
        refine gR_X8_0 C ly_39 rfl wf_X8_9 dX8_split_45 ?_
        refine G_iload_n C dX8_split_48 rfl ?_
        refine G_aload_n C dX8_split_49 rfl ?_
        refine G_iload C dX8_split_50 rfl ?_
        refine G_iload_n C dX8_split_52 rfl ?_
        refine G_callSI (K := [.inl v2, .inr 40]) (args := [.inr 1, .inl v4, .inl r5]) C (Nat.le_of_ble_eq_true rfl) mo_X8_tokenOf wc_X8_62 rfl dX8_split_53 h (fun r7 s7 h => ?_)
        refine G_iast C ly_40 (by decide) h.1 dX8_split_56 ?_
        have h := h.2
        have h := h _ rfl
        obtain ⟨s8, e8⟩ : ∃ z, z = up s7 40 v2 r7 := ⟨_, rfl⟩
        rw [← e8] at h ⊢
        refine G_aload_n C dX8_split_57 rfl ?_
        refine gR_X8_1 C ly_39 rfl wf_X8_15 dX8_split_58 ?_
        refine G_iload_n C dX8_split_61 rfl ?_
        refine G_iload C dX8_split_62 rfl ?_
        refine G_iast C ly_41 (by decide) h.1 dX8_split_64 ?_
        have h := h.2
        have h := h _ rfl
        obtain ⟨s9, e9⟩ : ∃ z, z = up s8 41 v2 v4 := ⟨_, rfl⟩
        rw [← e9] at h ⊢
        refine G_iinc (L' := [rv 39, rv 1, iv (v2 + 1), iv r5, iv v4]) C dX8_split_65 (by decide) rfl rfl ?_
        refine G_iload C dX8_split_68 rfl ?_
        refine G_iconst C dX8_split_70 ?_
        refine G_iadd C dX8_split_71 ?_
        refine G_iload_n C dX8_split_72 rfl ?_
        refine G_max C ⟨h.1.1, h.1.2⟩ h1d (Nat.le_of_ble_eq_true rfl) ws_701 mmaxw dX8_split_73 ?_
        have h := h.2
        refine G_istore (L' := [rv 39, rv 1, iv (v2 + 1), iv r5, iv (max (v4 + 1) r5)]) C dX8_split_76 (by decide) rfl ?_
        refine G_goto (tgt := 7) C dX8_split_78 (by decide) ?_
        exact h
set_option maxRecDepth 20000 in
theorem kb_X4_clearv1_0 {X : Cx} {d : Nat} {P : Sto → Prop} (C : Ok LY X RX4 cX4_clear 1 d) (r : RetV LY X cX4_clear P) {s : Sto} (h : (∀ s1 : Sto, s1 = up s 42 0 0 → (∀ s2 : Sto, s2 = up s1 42 1 0 → P s2))) : G LY X 0 [rv 42] [] s := by
  refine G_aload_n C dX4_clear_0 rfl ?_
  refine G_iconst C dX4_clear_1 ?_
  refine gP_X4_0 C ly_42 rfl wf_X4_9 dX4_clear_2 ?_
  have h := h _ rfl
  obtain ⟨s1, e1⟩ : ∃ z, z = up s 42 0 0 := ⟨_, rfl⟩
  rw [← e1] at h ⊢
  refine G_aload_n C dX4_clear_5 rfl ?_
  refine G_iconst C dX4_clear_6 ?_
  refine gP_X4_1 C ly_42 rfl wf_X4_15 dX4_clear_7 ?_
  have h := h _ rfl
  obtain ⟨s2, e2⟩ : ∃ z, z = up s1 42 1 0 := ⟨_, rfl⟩
  rw [← e2] at h ⊢
  exact r _ _ _ dX4_clear_10 h
set_option maxRecDepth 20000 in
theorem kb_X8_readLine_0 {X : Cx} {d : Nat} {P : Int → Sto → Prop} (C : Ok LY X RX8 cX8_readLine 2 d) (r : RetZ LY X cX8_readLine P) {s : Sto} (h : ((0 ≤ (s 39 3) ∧ (s 39 3) < 401) ∧ ((rg (s 40 (s 39 3))) ∧ (((s 40 (s 39 3)) = 10000 → ((rg (s 42 0)) ∧ (((s 42 0) < 16 → (CallV LY d MX8_goOn [.inr 39] s (fun s1 => ((0 ≤ (s1 39 3) ∧ (s1 39 3) < 401) ∧ ((rg (s1 40 (s1 39 3))) ∧ (((s1 40 (s1 39 3)) ≠ 10002 → ((0 ≤ (s1 39 3) ∧ (s1 39 3) < 401) ∧ ((rg (s1 40 (s1 39 3))) ∧ (((s1 40 (s1 39 3)) = 10100 → (CallV LY d MX8_goOn [.inr 39] s1 (fun s2 => (CallV LY d MX4_closeLine [.inr 42, .inl (s 40 (s 39 3))] s2 (fun s3 => P 1 s3))))) ∧ ((s1 40 (s1 39 3)) ≠ 10100 → (CallI LY d MX8_fail [.inr 39, .inl 1] s1 (fun r4 s4 => ((r4 = 0 ∨ r4 = 1) ∧ P r4 s4)))))))) ∧ ((s1 40 (s1 39 3)) = 10002 → (CallV LY d MX8_goOn [.inr 39] s1 (fun s5 => (CallI LY d MX8_readCondition [.inr 39, .inl 0] s5 (fun r6 s6 => ((rg r6) ∧ ((r6 ≠ 0 → ((0 ≤ (s6 39 3) ∧ (s6 39 3) < 401) ∧ ((rg (s6 40 (s6 39 3))) ∧ (((s6 40 (s6 39 3)) = 10100 → (CallV LY d MX8_goOn [.inr 39] s6 (fun s7 => (CallV LY d MX4_closeLine [.inr 42, .inl (s 40 (s 39 3))] s7 (fun s8 => P 1 s8))))) ∧ ((s6 40 (s6 39 3)) ≠ 10100 → (CallI LY d MX8_fail [.inr 39, .inl 1] s6 (fun r9 s9 => ((r9 = 0 ∨ r9 = 1) ∧ P r9 s9)))))))) ∧ (r6 = 0 → P 0 s6)))))))))))))) ∧ (16 ≤ (s 42 0) → (CallI LY d MX8_fail [.inr 39, .inl 3] s (fun r10 s10 => ((r10 = 0 ∨ r10 = 1) ∧ P r10 s10))))))) ∧ ((s 40 (s 39 3)) ≠ 10000 → ((rg (s 40 (s 39 3))) ∧ (((s 40 (s 39 3)) = 10001 → ((rg (s 42 0)) ∧ (((s 42 0) < 16 → (CallV LY d MX8_goOn [.inr 39] s (fun s11 => ((0 ≤ (s11 39 3) ∧ (s11 39 3) < 401) ∧ ((rg (s11 40 (s11 39 3))) ∧ (((s11 40 (s11 39 3)) ≠ 10002 → ((0 ≤ (s11 39 3) ∧ (s11 39 3) < 401) ∧ ((rg (s11 40 (s11 39 3))) ∧ (((s11 40 (s11 39 3)) = 10100 → (CallV LY d MX8_goOn [.inr 39] s11 (fun s12 => (CallV LY d MX4_closeLine [.inr 42, .inl (s 40 (s 39 3))] s12 (fun s13 => P 1 s13))))) ∧ ((s11 40 (s11 39 3)) ≠ 10100 → (CallI LY d MX8_fail [.inr 39, .inl 1] s11 (fun r14 s14 => ((r14 = 0 ∨ r14 = 1) ∧ P r14 s14)))))))) ∧ ((s11 40 (s11 39 3)) = 10002 → (CallV LY d MX8_goOn [.inr 39] s11 (fun s15 => (CallI LY d MX8_readCondition [.inr 39, .inl 0] s15 (fun r16 s16 => ((rg r16) ∧ ((r16 ≠ 0 → ((0 ≤ (s16 39 3) ∧ (s16 39 3) < 401) ∧ ((rg (s16 40 (s16 39 3))) ∧ (((s16 40 (s16 39 3)) = 10100 → (CallV LY d MX8_goOn [.inr 39] s16 (fun s17 => (CallV LY d MX4_closeLine [.inr 42, .inl (s 40 (s 39 3))] s17 (fun s18 => P 1 s18))))) ∧ ((s16 40 (s16 39 3)) ≠ 10100 → (CallI LY d MX8_fail [.inr 39, .inl 1] s16 (fun r19 s19 => ((r19 = 0 ∨ r19 = 1) ∧ P r19 s19)))))))) ∧ (r16 = 0 → P 0 s16)))))))))))))) ∧ (16 ≤ (s 42 0) → (CallI LY d MX8_fail [.inr 39, .inl 3] s (fun r20 s20 => ((r20 = 0 ∨ r20 = 1) ∧ P r20 s20))))))) ∧ ((s 40 (s 39 3)) ≠ 10001 → (CallI LY d MX8_fail [.inr 39, .inl 1] s (fun r21 s21 => ((r21 = 0 ∨ r21 = 1) ∧ P r21 s21))))))))))) : G LY X 0 [rv 39, none] [] s := by
  refine G_aload_n C dX8_readLine_0 rfl ?_
  refine gR_X8_0 C ly_39 rfl wf_X8_9 dX8_readLine_1 ?_
  refine G_aload_n C dX8_readLine_4 rfl ?_
  refine gI_X8_3 C ly_39 rfl wf_X8_25 dX8_readLine_5 ?_
  refine G_iald C ly_40 (by decide) h.1 dX8_readLine_8 ?_
  have h := h.2
  refine G_istore_n (L' := [rv 39, iv (s 40 (s 39 3))]) C dX8_readLine_9 (by decide) rfl ?_
  refine G_iload_n C dX8_readLine_10 rfl ?_
  refine G_sipush C dX8_readLine_11 si_10000 ?_
  refine G_icmp_eq (tgt := 30) C dX8_readLine_14 (by decide) ⟨h.1, (by decide)⟩ (fun q => ?_) (fun q => ?_)
  · have h := h.2.1 q
    refine G_aload_n C dX8_readLine_30 rfl ?_
    refine gR_X8_2 C ly_39 rfl wf_X8_21 dX8_readLine_31 ?_
    refine gI_X4_0 C ly_42 rfl wf_X8_108 dX8_readLine_34 ?_
    refine G_bipush C dX8_readLine_37 bi_16 ?_
    refine G_icmp_lt (tgt := 48) C dX8_readLine_39 (by decide) ⟨h.1, (by decide)⟩ (fun q => ?_) (fun q => ?_)
    · have h := h.2.1 q
      refine G_aload_n C dX8_readLine_48 rfl ?_
      refine G_callVV (K := []) (args := []) (T := TX8) (N := 6) C ly_39 rfl (Nat.le_of_ble_eq_true rfl) mo_X8_goOn wc_X8_111 rfl dX8_readLine_49 h (fun s1 h => ?_)
      refine G_aload_n C dX8_readLine_52 rfl ?_
      refine gR_X8_0 C ly_39 rfl wf_X8_9 dX8_readLine_53 ?_
      refine G_aload_n C dX8_readLine_56 rfl ?_
      refine gI_X8_3 C ly_39 rfl wf_X8_25 dX8_readLine_57 ?_
      refine G_iald C ly_40 (by decide) h.1 dX8_readLine_60 ?_
      have h := h.2
      refine G_sipush C dX8_readLine_61 si_10002 ?_
      refine G_icmp_ne (tgt := 81) C dX8_readLine_64 (by decide) ⟨h.1, (by decide)⟩ (fun q => ?_) (fun q => ?_)
      · have h := h.2.1 q
        refine G_aload_n C dX8_readLine_81 rfl ?_
        refine gR_X8_0 C ly_39 rfl wf_X8_9 dX8_readLine_82 ?_
        refine G_aload_n C dX8_readLine_85 rfl ?_
        refine gI_X8_3 C ly_39 rfl wf_X8_25 dX8_readLine_86 ?_
        refine G_iald C ly_40 (by decide) h.1 dX8_readLine_89 ?_
        have h := h.2
        refine G_sipush C dX8_readLine_90 si_10100 ?_
        refine G_icmp_eq (tgt := 102) C dX8_readLine_93 (by decide) ⟨h.1, (by decide)⟩ (fun q => ?_) (fun q => ?_)
        · have h := h.2.1 q
          refine G_aload_n C dX8_readLine_102 rfl ?_
          refine G_callVV (K := []) (args := []) (T := TX8) (N := 6) C ly_39 rfl (Nat.le_of_ble_eq_true rfl) mo_X8_goOn wc_X8_111 rfl dX8_readLine_103 h (fun s2 h => ?_)
          refine G_aload_n C dX8_readLine_106 rfl ?_
          refine gR_X8_2 C ly_39 rfl wf_X8_21 dX8_readLine_107 ?_
          refine G_iload_n C dX8_readLine_110 rfl ?_
          refine G_callVV (K := []) (args := [.inl (s 40 (s 39 3))]) (T := TX4) (N := 5) C ly_42 rfl (Nat.le_of_ble_eq_true rfl) mo_X4_closeLine wc_X8_117 rfl dX8_readLine_111 h (fun s3 h => ?_)
          refine G_iconst C dX8_readLine_114 ?_
          exact r _ _ _ _ dX8_readLine_115 (by decide) h
        · have h := h.2.2 q
          refine G_aload_n C dX8_readLine_96 rfl ?_
          refine G_iconst C dX8_readLine_97 ?_
          refine G_callVI (K := []) (args := [.inl 1]) (T := TX8) (N := 6) C ly_39 rfl (Nat.le_of_ble_eq_true rfl) mo_X8_fail wc_X8_105 rfl dX8_readLine_98 h (fun r4 s4 h => ?_)
          exact r _ _ _ _ dX8_readLine_101 h.1 h.2
      · have h := h.2.2 q
        refine G_aload_n C dX8_readLine_67 rfl ?_
        refine G_callVV (K := []) (args := []) (T := TX8) (N := 6) C ly_39 rfl (Nat.le_of_ble_eq_true rfl) mo_X8_goOn wc_X8_111 rfl dX8_readLine_68 h (fun s5 h => ?_)
        refine G_aload_n C dX8_readLine_71 rfl ?_
        refine G_iconst C dX8_readLine_72 ?_
        refine G_callVI (K := []) (args := [.inl 0]) (T := TX8) (N := 6) C ly_39 rfl (Nat.le_of_ble_eq_true rfl) mo_X8_readCondition wc_X8_114 rfl dX8_readLine_73 h (fun r6 s6 h => ?_)
        refine G_if_ne (tgt := 81) C dX8_readLine_76 (by decide) h.1 (fun q => ?_) (fun q => ?_)
        · have h := h.2.1 q
          refine G_aload_n C dX8_readLine_81 rfl ?_
          refine gR_X8_0 C ly_39 rfl wf_X8_9 dX8_readLine_82 ?_
          refine G_aload_n C dX8_readLine_85 rfl ?_
          refine gI_X8_3 C ly_39 rfl wf_X8_25 dX8_readLine_86 ?_
          refine G_iald C ly_40 (by decide) h.1 dX8_readLine_89 ?_
          have h := h.2
          refine G_sipush C dX8_readLine_90 si_10100 ?_
          refine G_icmp_eq (tgt := 102) C dX8_readLine_93 (by decide) ⟨h.1, (by decide)⟩ (fun q => ?_) (fun q => ?_)
          · have h := h.2.1 q
            refine G_aload_n C dX8_readLine_102 rfl ?_
            refine G_callVV (K := []) (args := []) (T := TX8) (N := 6) C ly_39 rfl (Nat.le_of_ble_eq_true rfl) mo_X8_goOn wc_X8_111 rfl dX8_readLine_103 h (fun s7 h => ?_)
            refine G_aload_n C dX8_readLine_106 rfl ?_
            refine gR_X8_2 C ly_39 rfl wf_X8_21 dX8_readLine_107 ?_
            refine G_iload_n C dX8_readLine_110 rfl ?_
            refine G_callVV (K := []) (args := [.inl (s 40 (s 39 3))]) (T := TX4) (N := 5) C ly_42 rfl (Nat.le_of_ble_eq_true rfl) mo_X4_closeLine wc_X8_117 rfl dX8_readLine_111 h (fun s8 h => ?_)
            refine G_iconst C dX8_readLine_114 ?_
            exact r _ _ _ _ dX8_readLine_115 (by decide) h
          · have h := h.2.2 q
            refine G_aload_n C dX8_readLine_96 rfl ?_
            refine G_iconst C dX8_readLine_97 ?_
            refine G_callVI (K := []) (args := [.inl 1]) (T := TX8) (N := 6) C ly_39 rfl (Nat.le_of_ble_eq_true rfl) mo_X8_fail wc_X8_105 rfl dX8_readLine_98 h (fun r9 s9 h => ?_)
            exact r _ _ _ _ dX8_readLine_101 h.1 h.2
        · have h := h.2.2 q
          refine G_iconst C dX8_readLine_79 ?_
          exact r _ _ _ _ dX8_readLine_80 (by decide) h
    · have h := h.2.2 q
      refine G_aload_n C dX8_readLine_42 rfl ?_
      refine G_iconst C dX8_readLine_43 ?_
      refine G_callVI (K := []) (args := [.inl 3]) (T := TX8) (N := 6) C ly_39 rfl (Nat.le_of_ble_eq_true rfl) mo_X8_fail wc_X8_105 rfl dX8_readLine_44 h (fun r10 s10 h => ?_)
      exact r _ _ _ _ dX8_readLine_47 h.1 h.2
  · have h := h.2.2 q
    refine G_iload_n C dX8_readLine_17 rfl ?_
    refine G_sipush C dX8_readLine_18 si_10001 ?_
    refine G_icmp_eq (tgt := 30) C dX8_readLine_21 (by decide) ⟨h.1, (by decide)⟩ (fun q => ?_) (fun q => ?_)
    · have h := h.2.1 q
      refine G_aload_n C dX8_readLine_30 rfl ?_
      refine gR_X8_2 C ly_39 rfl wf_X8_21 dX8_readLine_31 ?_
      refine gI_X4_0 C ly_42 rfl wf_X8_108 dX8_readLine_34 ?_
      refine G_bipush C dX8_readLine_37 bi_16 ?_
      refine G_icmp_lt (tgt := 48) C dX8_readLine_39 (by decide) ⟨h.1, (by decide)⟩ (fun q => ?_) (fun q => ?_)
      · have h := h.2.1 q
        refine G_aload_n C dX8_readLine_48 rfl ?_
        refine G_callVV (K := []) (args := []) (T := TX8) (N := 6) C ly_39 rfl (Nat.le_of_ble_eq_true rfl) mo_X8_goOn wc_X8_111 rfl dX8_readLine_49 h (fun s11 h => ?_)
        refine G_aload_n C dX8_readLine_52 rfl ?_
        refine gR_X8_0 C ly_39 rfl wf_X8_9 dX8_readLine_53 ?_
        refine G_aload_n C dX8_readLine_56 rfl ?_
        refine gI_X8_3 C ly_39 rfl wf_X8_25 dX8_readLine_57 ?_
        refine G_iald C ly_40 (by decide) h.1 dX8_readLine_60 ?_
        have h := h.2
        refine G_sipush C dX8_readLine_61 si_10002 ?_
        refine G_icmp_ne (tgt := 81) C dX8_readLine_64 (by decide) ⟨h.1, (by decide)⟩ (fun q => ?_) (fun q => ?_)
        · have h := h.2.1 q
          refine G_aload_n C dX8_readLine_81 rfl ?_
          refine gR_X8_0 C ly_39 rfl wf_X8_9 dX8_readLine_82 ?_
          refine G_aload_n C dX8_readLine_85 rfl ?_
          refine gI_X8_3 C ly_39 rfl wf_X8_25 dX8_readLine_86 ?_
          refine G_iald C ly_40 (by decide) h.1 dX8_readLine_89 ?_
          have h := h.2
          refine G_sipush C dX8_readLine_90 si_10100 ?_
          refine G_icmp_eq (tgt := 102) C dX8_readLine_93 (by decide) ⟨h.1, (by decide)⟩ (fun q => ?_) (fun q => ?_)
          · have h := h.2.1 q
            refine G_aload_n C dX8_readLine_102 rfl ?_
            refine G_callVV (K := []) (args := []) (T := TX8) (N := 6) C ly_39 rfl (Nat.le_of_ble_eq_true rfl) mo_X8_goOn wc_X8_111 rfl dX8_readLine_103 h (fun s12 h => ?_)
            refine G_aload_n C dX8_readLine_106 rfl ?_
            refine gR_X8_2 C ly_39 rfl wf_X8_21 dX8_readLine_107 ?_
            refine G_iload_n C dX8_readLine_110 rfl ?_
            refine G_callVV (K := []) (args := [.inl (s 40 (s 39 3))]) (T := TX4) (N := 5) C ly_42 rfl (Nat.le_of_ble_eq_true rfl) mo_X4_closeLine wc_X8_117 rfl dX8_readLine_111 h (fun s13 h => ?_)
            refine G_iconst C dX8_readLine_114 ?_
            exact r _ _ _ _ dX8_readLine_115 (by decide) h
          · have h := h.2.2 q
            refine G_aload_n C dX8_readLine_96 rfl ?_
            refine G_iconst C dX8_readLine_97 ?_
            refine G_callVI (K := []) (args := [.inl 1]) (T := TX8) (N := 6) C ly_39 rfl (Nat.le_of_ble_eq_true rfl) mo_X8_fail wc_X8_105 rfl dX8_readLine_98 h (fun r14 s14 h => ?_)
            exact r _ _ _ _ dX8_readLine_101 h.1 h.2
        · have h := h.2.2 q
          refine G_aload_n C dX8_readLine_67 rfl ?_
          refine G_callVV (K := []) (args := []) (T := TX8) (N := 6) C ly_39 rfl (Nat.le_of_ble_eq_true rfl) mo_X8_goOn wc_X8_111 rfl dX8_readLine_68 h (fun s15 h => ?_)
          refine G_aload_n C dX8_readLine_71 rfl ?_
          refine G_iconst C dX8_readLine_72 ?_
          refine G_callVI (K := []) (args := [.inl 0]) (T := TX8) (N := 6) C ly_39 rfl (Nat.le_of_ble_eq_true rfl) mo_X8_readCondition wc_X8_114 rfl dX8_readLine_73 h (fun r16 s16 h => ?_)
          refine G_if_ne (tgt := 81) C dX8_readLine_76 (by decide) h.1 (fun q => ?_) (fun q => ?_)
          · have h := h.2.1 q
            refine G_aload_n C dX8_readLine_81 rfl ?_
            refine gR_X8_0 C ly_39 rfl wf_X8_9 dX8_readLine_82 ?_
            refine G_aload_n C dX8_readLine_85 rfl ?_
            refine gI_X8_3 C ly_39 rfl wf_X8_25 dX8_readLine_86 ?_
            refine G_iald C ly_40 (by decide) h.1 dX8_readLine_89 ?_
            have h := h.2
            refine G_sipush C dX8_readLine_90 si_10100 ?_
            refine G_icmp_eq (tgt := 102) C dX8_readLine_93 (by decide) ⟨h.1, (by decide)⟩ (fun q => ?_) (fun q => ?_)
            · have h := h.2.1 q
              refine G_aload_n C dX8_readLine_102 rfl ?_
              refine G_callVV (K := []) (args := []) (T := TX8) (N := 6) C ly_39 rfl (Nat.le_of_ble_eq_true rfl) mo_X8_goOn wc_X8_111 rfl dX8_readLine_103 h (fun s17 h => ?_)
              refine G_aload_n C dX8_readLine_106 rfl ?_
              refine gR_X8_2 C ly_39 rfl wf_X8_21 dX8_readLine_107 ?_
              refine G_iload_n C dX8_readLine_110 rfl ?_
              refine G_callVV (K := []) (args := [.inl (s 40 (s 39 3))]) (T := TX4) (N := 5) C ly_42 rfl (Nat.le_of_ble_eq_true rfl) mo_X4_closeLine wc_X8_117 rfl dX8_readLine_111 h (fun s18 h => ?_)
              refine G_iconst C dX8_readLine_114 ?_
              exact r _ _ _ _ dX8_readLine_115 (by decide) h
            · have h := h.2.2 q
              refine G_aload_n C dX8_readLine_96 rfl ?_
              refine G_iconst C dX8_readLine_97 ?_
              refine G_callVI (K := []) (args := [.inl 1]) (T := TX8) (N := 6) C ly_39 rfl (Nat.le_of_ble_eq_true rfl) mo_X8_fail wc_X8_105 rfl dX8_readLine_98 h (fun r19 s19 h => ?_)
              exact r _ _ _ _ dX8_readLine_101 h.1 h.2
          · have h := h.2.2 q
            refine G_iconst C dX8_readLine_79 ?_
            exact r _ _ _ _ dX8_readLine_80 (by decide) h
      · have h := h.2.2 q
        refine G_aload_n C dX8_readLine_42 rfl ?_
        refine G_iconst C dX8_readLine_43 ?_
        refine G_callVI (K := []) (args := [.inl 3]) (T := TX8) (N := 6) C ly_39 rfl (Nat.le_of_ble_eq_true rfl) mo_X8_fail wc_X8_105 rfl dX8_readLine_44 h (fun r20 s20 h => ?_)
        exact r _ _ _ _ dX8_readLine_47 h.1 h.2
    · have h := h.2.2 q
      refine G_aload_n C dX8_readLine_24 rfl ?_
      refine G_iconst C dX8_readLine_25 ?_
      refine G_callVI (K := []) (args := [.inl 1]) (T := TX8) (N := 6) C ly_39 rfl (Nat.le_of_ble_eq_true rfl) mo_X8_fail wc_X8_105 rfl dX8_readLine_26 h (fun r21 s21 h => ?_)
      exact r _ _ _ _ dX8_readLine_29 h.1 h.2
set_option maxRecDepth 20000 in
theorem kb_X9_isSmallLetter_0 {X : Cx} {d : Nat} {P : Int → Sto → Prop} (C : Ok LY X RX9 cX9_isSmallLetter 1 d) (r : RetZ LY X cX9_isSmallLetter P) {v0 : Int} {s : Sto} (h : ((rg v0) ∧ ((v0 < 97 → P 0 s) ∧ (97 ≤ v0 → ((rg v0) ∧ ((122 < v0 → P 0 s) ∧ (v0 ≤ 122 → P 1 s))))))) : G LY X 0 [iv v0] [] s := by
  refine G_iload_n C dX9_isSmallLetter_0 rfl ?_
  refine G_bipush C dX9_isSmallLetter_1 bi_97 ?_
  refine G_icmp_lt (tgt := 16) C dX9_isSmallLetter_3 (by decide) ⟨h.1, (by decide)⟩ (fun q => ?_) (fun q => ?_)
  · have h := h.2.1 q
    refine G_iconst C dX9_isSmallLetter_16 ?_
    exact r _ _ _ _ dX9_isSmallLetter_17 (by decide) h
  · have h := h.2.2 q
    refine G_iload_n C dX9_isSmallLetter_6 rfl ?_
    refine G_bipush C dX9_isSmallLetter_7 bi_122 ?_
    refine G_icmp_gt (tgt := 16) C dX9_isSmallLetter_9 (by decide) ⟨h.1, (by decide)⟩ (fun q => ?_) (fun q => ?_)
    · have h := h.2.1 q
      refine G_iconst C dX9_isSmallLetter_16 ?_
      exact r _ _ _ _ dX9_isSmallLetter_17 (by decide) h
    · have h := h.2.2 q
      refine G_iconst C dX9_isSmallLetter_12 ?_
      refine G_goto (tgt := 17) C dX9_isSmallLetter_13 (by decide) ?_
      exact r _ _ _ _ dX9_isSmallLetter_17 (by decide) h
set_option maxRecDepth 20000 in
theorem kb_X5_nameGroup_0 {X : Cx} {d : Nat} {P : Int → Sto → Prop} (C : Ok LY X RX5 cX5_nameGroup 2 d) (r : RetI LY X cX5_nameGroup P) {v0 v1 : Int} {s : Sto} (h : P (xshl v0 (5 * (5 - v1))) s) : G LY X 0 [iv v0, iv v1] [] s := by
  refine G_iload_n C dX5_nameGroup_0 rfl ?_
  refine G_iconst C dX5_nameGroup_1 ?_
  refine G_iconst C dX5_nameGroup_2 ?_
  refine G_iload_n C dX5_nameGroup_3 rfl ?_
  refine G_isub C dX5_nameGroup_4 ?_
  refine G_imul C dX5_nameGroup_5 ?_
  refine G_ishl C dX5_nameGroup_6 ?_
  exact r _ _ _ _ dX5_nameGroup_7 h
set_option maxRecDepth 20000 in
theorem kb_X5_nameLetter_0 {X : Cx} {d : Nat} {P : Int → Sto → Prop} (C : Ok LY X RX5 cX5_nameLetter 2 d) (r : RetI LY X cX5_nameLetter P) {v0 v1 : Int} {s : Sto} (h : P ((xand (xshr v0 (5 * (5 - v1))) 31) - 1) s) : G LY X 0 [iv v0, iv v1] [] s := by
  refine G_iload_n C dX5_nameLetter_0 rfl ?_
  refine G_iconst C dX5_nameLetter_1 ?_
  refine G_iconst C dX5_nameLetter_2 ?_
  refine G_iload_n C dX5_nameLetter_3 rfl ?_
  refine G_isub C dX5_nameLetter_4 ?_
  refine G_imul C dX5_nameLetter_5 ?_
  refine G_ishr C dX5_nameLetter_6 ?_
  refine G_bipush C dX5_nameLetter_7 bi_31 ?_
  refine G_iand C dX5_nameLetter_9 ?_
  refine G_iconst C dX5_nameLetter_10 ?_
  refine G_isub C dX5_nameLetter_11 ?_
  exact r _ _ _ _ dX5_nameLetter_12 h
set_option maxRecDepth 20000 in
theorem kb_X7_rankLetters_0 {X : Cx} {d : Nat} {P : Sto → Prop} (C : Ok LY X RX7 cX7_rankLetters 6 d) (r : RetV LY X cX7_rankLetters P) {v2 : Int} {s : Sto} (h : G LY X 13 [rv 46, rv 3, iv v2, iv (s 4 0), iv (s 3 0), none] [] s) : G LY X 0 [rv 46, rv 3, iv v2, none, none, none] [] s := by
  refine G_aload_n C dX7_rankLetters_0 rfl ?_
  refine gR_X2_4 C ly_3 rfl wf_X7_69 dX7_rankLetters_1 ?_
  refine G_iconst C dX7_rankLetters_4 ?_
  refine G_iald C ly_4 (by decide) (by decide) dX7_rankLetters_5 ?_
  refine G_istore_n (L' := [rv 46, rv 3, iv v2, iv (s 4 0), none, none]) C dX7_rankLetters_6 (by decide) rfl ?_
  refine G_aload_n C dX7_rankLetters_7 rfl ?_
  refine gI_X2_0 C ly_3 rfl wf_X7_72 dX7_rankLetters_8 ?_
  refine G_istore (L' := [rv 46, rv 3, iv v2, iv (s 4 0), iv (s 3 0), none]) C dX7_rankLetters_11 (by decide) rfl ?_
  exact h
set_option maxRecDepth 20000 in
theorem kb_X7_rankLetters_13 {X : Cx} {d : Nat} {P : Sto → Prop} (C : Ok LY X RX7 cX7_rankLetters 6 d) (r : RetV LY X cX7_rankLetters P) {v2 v3 v4 : Int} {s : Sto} (h : ((rg v4) ∧ ((26 ≤ v4 → ((rg v3) ∧ ((v3 ≠ 1 → G LY X 81 [rv 46, rv 3, iv v2, iv v3, iv 0, iv 0] [] s) ∧ (v3 = 1 → G LY X 81 [rv 46, rv 3, iv v2, iv v3, iv (26 - (s 3 0)), iv 0] [] s)))) ∧ (v4 < 26 → ((rg v3) ∧ ((v3 ≠ 2 → ((rg v3) ∧ ((v3 ≠ 1 → ((0 ≤ v4 ∧ v4 < 26) ∧ (∀ s1 : Sto, s1 = up s 47 v4 ((v4 + 1) - 0) → G LY X 13 [rv 46, rv 3, iv v2, iv v3, iv (v4 + 1), none] [] s1))) ∧ (v3 = 1 → ((0 ≤ v4 ∧ v4 < 26) ∧ (∀ s2 : Sto, s2 = up s 47 v4 ((v4 + 1) - (s 3 0)) → G LY X 13 [rv 46, rv 3, iv v2, iv v3, iv (v4 + 1), none] [] s2)))))) ∧ (v3 = 2 → ((0 ≤ v4 ∧ v4 < 26) ∧ (∀ s3 : Sto, s3 = up s 47 v4 (-1) → G LY X 13 [rv 46, rv 3, iv v2, iv v3, iv (v4 + 1), none] [] s3))))))))) : G LY X 13 [rv 46, rv 3, iv v2, iv v3, iv v4, none] [] s := by
  refine G_iload C dX7_rankLetters_13 rfl ?_
  refine G_bipush C dX7_rankLetters_15 bi_26 ?_
  refine G_icmp_ge (tgt := 60) C dX7_rankLetters_17 (by decide) ⟨h.1, (by decide)⟩ (fun q => ?_) (fun q => ?_)
  · have h := h.2.1 q
    refine G_iload_n C dX7_rankLetters_60 rfl ?_
    refine G_iconst C dX7_rankLetters_61 ?_
    refine G_icmp_ne (tgt := 75) C dX7_rankLetters_62 (by decide) ⟨h.1, (by decide)⟩ (fun q => ?_) (fun q => ?_)
    · have h := h.2.1 q
      refine G_iconst C dX7_rankLetters_75 ?_
      refine G_istore (L' := [rv 46, rv 3, iv v2, iv v3, iv 0, none]) C dX7_rankLetters_76 (by decide) rfl ?_
      refine G_iconst C dX7_rankLetters_78 ?_
      refine G_istore (L' := [rv 46, rv 3, iv v2, iv v3, iv 0, iv 0]) C dX7_rankLetters_79 (by decide) rfl ?_
      exact h
    · have h := h.2.2 q
      refine G_bipush C dX7_rankLetters_65 bi_26 ?_
      refine G_aload_n C dX7_rankLetters_67 rfl ?_
      refine gI_X2_0 C ly_3 rfl wf_X7_72 dX7_rankLetters_68 ?_
      refine G_isub C dX7_rankLetters_71 ?_
      refine G_goto (tgt := 76) C dX7_rankLetters_72 (by decide) ?_
      refine G_istore (L' := [rv 46, rv 3, iv v2, iv v3, iv (26 - (s 3 0)), none]) C dX7_rankLetters_76 (by decide) rfl ?_
      refine G_iconst C dX7_rankLetters_78 ?_
      refine G_istore (L' := [rv 46, rv 3, iv v2, iv v3, iv (26 - (s 3 0)), iv 0]) C dX7_rankLetters_79 (by decide) rfl ?_
      exact h
  · have h := h.2.2 q
    refine G_aload_n C dX7_rankLetters_20 rfl ?_
    refine gR_X7_0 C ly_46 rfl wf_X7_9 dX7_rankLetters_21 ?_
    refine G_iload C dX7_rankLetters_24 rfl ?_
    refine G_iload_n C dX7_rankLetters_26 rfl ?_
    refine G_iconst C dX7_rankLetters_27 ?_
    refine G_icmp_ne (tgt := 35) C dX7_rankLetters_28 (by decide) ⟨h.1, (by decide)⟩ (fun q => ?_) (fun q => ?_)
    · have h := h.2.1 q
      refine G_iload C dX7_rankLetters_35 rfl ?_
      refine G_iconst C dX7_rankLetters_37 ?_
      refine G_iadd C dX7_rankLetters_38 ?_
      refine G_iload_n C dX7_rankLetters_39 rfl ?_
      refine G_iconst C dX7_rankLetters_40 ?_
      refine G_icmp_ne (tgt := 51) C dX7_rankLetters_41 (by decide) ⟨h.1, (by decide)⟩ (fun q => ?_) (fun q => ?_)
      · have h := h.2.1 q
        refine G_iconst C dX7_rankLetters_51 ?_
        refine G_isub C dX7_rankLetters_52 ?_
        refine G_iast C ly_47 (by decide) h.1 dX7_rankLetters_53 ?_
        have h := h.2
        have h := h _ rfl
        obtain ⟨s1, e1⟩ : ∃ z, z = up s 47 v4 ((v4 + 1) - 0) := ⟨_, rfl⟩
        rw [← e1] at h ⊢
        refine G_iinc (L' := [rv 46, rv 3, iv v2, iv v3, iv (v4 + 1), none]) C dX7_rankLetters_54 (by decide) rfl rfl ?_
        refine G_goto (tgt := 13) C dX7_rankLetters_57 (by decide) ?_
        exact h
      · have h := h.2.2 q
        refine G_aload_n C dX7_rankLetters_44 rfl ?_
        refine gI_X2_0 C ly_3 rfl wf_X7_72 dX7_rankLetters_45 ?_
        refine G_goto (tgt := 52) C dX7_rankLetters_48 (by decide) ?_
        refine G_isub C dX7_rankLetters_52 ?_
        refine G_iast C ly_47 (by decide) h.1 dX7_rankLetters_53 ?_
        have h := h.2
        have h := h _ rfl
        obtain ⟨s2, e2⟩ : ∃ z, z = up s 47 v4 ((v4 + 1) - (s 3 0)) := ⟨_, rfl⟩
        rw [← e2] at h ⊢
        refine G_iinc (L' := [rv 46, rv 3, iv v2, iv v3, iv (v4 + 1), none]) C dX7_rankLetters_54 (by decide) rfl rfl ?_
        refine G_goto (tgt := 13) C dX7_rankLetters_57 (by decide) ?_
        exact h
    · have h := h.2.2 q
      refine G_iconst C dX7_rankLetters_31 ?_
      refine G_goto (tgt := 53) C dX7_rankLetters_32 (by decide) ?_
      refine G_iast C ly_47 (by decide) h.1 dX7_rankLetters_53 ?_
      have h := h.2
      have h := h _ rfl
      obtain ⟨s3, e3⟩ : ∃ z, z = up s 47 v4 (-1) := ⟨_, rfl⟩
      rw [← e3] at h ⊢
      refine G_iinc (L' := [rv 46, rv 3, iv v2, iv v3, iv (v4 + 1), none]) C dX7_rankLetters_54 (by decide) rfl rfl ?_
      refine G_goto (tgt := 13) C dX7_rankLetters_57 (by decide) ?_
      exact h
set_option maxRecDepth 20000 in
theorem kb_X7_rankLetters_81 {X : Cx} {d : Nat} {P : Sto → Prop} (C : Ok LY X RX7 cX7_rankLetters 6 d) (r : RetV LY X cX7_rankLetters P) {v2 v3 v4 v5 : Int} {s : Sto} (h : ((rg v5 ∧ rg (s 3 0)) ∧ (((s 3 0) ≤ v5 → P s) ∧ (v5 < (s 3 0) → (CallI LY d MX5_orderLetter [.inl v2, .inl (s 3 0), .inl v5] s (fun r1 s1 => ((0 ≤ r1 ∧ r1 < 26) ∧ (∀ s2 : Sto, s2 = up s1 47 r1 ((v4 + v5) + 1) → G LY X 81 [rv 46, rv 3, iv v2, iv v3, iv v4, iv (v5 + 1)] [] s2)))))))) : G LY X 81 [rv 46, rv 3, iv v2, iv v3, iv v4, iv v5] [] s := by
  refine G_iload C dX7_rankLetters_81 rfl ?_
  refine G_aload_n C dX7_rankLetters_83 rfl ?_
  refine gI_X2_0 C ly_3 rfl wf_X7_72 dX7_rankLetters_84 ?_
  refine G_icmp_ge (tgt := 118) C dX7_rankLetters_87 (by decide) ⟨h.1.1, h.1.2⟩ (fun q => ?_) (fun q => ?_)
  · have h := h.2.1 q
    exact r _ _ _ dX7_rankLetters_118 h
  · have h := h.2.2 q
    refine G_aload_n C dX7_rankLetters_90 rfl ?_
    refine gR_X7_0 C ly_46 rfl wf_X7_9 dX7_rankLetters_91 ?_
    refine G_iload_n C dX7_rankLetters_94 rfl ?_
    refine G_aload_n C dX7_rankLetters_95 rfl ?_
    refine gI_X2_0 C ly_3 rfl wf_X7_72 dX7_rankLetters_96 ?_
    refine G_iload C dX7_rankLetters_99 rfl ?_
    refine G_callSI (K := [.inr 47]) (args := [.inl v2, .inl (s 3 0), .inl v5]) C (Nat.le_of_ble_eq_true rfl) mo_X5_orderLetter wc_X7_75 rfl dX7_rankLetters_101 h (fun r1 s1 h => ?_)
    refine G_iload C dX7_rankLetters_104 rfl ?_
    refine G_iload C dX7_rankLetters_106 rfl ?_
    refine G_iadd C dX7_rankLetters_108 ?_
    refine G_iconst C dX7_rankLetters_109 ?_
    refine G_iadd C dX7_rankLetters_110 ?_
    refine G_iast C ly_47 (by decide) h.1 dX7_rankLetters_111 ?_
    have h := h.2
    have h := h _ rfl
    obtain ⟨s2, e2⟩ : ∃ z, z = up s1 47 r1 ((v4 + v5) + 1) := ⟨_, rfl⟩
    rw [← e2] at h ⊢
    refine G_iinc (L' := [rv 46, rv 3, iv v2, iv v3, iv v4, iv (v5 + 1)]) C dX7_rankLetters_112 (by decide) rfl rfl ?_
    refine G_goto (tgt := 81) C dX7_rankLetters_115 (by decide) ?_
    exact h
set_option maxRecDepth 20000 in
theorem kb_X7_keyOf_0 {X : Cx} {d : Nat} {P : Int → Sto → Prop} (C : Ok LY X RX7 cX7_keyOf 6 d) (r : RetI LY X cX7_keyOf P) {v1 : Int} {s : Sto} (h : G LY X 7 [rv 46, iv v1, iv 0, iv 0, iv 0, none] [] s) : G LY X 0 [rv 46, iv v1, none, none, none, none] [] s := by
  refine G_iconst C dX7_keyOf_0 ?_
  refine G_istore_n (L' := [rv 46, iv v1, iv 0, none, none, none]) C dX7_keyOf_1 (by decide) rfl ?_
  refine G_iconst C dX7_keyOf_2 ?_
  refine G_istore_n (L' := [rv 46, iv v1, iv 0, iv 0, none, none]) C dX7_keyOf_3 (by decide) rfl ?_
  refine G_iconst C dX7_keyOf_4 ?_
  refine G_istore (L' := [rv 46, iv v1, iv 0, iv 0, iv 0, none]) C dX7_keyOf_5 (by decide) rfl ?_
  exact h
set_option maxRecDepth 20000 in
theorem kb_X7_keyOf_7 {X : Cx} {d : Nat} {P : Int → Sto → Prop} (C : Ok LY X RX7 cX7_keyOf 6 d) (r : RetI LY X cX7_keyOf P) {v1 v2 v3 v4 : Int} {s : Sto} (h : ((rg v4) ∧ ((6 ≤ v4 → P v2 s) ∧ (v4 < 6 → (CallI LY d MX5_nameLetter [.inl v1, .inl v4] s (fun r1 s1 => ((rg r1) ∧ ((r1 < 0 → G LY X 7 [rv 46, iv v1, iv v2, iv v3, iv (v4 + 1), none] [] s1) ∧ (0 ≤ r1 → ((rg r1) ∧ ((26 ≤ r1 → G LY X 7 [rv 46, iv v1, iv v2, iv v3, iv (v4 + 1), none] [] s1) ∧ (r1 < 26 → ((0 ≤ r1 ∧ r1 < 26) ∧ ((rg (s1 47 r1)) ∧ (((s1 47 r1) = (-1) → G LY X 7 [rv 46, iv v1, iv v2, iv v3, iv (v4 + 1), none] [] s1) ∧ ((s1 47 r1) ≠ (-1) → ((0 ≤ r1 ∧ r1 < 26) ∧ (CallI LY d MX5_nameGroup [.inl (s1 47 r1), .inl v3] s1 (fun r2 s2 => G LY X 7 [rv 46, iv v1, iv (xor_ v2 r2), iv (v3 + 1), iv (v4 + 1), none] [] s2))))))))))))))))))) : G LY X 7 [rv 46, iv v1, iv v2, iv v3, iv v4, none] [] s := by
  refine G_iload C dX7_keyOf_7 rfl ?_
  refine G_bipush C dX7_keyOf_9 bi_6 ?_
  refine G_icmp_ge (tgt := 68) C dX7_keyOf_11 (by decide) ⟨h.1, (by decide)⟩ (fun q => ?_) (fun q => ?_)
  · have h := h.2.1 q
    refine G_iload_n C dX7_keyOf_68 rfl ?_
    exact r _ _ _ _ dX7_keyOf_69 h
  · have h := h.2.2 q
    refine G_iload_n C dX7_keyOf_14 rfl ?_
    refine G_iload C dX7_keyOf_15 rfl ?_
    refine G_callSI (K := []) (args := [.inl v1, .inl v4]) C (Nat.le_of_ble_eq_true rfl) mo_X5_nameLetter wc_X7_81 rfl dX7_keyOf_17 h (fun r1 s1 h => ?_)
    refine G_istore (L' := [rv 46, iv v1, iv v2, iv v3, iv v4, iv r1]) C dX7_keyOf_20 (by decide) rfl ?_
    refine G_iload C dX7_keyOf_22 rfl ?_
    refine G_if_lt (tgt := 62) C dX7_keyOf_24 (by decide) h.1 (fun q => ?_) (fun q => ?_)
    · have h := h.2.1 q
      refine G_iinc (L' := [rv 46, iv v1, iv v2, iv v3, iv (v4 + 1), iv r1]) C dX7_keyOf_62 (by decide) rfl rfl ?_
      refine G_goto (tgt := 7) C dX7_keyOf_65 (by decide) ?_
      refine G_drop (i := 5) (L' := [rv 46, iv v1, iv v2, iv v3, iv (v4 + 1), none]) rfl ?_
      exact h
    · have h := h.2.2 q
      refine G_iload C dX7_keyOf_27 rfl ?_
      refine G_bipush C dX7_keyOf_29 bi_26 ?_
      refine G_icmp_ge (tgt := 62) C dX7_keyOf_31 (by decide) ⟨h.1, (by decide)⟩ (fun q => ?_) (fun q => ?_)
      · have h := h.2.1 q
        refine G_iinc (L' := [rv 46, iv v1, iv v2, iv v3, iv (v4 + 1), iv r1]) C dX7_keyOf_62 (by decide) rfl rfl ?_
        refine G_goto (tgt := 7) C dX7_keyOf_65 (by decide) ?_
        refine G_drop (i := 5) (L' := [rv 46, iv v1, iv v2, iv v3, iv (v4 + 1), none]) rfl ?_
        exact h
      · have h := h.2.2 q
        refine G_aload_n C dX7_keyOf_34 rfl ?_
        refine gR_X7_0 C ly_46 rfl wf_X7_9 dX7_keyOf_35 ?_
        refine G_iload C dX7_keyOf_38 rfl ?_
        refine G_iald C ly_47 (by decide) h.1 dX7_keyOf_40 ?_
        have h := h.2
        refine G_iconst C dX7_keyOf_41 ?_
        refine G_icmp_eq (tgt := 62) C dX7_keyOf_42 (by decide) ⟨h.1, (by decide)⟩ (fun q => ?_) (fun q => ?_)
        · have h := h.2.1 q
          refine G_iinc (L' := [rv 46, iv v1, iv v2, iv v3, iv (v4 + 1), iv r1]) C dX7_keyOf_62 (by decide) rfl rfl ?_
          refine G_goto (tgt := 7) C dX7_keyOf_65 (by decide) ?_
          refine G_drop (i := 5) (L' := [rv 46, iv v1, iv v2, iv v3, iv (v4 + 1), none]) rfl ?_
          exact h
        · have h := h.2.2 q
          refine G_iload_n C dX7_keyOf_45 rfl ?_
          refine G_aload_n C dX7_keyOf_46 rfl ?_
          refine gR_X7_0 C ly_46 rfl wf_X7_9 dX7_keyOf_47 ?_
          refine G_iload C dX7_keyOf_50 rfl ?_
          refine G_iald C ly_47 (by decide) h.1 dX7_keyOf_52 ?_
          have h := h.2
          refine G_iload_n C dX7_keyOf_53 rfl ?_
          refine G_callSI (K := [.inl v2]) (args := [.inl (s1 47 r1), .inl v3]) C (Nat.le_of_ble_eq_true rfl) mo_X5_nameGroup wc_X7_84 rfl dX7_keyOf_54 h (fun r2 s2 h => ?_)
          refine G_ior C dX7_keyOf_57 ?_
          refine G_istore_n (L' := [rv 46, iv v1, iv (xor_ v2 r2), iv v3, iv v4, iv r1]) C dX7_keyOf_58 (by decide) rfl ?_
          refine G_iinc (L' := [rv 46, iv v1, iv (xor_ v2 r2), iv (v3 + 1), iv v4, iv r1]) C dX7_keyOf_59 (by decide) rfl rfl ?_
          refine G_iinc (L' := [rv 46, iv v1, iv (xor_ v2 r2), iv (v3 + 1), iv (v4 + 1), iv r1]) C dX7_keyOf_62 (by decide) rfl rfl ?_
          refine G_goto (tgt := 7) C dX7_keyOf_65 (by decide) ?_
          refine G_drop (i := 5) (L' := [rv 46, iv v1, iv (xor_ v2 r2), iv (v3 + 1), iv (v4 + 1), none]) rfl ?_
          exact h
set_option maxRecDepth 20000 in
theorem kb_X7_isAhead_0 {X : Cx} {d : Nat} {P : Int → Sto → Prop} (C : Ok LY X RX7 cX7_isAhead 7 d) (r : RetZ LY X cX7_isAhead P) {v2 v3 : Int} {s : Sto} (h : ((0 ≤ v2 ∧ v2 < 20) ∧ ((0 ≤ v3 ∧ v3 < 20) ∧ ((rg (s 48 v2) ∧ rg (s 48 v3)) ∧ (((s 48 v2) = (s 48 v3) → ((rg (s 4 1)) ∧ (((s 4 1) ≠ 0 → ((rg (s 4 1)) ∧ (((s 4 1) ≠ 1 → ((0 ≤ v2 ∧ v2 < 20) ∧ ((rg (s 4 1)) ∧ (((s 4 1) ≠ 0 → ((rg (s 4 1)) ∧ (((s 4 1) ≠ 1 → ((0 ≤ v3 ∧ v3 < 20) ∧ ((rg (s 9 v2) ∧ rg (s 9 v3)) ∧ (((s 9 v2) ≠ (s 9 v3) → ((rg (s 9 v2) ∧ rg (s 9 v3)) ∧ (((s 9 v2) ≤ (s 9 v3) → P 0 s) ∧ ((s 9 v3) < (s 9 v2) → P 1 s)))) ∧ ((s 9 v2) = (s 9 v3) → ((rg v2 ∧ rg v3) ∧ ((v3 ≤ v2 → P 0 s) ∧ (v2 < v3 → P 1 s)))))))) ∧ ((s 4 1) = 1 → ((0 ≤ v3 ∧ v3 < 20) ∧ ((rg (s 9 v2) ∧ rg (s 8 v3)) ∧ (((s 9 v2) ≠ (s 8 v3) → ((rg (s 9 v2) ∧ rg (s 8 v3)) ∧ (((s 9 v2) ≤ (s 8 v3) → P 0 s) ∧ ((s 8 v3) < (s 9 v2) → P 1 s)))) ∧ ((s 9 v2) = (s 8 v3) → ((rg v2 ∧ rg v3) ∧ ((v3 ≤ v2 → P 0 s) ∧ (v2 < v3 → P 1 s))))))))))) ∧ ((s 4 1) = 0 → ((rg (s 9 v2)) ∧ (((s 9 v2) ≠ 0 → ((rg (s 9 v2)) ∧ (((s 9 v2) ≤ 0 → P 0 s) ∧ (0 < (s 9 v2) → P 1 s)))) ∧ ((s 9 v2) = 0 → ((rg v2 ∧ rg v3) ∧ ((v3 ≤ v2 → P 0 s) ∧ (v2 < v3 → P 1 s))))))))))) ∧ ((s 4 1) = 1 → ((0 ≤ v2 ∧ v2 < 20) ∧ ((rg (s 4 1)) ∧ (((s 4 1) ≠ 0 → ((rg (s 4 1)) ∧ (((s 4 1) ≠ 1 → ((0 ≤ v3 ∧ v3 < 20) ∧ ((rg (s 8 v2) ∧ rg (s 9 v3)) ∧ (((s 8 v2) ≠ (s 9 v3) → ((rg (s 8 v2) ∧ rg (s 9 v3)) ∧ (((s 8 v2) ≤ (s 9 v3) → P 0 s) ∧ ((s 9 v3) < (s 8 v2) → P 1 s)))) ∧ ((s 8 v2) = (s 9 v3) → ((rg v2 ∧ rg v3) ∧ ((v3 ≤ v2 → P 0 s) ∧ (v2 < v3 → P 1 s)))))))) ∧ ((s 4 1) = 1 → ((0 ≤ v3 ∧ v3 < 20) ∧ ((rg (s 8 v2) ∧ rg (s 8 v3)) ∧ (((s 8 v2) ≠ (s 8 v3) → ((rg (s 8 v2) ∧ rg (s 8 v3)) ∧ (((s 8 v2) ≤ (s 8 v3) → P 0 s) ∧ ((s 8 v3) < (s 8 v2) → P 1 s)))) ∧ ((s 8 v2) = (s 8 v3) → ((rg v2 ∧ rg v3) ∧ ((v3 ≤ v2 → P 0 s) ∧ (v2 < v3 → P 1 s))))))))))) ∧ ((s 4 1) = 0 → ((rg (s 8 v2)) ∧ (((s 8 v2) ≠ 0 → ((rg (s 8 v2)) ∧ (((s 8 v2) ≤ 0 → P 0 s) ∧ (0 < (s 8 v2) → P 1 s)))) ∧ ((s 8 v2) = 0 → ((rg v2 ∧ rg v3) ∧ ((v3 ≤ v2 → P 0 s) ∧ (v2 < v3 → P 1 s)))))))))))))) ∧ ((s 4 1) = 0 → ((rg (s 4 1)) ∧ (((s 4 1) ≠ 0 → ((rg (s 4 1)) ∧ (((s 4 1) ≠ 1 → ((0 ≤ v3 ∧ v3 < 20) ∧ ((rg (s 9 v3)) ∧ ((0 ≠ (s 9 v3) → ((rg (s 9 v3)) ∧ ((0 ≤ (s 9 v3) → P 0 s) ∧ ((s 9 v3) < 0 → P 1 s)))) ∧ (0 = (s 9 v3) → ((rg v2 ∧ rg v3) ∧ ((v3 ≤ v2 → P 0 s) ∧ (v2 < v3 → P 1 s)))))))) ∧ ((s 4 1) = 1 → ((0 ≤ v3 ∧ v3 < 20) ∧ ((rg (s 8 v3)) ∧ ((0 ≠ (s 8 v3) → ((rg (s 8 v3)) ∧ ((0 ≤ (s 8 v3) → P 0 s) ∧ ((s 8 v3) < 0 → P 1 s)))) ∧ (0 = (s 8 v3) → ((rg v2 ∧ rg v3) ∧ ((v3 ≤ v2 → P 0 s) ∧ (v2 < v3 → P 1 s))))))))))) ∧ ((s 4 1) = 0 → ((rg v2 ∧ rg v3) ∧ ((v3 ≤ v2 → P 0 s) ∧ (v2 < v3 → P 1 s)))))))))) ∧ ((s 48 v2) ≠ (s 48 v3) → ((0 ≤ v2 ∧ v2 < 20) ∧ ((0 ≤ v3 ∧ v3 < 20) ∧ ((rg (s 48 v2) ∧ rg (s 48 v3)) ∧ (((s 48 v3) ≤ (s 48 v2) → P 0 s) ∧ ((s 48 v2) < (s 48 v3) → P 1 s))))))))))) : G LY X 0 [rv 46, rv 3, iv v2, iv v3, none, none, none] [] s := by
  refine G_aload_n C dX7_isAhead_0 rfl ?_
  refine gR_X7_1 C ly_46 rfl wf_X7_15 dX7_isAhead_1 ?_
  refine G_iload_n C dX7_isAhead_4 rfl ?_
  refine G_iald C ly_48 (by decide) h.1 dX7_isAhead_5 ?_
  have h := h.2
  refine G_aload_n C dX7_isAhead_6 rfl ?_
  refine gR_X7_1 C ly_46 rfl wf_X7_15 dX7_isAhead_7 ?_
  refine G_iload_n C dX7_isAhead_10 rfl ?_
  refine G_iald C ly_48 (by decide) h.1 dX7_isAhead_11 ?_
  have h := h.2
  refine G_icmp_eq (tgt := 36) C dX7_isAhead_12 (by decide) ⟨h.1.1, h.1.2⟩ (fun q => ?_) (fun q => ?_)
  · have h := h.2.1 q
    refine G_aload_n C dX7_isAhead_36 rfl ?_
    refine gR_X2_4 C ly_3 rfl wf_X7_69 dX7_isAhead_37 ?_
    refine G_iconst C dX7_isAhead_40 ?_
    refine G_iald C ly_4 (by decide) (by decide) dX7_isAhead_41 ?_
    refine G_istore (L' := [rv 46, rv 3, iv v2, iv v3, iv (s 4 1), none, none]) C dX7_isAhead_42 (by decide) rfl ?_
    refine G_iload C dX7_isAhead_44 rfl ?_
    refine G_if_ne (tgt := 53) C dX7_isAhead_46 (by decide) h.1 (fun q => ?_) (fun q => ?_)
    · have h := h.2.1 q
      refine G_iload C dX7_isAhead_53 rfl ?_
      refine G_iconst C dX7_isAhead_55 ?_
      refine G_icmp_ne (tgt := 71) C dX7_isAhead_56 (by decide) ⟨h.1, (by decide)⟩ (fun q => ?_) (fun q => ?_)
      · have h := h.2.1 q
        refine G_aload_n C dX7_isAhead_71 rfl ?_
        refine gR_X2_5 C ly_3 rfl wf_X7_27 dX7_isAhead_72 ?_
        refine gR_X6_4 C ly_5 rfl wf_X7_90 dX7_isAhead_75 ?_
        refine G_iload_n C dX7_isAhead_78 rfl ?_
        refine G_iald C ly_9 (by decide) h.1 dX7_isAhead_79 ?_
        have h := h.2
        refine G_istore (L' := [rv 46, rv 3, iv v2, iv v3, iv (s 4 1), iv (s 9 v2), none]) C dX7_isAhead_80 (by decide) rfl ?_
        refine G_iload C dX7_isAhead_82 rfl ?_
        refine G_if_ne (tgt := 91) C dX7_isAhead_84 (by decide) h.1 (fun q => ?_) (fun q => ?_)
        · have h := h.2.1 q
          refine G_iload C dX7_isAhead_91 rfl ?_
          refine G_iconst C dX7_isAhead_93 ?_
          refine G_icmp_ne (tgt := 109) C dX7_isAhead_94 (by decide) ⟨h.1, (by decide)⟩ (fun q => ?_) (fun q => ?_)
          · have h := h.2.1 q
            refine G_aload_n C dX7_isAhead_109 rfl ?_
            refine gR_X2_5 C ly_3 rfl wf_X7_27 dX7_isAhead_110 ?_
            refine gR_X6_4 C ly_5 rfl wf_X7_90 dX7_isAhead_113 ?_
            refine G_iload_n C dX7_isAhead_116 rfl ?_
            refine G_iald C ly_9 (by decide) h.1 dX7_isAhead_117 ?_
            have h := h.2
            refine G_istore (L' := [rv 46, rv 3, iv v2, iv v3, iv (s 4 1), iv (s 9 v2), iv (s 9 v3)]) C dX7_isAhead_118 (by decide) rfl ?_
            refine G_iload C dX7_isAhead_120 rfl ?_
            refine G_iload C dX7_isAhead_122 rfl ?_
            refine G_icmp_ne (tgt := 140) C dX7_isAhead_124 (by decide) ⟨h.1.1, h.1.2⟩ (fun q => ?_) (fun q => ?_)
            · have h := h.2.1 q
              refine G_iload C dX7_isAhead_140 rfl ?_
              refine G_iload C dX7_isAhead_142 rfl ?_
              refine G_icmp_le (tgt := 151) C dX7_isAhead_144 (by decide) ⟨h.1.1, h.1.2⟩ (fun q => ?_) (fun q => ?_)
              · have h := h.2.1 q
                refine G_iconst C dX7_isAhead_151 ?_
                exact r _ _ _ _ dX7_isAhead_152 (by decide) h
              · have h := h.2.2 q
                refine G_iconst C dX7_isAhead_147 ?_
                refine G_goto (tgt := 152) C dX7_isAhead_148 (by decide) ?_
                exact r _ _ _ _ dX7_isAhead_152 (by decide) h
            · have h := h.2.2 q
              refine G_iload_n C dX7_isAhead_127 rfl ?_
              refine G_iload_n C dX7_isAhead_128 rfl ?_
              refine G_icmp_ge (tgt := 136) C dX7_isAhead_129 (by decide) ⟨h.1.1, h.1.2⟩ (fun q => ?_) (fun q => ?_)
              · have h := h.2.1 q
                refine G_iconst C dX7_isAhead_136 ?_
                refine G_goto (tgt := 152) C dX7_isAhead_137 (by decide) ?_
                exact r _ _ _ _ dX7_isAhead_152 (by decide) h
              · have h := h.2.2 q
                refine G_iconst C dX7_isAhead_132 ?_
                refine G_goto (tgt := 152) C dX7_isAhead_133 (by decide) ?_
                exact r _ _ _ _ dX7_isAhead_152 (by decide) h
          · have h := h.2.2 q
            refine G_aload_n C dX7_isAhead_97 rfl ?_
            refine gR_X2_5 C ly_3 rfl wf_X7_27 dX7_isAhead_98 ?_
            refine gR_X6_3 C ly_5 rfl wf_X7_87 dX7_isAhead_101 ?_
            refine G_iload_n C dX7_isAhead_104 rfl ?_
            refine G_iald C ly_8 (by decide) h.1 dX7_isAhead_105 ?_
            have h := h.2
            refine G_goto (tgt := 118) C dX7_isAhead_106 (by decide) ?_
            refine G_istore (L' := [rv 46, rv 3, iv v2, iv v3, iv (s 4 1), iv (s 9 v2), iv (s 8 v3)]) C dX7_isAhead_118 (by decide) rfl ?_
            refine G_iload C dX7_isAhead_120 rfl ?_
            refine G_iload C dX7_isAhead_122 rfl ?_
            refine G_icmp_ne (tgt := 140) C dX7_isAhead_124 (by decide) ⟨h.1.1, h.1.2⟩ (fun q => ?_) (fun q => ?_)
            · have h := h.2.1 q
              refine G_iload C dX7_isAhead_140 rfl ?_
              refine G_iload C dX7_isAhead_142 rfl ?_
              refine G_icmp_le (tgt := 151) C dX7_isAhead_144 (by decide) ⟨h.1.1, h.1.2⟩ (fun q => ?_) (fun q => ?_)
              · have h := h.2.1 q
                refine G_iconst C dX7_isAhead_151 ?_
                exact r _ _ _ _ dX7_isAhead_152 (by decide) h
              · have h := h.2.2 q
                refine G_iconst C dX7_isAhead_147 ?_
                refine G_goto (tgt := 152) C dX7_isAhead_148 (by decide) ?_
                exact r _ _ _ _ dX7_isAhead_152 (by decide) h
            · have h := h.2.2 q
              refine G_iload_n C dX7_isAhead_127 rfl ?_
              refine G_iload_n C dX7_isAhead_128 rfl ?_
              refine G_icmp_ge (tgt := 136) C dX7_isAhead_129 (by decide) ⟨h.1.1, h.1.2⟩ (fun q => ?_) (fun q => ?_)
              · have h := h.2.1 q
                refine G_iconst C dX7_isAhead_136 ?_
                refine G_goto (tgt := 152) C dX7_isAhead_137 (by decide) ?_
                exact r _ _ _ _ dX7_isAhead_152 (by decide) h
              · have h := h.2.2 q
                refine G_iconst C dX7_isAhead_132 ?_
                refine G_goto (tgt := 152) C dX7_isAhead_133 (by decide) ?_
                exact r _ _ _ _ dX7_isAhead_152 (by decide) h
        · have h := h.2.2 q
          refine G_iconst C dX7_isAhead_87 ?_
          refine G_goto (tgt := 118) C dX7_isAhead_88 (by decide) ?_
          refine G_istore (L' := [rv 46, rv 3, iv v2, iv v3, iv (s 4 1), iv (s 9 v2), iv 0]) C dX7_isAhead_118 (by decide) rfl ?_
          refine G_iload C dX7_isAhead_120 rfl ?_
          refine G_iload C dX7_isAhead_122 rfl ?_
          refine G_icmp_ne (tgt := 140) C dX7_isAhead_124 (by decide) ⟨h.1, (by decide)⟩ (fun q => ?_) (fun q => ?_)
          · have h := h.2.1 q
            refine G_iload C dX7_isAhead_140 rfl ?_
            refine G_iload C dX7_isAhead_142 rfl ?_
            refine G_icmp_le (tgt := 151) C dX7_isAhead_144 (by decide) ⟨h.1, (by decide)⟩ (fun q => ?_) (fun q => ?_)
            · have h := h.2.1 q
              refine G_iconst C dX7_isAhead_151 ?_
              exact r _ _ _ _ dX7_isAhead_152 (by decide) h
            · have h := h.2.2 q
              refine G_iconst C dX7_isAhead_147 ?_
              refine G_goto (tgt := 152) C dX7_isAhead_148 (by decide) ?_
              exact r _ _ _ _ dX7_isAhead_152 (by decide) h
          · have h := h.2.2 q
            refine G_iload_n C dX7_isAhead_127 rfl ?_
            refine G_iload_n C dX7_isAhead_128 rfl ?_
            refine G_icmp_ge (tgt := 136) C dX7_isAhead_129 (by decide) ⟨h.1.1, h.1.2⟩ (fun q => ?_) (fun q => ?_)
            · have h := h.2.1 q
              refine G_iconst C dX7_isAhead_136 ?_
              refine G_goto (tgt := 152) C dX7_isAhead_137 (by decide) ?_
              exact r _ _ _ _ dX7_isAhead_152 (by decide) h
            · have h := h.2.2 q
              refine G_iconst C dX7_isAhead_132 ?_
              refine G_goto (tgt := 152) C dX7_isAhead_133 (by decide) ?_
              exact r _ _ _ _ dX7_isAhead_152 (by decide) h
      · have h := h.2.2 q
        refine G_aload_n C dX7_isAhead_59 rfl ?_
        refine gR_X2_5 C ly_3 rfl wf_X7_27 dX7_isAhead_60 ?_
        refine gR_X6_3 C ly_5 rfl wf_X7_87 dX7_isAhead_63 ?_
        refine G_iload_n C dX7_isAhead_66 rfl ?_
        refine G_iald C ly_8 (by decide) h.1 dX7_isAhead_67 ?_
        have h := h.2
        refine G_goto (tgt := 80) C dX7_isAhead_68 (by decide) ?_
        refine G_istore (L' := [rv 46, rv 3, iv v2, iv v3, iv (s 4 1), iv (s 8 v2), none]) C dX7_isAhead_80 (by decide) rfl ?_
        refine G_iload C dX7_isAhead_82 rfl ?_
        refine G_if_ne (tgt := 91) C dX7_isAhead_84 (by decide) h.1 (fun q => ?_) (fun q => ?_)
        · have h := h.2.1 q
          refine G_iload C dX7_isAhead_91 rfl ?_
          refine G_iconst C dX7_isAhead_93 ?_
          refine G_icmp_ne (tgt := 109) C dX7_isAhead_94 (by decide) ⟨h.1, (by decide)⟩ (fun q => ?_) (fun q => ?_)
          · have h := h.2.1 q
            refine G_aload_n C dX7_isAhead_109 rfl ?_
            refine gR_X2_5 C ly_3 rfl wf_X7_27 dX7_isAhead_110 ?_
            refine gR_X6_4 C ly_5 rfl wf_X7_90 dX7_isAhead_113 ?_
            refine G_iload_n C dX7_isAhead_116 rfl ?_
            refine G_iald C ly_9 (by decide) h.1 dX7_isAhead_117 ?_
            have h := h.2
            refine G_istore (L' := [rv 46, rv 3, iv v2, iv v3, iv (s 4 1), iv (s 8 v2), iv (s 9 v3)]) C dX7_isAhead_118 (by decide) rfl ?_
            refine G_iload C dX7_isAhead_120 rfl ?_
            refine G_iload C dX7_isAhead_122 rfl ?_
            refine G_icmp_ne (tgt := 140) C dX7_isAhead_124 (by decide) ⟨h.1.1, h.1.2⟩ (fun q => ?_) (fun q => ?_)
            · have h := h.2.1 q
              refine G_iload C dX7_isAhead_140 rfl ?_
              refine G_iload C dX7_isAhead_142 rfl ?_
              refine G_icmp_le (tgt := 151) C dX7_isAhead_144 (by decide) ⟨h.1.1, h.1.2⟩ (fun q => ?_) (fun q => ?_)
              · have h := h.2.1 q
                refine G_iconst C dX7_isAhead_151 ?_
                exact r _ _ _ _ dX7_isAhead_152 (by decide) h
              · have h := h.2.2 q
                refine G_iconst C dX7_isAhead_147 ?_
                refine G_goto (tgt := 152) C dX7_isAhead_148 (by decide) ?_
                exact r _ _ _ _ dX7_isAhead_152 (by decide) h
            · have h := h.2.2 q
              refine G_iload_n C dX7_isAhead_127 rfl ?_
              refine G_iload_n C dX7_isAhead_128 rfl ?_
              refine G_icmp_ge (tgt := 136) C dX7_isAhead_129 (by decide) ⟨h.1.1, h.1.2⟩ (fun q => ?_) (fun q => ?_)
              · have h := h.2.1 q
                refine G_iconst C dX7_isAhead_136 ?_
                refine G_goto (tgt := 152) C dX7_isAhead_137 (by decide) ?_
                exact r _ _ _ _ dX7_isAhead_152 (by decide) h
              · have h := h.2.2 q
                refine G_iconst C dX7_isAhead_132 ?_
                refine G_goto (tgt := 152) C dX7_isAhead_133 (by decide) ?_
                exact r _ _ _ _ dX7_isAhead_152 (by decide) h
          · have h := h.2.2 q
            refine G_aload_n C dX7_isAhead_97 rfl ?_
            refine gR_X2_5 C ly_3 rfl wf_X7_27 dX7_isAhead_98 ?_
            refine gR_X6_3 C ly_5 rfl wf_X7_87 dX7_isAhead_101 ?_
            refine G_iload_n C dX7_isAhead_104 rfl ?_
            refine G_iald C ly_8 (by decide) h.1 dX7_isAhead_105 ?_
            have h := h.2
            refine G_goto (tgt := 118) C dX7_isAhead_106 (by decide) ?_
            refine G_istore (L' := [rv 46, rv 3, iv v2, iv v3, iv (s 4 1), iv (s 8 v2), iv (s 8 v3)]) C dX7_isAhead_118 (by decide) rfl ?_
            refine G_iload C dX7_isAhead_120 rfl ?_
            refine G_iload C dX7_isAhead_122 rfl ?_
            refine G_icmp_ne (tgt := 140) C dX7_isAhead_124 (by decide) ⟨h.1.1, h.1.2⟩ (fun q => ?_) (fun q => ?_)
            · have h := h.2.1 q
              refine G_iload C dX7_isAhead_140 rfl ?_
              refine G_iload C dX7_isAhead_142 rfl ?_
              refine G_icmp_le (tgt := 151) C dX7_isAhead_144 (by decide) ⟨h.1.1, h.1.2⟩ (fun q => ?_) (fun q => ?_)
              · have h := h.2.1 q
                refine G_iconst C dX7_isAhead_151 ?_
                exact r _ _ _ _ dX7_isAhead_152 (by decide) h
              · have h := h.2.2 q
                refine G_iconst C dX7_isAhead_147 ?_
                refine G_goto (tgt := 152) C dX7_isAhead_148 (by decide) ?_
                exact r _ _ _ _ dX7_isAhead_152 (by decide) h
            · have h := h.2.2 q
              refine G_iload_n C dX7_isAhead_127 rfl ?_
              refine G_iload_n C dX7_isAhead_128 rfl ?_
              refine G_icmp_ge (tgt := 136) C dX7_isAhead_129 (by decide) ⟨h.1.1, h.1.2⟩ (fun q => ?_) (fun q => ?_)
              · have h := h.2.1 q
                refine G_iconst C dX7_isAhead_136 ?_
                refine G_goto (tgt := 152) C dX7_isAhead_137 (by decide) ?_
                exact r _ _ _ _ dX7_isAhead_152 (by decide) h
              · have h := h.2.2 q
                refine G_iconst C dX7_isAhead_132 ?_
                refine G_goto (tgt := 152) C dX7_isAhead_133 (by decide) ?_
                exact r _ _ _ _ dX7_isAhead_152 (by decide) h
        · have h := h.2.2 q
          refine G_iconst C dX7_isAhead_87 ?_
          refine G_goto (tgt := 118) C dX7_isAhead_88 (by decide) ?_
          refine G_istore (L' := [rv 46, rv 3, iv v2, iv v3, iv (s 4 1), iv (s 8 v2), iv 0]) C dX7_isAhead_118 (by decide) rfl ?_
          refine G_iload C dX7_isAhead_120 rfl ?_
          refine G_iload C dX7_isAhead_122 rfl ?_
          refine G_icmp_ne (tgt := 140) C dX7_isAhead_124 (by decide) ⟨h.1, (by decide)⟩ (fun q => ?_) (fun q => ?_)
          · have h := h.2.1 q
            refine G_iload C dX7_isAhead_140 rfl ?_
            refine G_iload C dX7_isAhead_142 rfl ?_
            refine G_icmp_le (tgt := 151) C dX7_isAhead_144 (by decide) ⟨h.1, (by decide)⟩ (fun q => ?_) (fun q => ?_)
            · have h := h.2.1 q
              refine G_iconst C dX7_isAhead_151 ?_
              exact r _ _ _ _ dX7_isAhead_152 (by decide) h
            · have h := h.2.2 q
              refine G_iconst C dX7_isAhead_147 ?_
              refine G_goto (tgt := 152) C dX7_isAhead_148 (by decide) ?_
              exact r _ _ _ _ dX7_isAhead_152 (by decide) h
          · have h := h.2.2 q
            refine G_iload_n C dX7_isAhead_127 rfl ?_
            refine G_iload_n C dX7_isAhead_128 rfl ?_
            refine G_icmp_ge (tgt := 136) C dX7_isAhead_129 (by decide) ⟨h.1.1, h.1.2⟩ (fun q => ?_) (fun q => ?_)
            · have h := h.2.1 q
              refine G_iconst C dX7_isAhead_136 ?_
              refine G_goto (tgt := 152) C dX7_isAhead_137 (by decide) ?_
              exact r _ _ _ _ dX7_isAhead_152 (by decide) h
            · have h := h.2.2 q
              refine G_iconst C dX7_isAhead_132 ?_
              refine G_goto (tgt := 152) C dX7_isAhead_133 (by decide) ?_
              exact r _ _ _ _ dX7_isAhead_152 (by decide) h
    · have h := h.2.2 q
      refine G_iconst C dX7_isAhead_49 ?_
      refine G_goto (tgt := 80) C dX7_isAhead_50 (by decide) ?_
      refine G_istore (L' := [rv 46, rv 3, iv v2, iv v3, iv (s 4 1), iv 0, none]) C dX7_isAhead_80 (by decide) rfl ?_
      refine G_iload C dX7_isAhead_82 rfl ?_
      refine G_if_ne (tgt := 91) C dX7_isAhead_84 (by decide) h.1 (fun q => ?_) (fun q => ?_)
      · have h := h.2.1 q
        refine G_iload C dX7_isAhead_91 rfl ?_
        refine G_iconst C dX7_isAhead_93 ?_
        refine G_icmp_ne (tgt := 109) C dX7_isAhead_94 (by decide) ⟨h.1, (by decide)⟩ (fun q => ?_) (fun q => ?_)
        · have h := h.2.1 q
          refine G_aload_n C dX7_isAhead_109 rfl ?_
          refine gR_X2_5 C ly_3 rfl wf_X7_27 dX7_isAhead_110 ?_
          refine gR_X6_4 C ly_5 rfl wf_X7_90 dX7_isAhead_113 ?_
          refine G_iload_n C dX7_isAhead_116 rfl ?_
          refine G_iald C ly_9 (by decide) h.1 dX7_isAhead_117 ?_
          have h := h.2
          refine G_istore (L' := [rv 46, rv 3, iv v2, iv v3, iv (s 4 1), iv 0, iv (s 9 v3)]) C dX7_isAhead_118 (by decide) rfl ?_
          refine G_iload C dX7_isAhead_120 rfl ?_
          refine G_iload C dX7_isAhead_122 rfl ?_
          refine G_icmp_ne (tgt := 140) C dX7_isAhead_124 (by decide) ⟨(by decide), h.1⟩ (fun q => ?_) (fun q => ?_)
          · have h := h.2.1 q
            refine G_iload C dX7_isAhead_140 rfl ?_
            refine G_iload C dX7_isAhead_142 rfl ?_
            refine G_icmp_le (tgt := 151) C dX7_isAhead_144 (by decide) ⟨(by decide), h.1⟩ (fun q => ?_) (fun q => ?_)
            · have h := h.2.1 q
              refine G_iconst C dX7_isAhead_151 ?_
              exact r _ _ _ _ dX7_isAhead_152 (by decide) h
            · have h := h.2.2 q
              refine G_iconst C dX7_isAhead_147 ?_
              refine G_goto (tgt := 152) C dX7_isAhead_148 (by decide) ?_
              exact r _ _ _ _ dX7_isAhead_152 (by decide) h
          · have h := h.2.2 q
            refine G_iload_n C dX7_isAhead_127 rfl ?_
            refine G_iload_n C dX7_isAhead_128 rfl ?_
            refine G_icmp_ge (tgt := 136) C dX7_isAhead_129 (by decide) ⟨h.1.1, h.1.2⟩ (fun q => ?_) (fun q => ?_)
            · have h := h.2.1 q
              refine G_iconst C dX7_isAhead_136 ?_
              refine G_goto (tgt := 152) C dX7_isAhead_137 (by decide) ?_
              exact r _ _ _ _ dX7_isAhead_152 (by decide) h
            · have h := h.2.2 q
              refine G_iconst C dX7_isAhead_132 ?_
              refine G_goto (tgt := 152) C dX7_isAhead_133 (by decide) ?_
              exact r _ _ _ _ dX7_isAhead_152 (by decide) h
        · have h := h.2.2 q
          refine G_aload_n C dX7_isAhead_97 rfl ?_
          refine gR_X2_5 C ly_3 rfl wf_X7_27 dX7_isAhead_98 ?_
          refine gR_X6_3 C ly_5 rfl wf_X7_87 dX7_isAhead_101 ?_
          refine G_iload_n C dX7_isAhead_104 rfl ?_
          refine G_iald C ly_8 (by decide) h.1 dX7_isAhead_105 ?_
          have h := h.2
          refine G_goto (tgt := 118) C dX7_isAhead_106 (by decide) ?_
          refine G_istore (L' := [rv 46, rv 3, iv v2, iv v3, iv (s 4 1), iv 0, iv (s 8 v3)]) C dX7_isAhead_118 (by decide) rfl ?_
          refine G_iload C dX7_isAhead_120 rfl ?_
          refine G_iload C dX7_isAhead_122 rfl ?_
          refine G_icmp_ne (tgt := 140) C dX7_isAhead_124 (by decide) ⟨(by decide), h.1⟩ (fun q => ?_) (fun q => ?_)
          · have h := h.2.1 q
            refine G_iload C dX7_isAhead_140 rfl ?_
            refine G_iload C dX7_isAhead_142 rfl ?_
            refine G_icmp_le (tgt := 151) C dX7_isAhead_144 (by decide) ⟨(by decide), h.1⟩ (fun q => ?_) (fun q => ?_)
            · have h := h.2.1 q
              refine G_iconst C dX7_isAhead_151 ?_
              exact r _ _ _ _ dX7_isAhead_152 (by decide) h
            · have h := h.2.2 q
              refine G_iconst C dX7_isAhead_147 ?_
              refine G_goto (tgt := 152) C dX7_isAhead_148 (by decide) ?_
              exact r _ _ _ _ dX7_isAhead_152 (by decide) h
          · have h := h.2.2 q
            refine G_iload_n C dX7_isAhead_127 rfl ?_
            refine G_iload_n C dX7_isAhead_128 rfl ?_
            refine G_icmp_ge (tgt := 136) C dX7_isAhead_129 (by decide) ⟨h.1.1, h.1.2⟩ (fun q => ?_) (fun q => ?_)
            · have h := h.2.1 q
              refine G_iconst C dX7_isAhead_136 ?_
              refine G_goto (tgt := 152) C dX7_isAhead_137 (by decide) ?_
              exact r _ _ _ _ dX7_isAhead_152 (by decide) h
            · have h := h.2.2 q
              refine G_iconst C dX7_isAhead_132 ?_
              refine G_goto (tgt := 152) C dX7_isAhead_133 (by decide) ?_
              exact r _ _ _ _ dX7_isAhead_152 (by decide) h
      · have h := h.2.2 q
        refine G_iconst C dX7_isAhead_87 ?_
        refine G_goto (tgt := 118) C dX7_isAhead_88 (by decide) ?_
        refine G_istore (L' := [rv 46, rv 3, iv v2, iv v3, iv (s 4 1), iv 0, iv 0]) C dX7_isAhead_118 (by decide) rfl ?_
        refine G_iload C dX7_isAhead_120 rfl ?_
        refine G_iload C dX7_isAhead_122 rfl ?_
        refine G_icmp_ne (tgt := 140) C dX7_isAhead_124 (by decide) ⟨(by decide), (by decide)⟩ (fun q => ?_) (fun q => ?_)
        · exact absurd q (by decide)
        refine G_iload_n C dX7_isAhead_127 rfl ?_
        refine G_iload_n C dX7_isAhead_128 rfl ?_
        refine G_icmp_ge (tgt := 136) C dX7_isAhead_129 (by decide) ⟨h.1.1, h.1.2⟩ (fun q => ?_) (fun q => ?_)
        · have h := h.2.1 q
          refine G_iconst C dX7_isAhead_136 ?_
          refine G_goto (tgt := 152) C dX7_isAhead_137 (by decide) ?_
          exact r _ _ _ _ dX7_isAhead_152 (by decide) h
        · have h := h.2.2 q
          refine G_iconst C dX7_isAhead_132 ?_
          refine G_goto (tgt := 152) C dX7_isAhead_133 (by decide) ?_
          exact r _ _ _ _ dX7_isAhead_152 (by decide) h
  · have h := h.2.2 q
    refine G_aload_n C dX7_isAhead_15 rfl ?_
    refine gR_X7_1 C ly_46 rfl wf_X7_15 dX7_isAhead_16 ?_
    refine G_iload_n C dX7_isAhead_19 rfl ?_
    refine G_iald C ly_48 (by decide) h.1 dX7_isAhead_20 ?_
    have h := h.2
    refine G_aload_n C dX7_isAhead_21 rfl ?_
    refine gR_X7_1 C ly_46 rfl wf_X7_15 dX7_isAhead_22 ?_
    refine G_iload_n C dX7_isAhead_25 rfl ?_
    refine G_iald C ly_48 (by decide) h.1 dX7_isAhead_26 ?_
    have h := h.2
    refine G_icmp_ge (tgt := 34) C dX7_isAhead_27 (by decide) ⟨h.1.1, h.1.2⟩ (fun q => ?_) (fun q => ?_)
    · have h := h.2.1 q
      refine G_iconst C dX7_isAhead_34 ?_
      exact r _ _ _ _ dX7_isAhead_35 (by decide) h
    · have h := h.2.2 q
      refine G_iconst C dX7_isAhead_30 ?_
      refine G_goto (tgt := 35) C dX7_isAhead_31 (by decide) ?_
      exact r _ _ _ _ dX7_isAhead_35 (by decide) h
set_option maxRecDepth 20000 in
theorem kb_X7_share_0 {X : Cx} {d : Nat} {P : Int → Sto → Prop} (C : Ok LY X RX7 cX7_share 2 d) (r : RetI LY X cX7_share P) (h1d : 1 ≤ d) {v0 v1 : Int} {s : Sto} (h : ((rg v0) ∧ ((v0 ≤ 0 → ((rg (v0 + v1)) ∧ P (min 0 (v0 + v1)) s)) ∧ (0 < v0 → ((rg (v0 - v1)) ∧ P (max 0 (v0 - v1)) s))))) : G LY X 0 [iv v0, iv v1] [] s := by
  refine G_iload_n C dX7_share_0 rfl ?_
  refine G_if_le (tgt := 14) C dX7_share_1 (by decide) h.1 (fun q => ?_) (fun q => ?_)
  · have h := h.2.1 q
    refine G_iconst C dX7_share_14 ?_
    refine G_iload_n C dX7_share_15 rfl ?_
    refine G_iload_n C dX7_share_16 rfl ?_
    refine G_iadd C dX7_share_17 ?_
    refine G_min C ⟨(by decide), h.1⟩ h1d (Nat.le_of_ble_eq_true rfl) ws_857 mminw dX7_share_18 ?_
    have h := h.2
    exact r _ _ _ _ dX7_share_21 h
  · have h := h.2.2 q
    refine G_iconst C dX7_share_4 ?_
    refine G_iload_n C dX7_share_5 rfl ?_
    refine G_iload_n C dX7_share_6 rfl ?_
    refine G_isub C dX7_share_7 ?_
    refine G_max C ⟨(by decide), h.1⟩ h1d (Nat.le_of_ble_eq_true rfl) ws_856 mmaxw dX7_share_8 ?_
    have h := h.2
    refine G_goto (tgt := 21) C dX7_share_11 (by decide) ?_
    exact r _ _ _ _ dX7_share_21 h
