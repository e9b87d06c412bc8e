set_option maxRecDepth 20000 in
theorem kb_X12_letters_0 {X : Cx} {d : Nat} {P : Int → Sto → Prop} (C : Ok LY X RX12 cX12_letters 3 d) (r : RetZ LY X cX12_letters P) {v1 : Int} {s : Sto} (h : (∀ s1 : Sto, s1 = up s 75 0 0 → (CallI LY d MX12_isIn [.inr 75, .inl v1, .inl 2, .inl 8] s1 (fun r2 s2 => ((rg r2) ∧ ((r2 ≠ 0 → (∀ s3 : Sto, s3 = up s2 75 22 0 → (CallV LY d MX12_begins [.inr 75] s3 (fun s4 => (∀ s5 : Sto, s5 = up s4 75 9 v1 → (∀ s6 : Sto, s6 = up s5 75 4 0 → (∀ s7 : Sto, s7 = up s6 75 8 0 → (∀ s8 : Sto, s8 = up s7 75 18 0 → (∀ s9 : Sto, s9 = up s8 75 21 0 → (∀ s10 : Sto, s10 = up s9 75 30 0 → G LY X 59 [rv 75, iv v1, iv 0] [] s10)))))))))) ∧ (r2 = 0 → P 0 s2))))))) : G LY X 0 [rv 75, iv v1, none] [] s := by
  refine G_aload_n C dX12_letters_0 rfl ?_
  refine G_iconst C dX12_letters_1 ?_
  refine gP_X12_0 C ly_75 rfl wf_X12_146 dX12_letters_2 ?_
  have h := h _ rfl
  obtain ⟨s1, e1⟩ : ∃ z, z = up s 75 0 0 := ⟨_, rfl⟩
  rw [← e1] at h ⊢
  refine G_aload_n C dX12_letters_5 rfl ?_
  refine G_iload_n C dX12_letters_6 rfl ?_
  refine G_iconst C dX12_letters_7 ?_
  refine G_bipush C dX12_letters_8 bi_8 ?_
  refine G_callVI (K := []) (args := [.inl v1, .inl 2, .inl 8]) (T := TX12) (N := 72) C ly_75 rfl (Nat.le_of_ble_eq_true rfl) mo_X12_isIn wc_X12_160 rfl dX12_letters_10 h (fun r2 s2 h => ?_)
  refine G_if_ne (tgt := 18) C dX12_letters_13 (by decide) h.1 (fun q => ?_) (fun q => ?_)
  · have h := h.2.1 q
    refine G_aload_n C dX12_letters_18 rfl ?_
    refine G_iconst C dX12_letters_19 ?_
    refine gP_X12_22 C ly_75 rfl wf_X12_164 (by decide) dX12_letters_20 ?_
    have h := h _ rfl
    obtain ⟨s3, e3⟩ : ∃ z, z = up s2 75 22 0 := ⟨_, rfl⟩
    rw [← e3] at h ⊢
    refine G_aload_n C dX12_letters_23 rfl ?_
    refine G_callVV (K := []) (args := []) (T := TX12) (N := 72) C ly_75 rfl (Nat.le_of_ble_eq_true rfl) mo_X12_begins wc_X12_168 rfl dX12_letters_24 h (fun s4 h => ?_)
    refine G_aload_n C dX12_letters_27 rfl ?_
    refine G_iload_n C dX12_letters_28 rfl ?_
    refine gP_X12_9 C ly_75 rfl wf_X12_25 dX12_letters_29 ?_
    have h := h _ rfl
    obtain ⟨s5, e5⟩ : ∃ z, z = up s4 75 9 v1 := ⟨_, rfl⟩
    rw [← e5] at h ⊢
    refine G_aload_n C dX12_letters_32 rfl ?_
    refine G_iconst C dX12_letters_33 ?_
    refine gP_X12_4 C ly_75 rfl wf_X12_154 dX12_letters_34 ?_
    have h := h _ rfl
    obtain ⟨s6, e6⟩ : ∃ z, z = up s5 75 4 0 := ⟨_, rfl⟩
    rw [← e6] at h ⊢
    refine G_aload_n C dX12_letters_37 rfl ?_
    refine G_iconst C dX12_letters_38 ?_
    refine gP_X12_8 C ly_75 rfl wf_X12_171 dX12_letters_39 ?_
    have h := h _ rfl
    obtain ⟨s7, e7⟩ : ∃ z, z = up s6 75 8 0 := ⟨_, rfl⟩
    rw [← e7] at h ⊢
    refine G_aload_n C dX12_letters_42 rfl ?_
    refine G_iconst C dX12_letters_43 ?_
    refine gP_X12_18 C ly_75 rfl wf_X12_174 dX12_letters_44 ?_
    have h := h _ rfl
    obtain ⟨s8, e8⟩ : ∃ z, z = up s7 75 18 0 := ⟨_, rfl⟩
    rw [← e8] at h ⊢
    refine G_aload_n C dX12_letters_47 rfl ?_
    refine G_iconst C dX12_letters_48 ?_
    refine gP_X12_21 C ly_75 rfl wf_X12_177 dX12_letters_49 ?_
    have h := h _ rfl
    obtain ⟨s9, e9⟩ : ∃ z, z = up s8 75 21 0 := ⟨_, rfl⟩
    rw [← e9] at h ⊢
    refine G_aload_n C dX12_letters_52 rfl ?_
    refine G_iconst C dX12_letters_53 ?_
    refine gP_X12_30 C ly_75 rfl wf_X12_180 dX12_letters_54 ?_
    have h := h _ rfl
    obtain ⟨s10, e10⟩ : ∃ z, z = up s9 75 30 0 := ⟨_, rfl⟩
    rw [← e10] at h ⊢
    refine G_iconst C dX12_letters_57 ?_
    refine G_istore_n (L' := [rv 75, iv v1, iv 0]) C dX12_letters_58 (by decide) rfl ?_
    exact h
  · have h := h.2.2 q
    refine G_iconst C dX12_letters_16 ?_
    exact r _ _ _ _ dX12_letters_17 (by decide) h
set_option maxRecDepth 20000 in
theorem kb_X12_letters_59 {X : Cx} {d : Nat} {P : Int → Sto → Prop} (C : Ok LY X RX12 cX12_letters 3 d) (r : RetZ LY X cX12_letters P) {v1 v2 : Int} {s : Sto} (h : ((rg v2) ∧ ((7 ≤ v2 → G LY X 95 [rv 75, iv v1, iv 0] [] s) ∧ (v2 < 7 → ((rg v2) ∧ ((v2 ≤ 1 → ((0 ≤ v2 ∧ v2 < 7) ∧ (∀ s1 : Sto, s1 = up s 82 v2 0 → G LY X 59 [rv 75, iv v1, iv (v2 + 1)] [] s1))) ∧ (1 < v2 → ((rg v2) ∧ ((6 ≤ v2 → ((0 ≤ v2 ∧ v2 < 7) ∧ (∀ s2 : Sto, s2 = up s 82 v2 0 → G LY X 59 [rv 75, iv v1, iv (v2 + 1)] [] s2))) ∧ (v2 < 6 → ((0 ≤ v2 ∧ v2 < 7) ∧ (∀ s3 : Sto, s3 = up s 82 v2 1 → G LY X 59 [rv 75, iv v1, iv (v2 + 1)] [] s3)))))))))))) : G LY X 59 [rv 75, iv v1, iv v2] [] s := by
  refine G_iload_n C dX12_letters_59 rfl ?_
  refine G_bipush C dX12_letters_60 bi_7 ?_
  refine G_icmp_ge (tgt := 93) C dX12_letters_62 (by decide) ⟨h.1, (by decide)⟩ (fun q => ?_) (fun q => ?_)
  · have h := h.2.1 q
    refine G_iconst C dX12_letters_93 ?_
    refine G_istore_n (L' := [rv 75, iv v1, iv 0]) C dX12_letters_94 (by decide) rfl ?_
    exact h
  · have h := h.2.2 q
    refine G_aload_n C dX12_letters_65 rfl ?_
    refine gR_X12_11 C ly_75 rfl wf_X12_32 dX12_letters_66 ?_
    refine G_iload_n C dX12_letters_69 rfl ?_
    refine G_iload_n C dX12_letters_70 rfl ?_
    refine G_iconst C dX12_letters_71 ?_
    refine G_icmp_le (tgt := 85) C dX12_letters_72 (by decide) ⟨h.1, (by decide)⟩ (fun q => ?_) (fun q => ?_)
    · have h := h.2.1 q
      refine G_iconst C dX12_letters_85 ?_
      refine G_iast C ly_82 (by decide) h.1 dX12_letters_86 ?_
      have h := h.2
      have h := h _ rfl
      obtain ⟨s1, e1⟩ : ∃ z, z = up s 82 v2 0 := ⟨_, rfl⟩
      rw [← e1] at h ⊢
      refine G_iinc (L' := [rv 75, iv v1, iv (v2 + 1)]) C dX12_letters_87 (by decide) rfl rfl ?_
      refine G_goto (tgt := 59) C dX12_letters_90 (by decide) ?_
      exact h
    · have h := h.2.2 q
      refine G_iload_n C dX12_letters_75 rfl ?_
      refine G_bipush C dX12_letters_76 bi_6 ?_
      refine G_icmp_ge (tgt := 85) C dX12_letters_78 (by decide) ⟨h.1, (by decide)⟩ (fun q => ?_) (fun q => ?_)
      · have h := h.2.1 q
        refine G_iconst C dX12_letters_85 ?_
        refine G_iast C ly_82 (by decide) h.1 dX12_letters_86 ?_
        have h := h.2
        have h := h _ rfl
        obtain ⟨s2, e2⟩ : ∃ z, z = up s 82 v2 0 := ⟨_, rfl⟩
        rw [← e2] at h ⊢
        refine G_iinc (L' := [rv 75, iv v1, iv (v2 + 1)]) C dX12_letters_87 (by decide) rfl rfl ?_
        refine G_goto (tgt := 59) C dX12_letters_90 (by decide) ?_
        exact h
      · have h := h.2.2 q
        refine G_iconst C dX12_letters_81 ?_
        refine G_goto (tgt := 86) C dX12_letters_82 (by decide) ?_
        refine G_iast C ly_82 (by decide) h.1 dX12_letters_86 ?_
        have h := h.2
        have h := h _ rfl
        obtain ⟨s3, e3⟩ : ∃ z, z = up s 82 v2 1 := ⟨_, rfl⟩
        rw [← e3] at h ⊢
        refine G_iinc (L' := [rv 75, iv v1, iv (v2 + 1)]) C dX12_letters_87 (by decide) rfl rfl ?_
        refine G_goto (tgt := 59) C dX12_letters_90 (by decide) ?_
        exact h
set_option maxRecDepth 20000 in
theorem kb_X12_letters_95 {X : Cx} {d : Nat} {P : Int → Sto → Prop} (C : Ok LY X RX12 cX12_letters 3 d) (r : RetZ LY X cX12_letters P) {v1 v2 : Int} {s : Sto} (h : ((rg v2) ∧ ((6 ≤ v2 → P 1 s) ∧ (v2 < 6 → ((0 ≤ v2 ∧ v2 < 6) ∧ (∀ s1 : Sto, s1 = up s 83 v2 0 → ((0 ≤ v2 ∧ v2 < 6) ∧ (∀ s2 : Sto, s2 = up s1 84 v2 0 → ((0 ≤ v2 ∧ v2 < 6) ∧ (∀ s3 : Sto, s3 = up s2 85 v2 0 → ((0 ≤ v2 ∧ v2 < 6) ∧ (∀ s4 : Sto, s4 = up s3 86 v2 0 → ((0 ≤ v2 ∧ v2 < 6) ∧ (∀ s5 : Sto, s5 = up s4 87 v2 0 → ((0 ≤ v2 ∧ v2 < 6) ∧ (∀ s6 : Sto, s6 = up s5 88 v2 0 → G LY X 95 [rv 75, iv v1, iv (v2 + 1)] [] s6)))))))))))))))) : G LY X 95 [rv 75, iv v1, iv v2] [] s := by
  refine G_iload_n C dX12_letters_95 rfl ?_
  refine G_bipush C dX12_letters_96 bi_6 ?_
  refine G_icmp_ge (tgt := 149) C dX12_letters_98 (by decide) ⟨h.1, (by decide)⟩ (fun q => ?_) (fun q => ?_)
  · have h := h.2.1 q
    refine G_iconst C dX12_letters_149 ?_
    exact r _ _ _ _ dX12_letters_150 (by decide) h
  · have h := h.2.2 q
    refine G_aload_n C dX12_letters_101 rfl ?_
    refine gR_X12_12 C ly_75 rfl wf_X12_35 dX12_letters_102 ?_
    refine G_iload_n C dX12_letters_105 rfl ?_
    refine G_iconst C dX12_letters_106 ?_
    refine G_iast C ly_83 (by decide) h.1 dX12_letters_107 ?_
    have h := h.2
    have h := h _ rfl
    obtain ⟨s1, e1⟩ : ∃ z, z = up s 83 v2 0 := ⟨_, rfl⟩
    rw [← e1] at h ⊢
    refine G_aload_n C dX12_letters_108 rfl ?_
    refine gR_X12_13 C ly_75 rfl wf_X12_38 dX12_letters_109 ?_
    refine G_iload_n C dX12_letters_112 rfl ?_
    refine G_iconst C dX12_letters_113 ?_
    refine G_iast C ly_84 (by decide) h.1 dX12_letters_114 ?_
    have h := h.2
    have h := h _ rfl
    obtain ⟨s2, e2⟩ : ∃ z, z = up s1 84 v2 0 := ⟨_, rfl⟩
    rw [← e2] at h ⊢
    refine G_aload_n C dX12_letters_115 rfl ?_
    refine gR_X12_14 C ly_75 rfl wf_X12_41 dX12_letters_116 ?_
    refine G_iload_n C dX12_letters_119 rfl ?_
    refine G_iconst C dX12_letters_120 ?_
    refine G_iast C ly_85 (by decide) h.1 dX12_letters_121 ?_
    have h := h.2
    have h := h _ rfl
    obtain ⟨s3, e3⟩ : ∃ z, z = up s2 85 v2 0 := ⟨_, rfl⟩
    rw [← e3] at h ⊢
    refine G_aload_n C dX12_letters_122 rfl ?_
    refine gR_X12_15 C ly_75 rfl wf_X12_44 dX12_letters_123 ?_
    refine G_iload_n C dX12_letters_126 rfl ?_
    refine G_iconst C dX12_letters_127 ?_
    refine G_iast C ly_86 (by decide) h.1 dX12_letters_128 ?_
    have h := h.2
    have h := h _ rfl
    obtain ⟨s4, e4⟩ : ∃ z, z = up s3 86 v2 0 := ⟨_, rfl⟩
    rw [← e4] at h ⊢
    refine G_aload_n C dX12_letters_129 rfl ?_
    refine gR_X12_16 C ly_75 rfl wf_X12_47 dX12_letters_130 ?_
    refine G_iload_n C dX12_letters_133 rfl ?_
    refine G_iconst C dX12_letters_134 ?_
    refine G_iast C ly_87 (by decide) h.1 dX12_letters_135 ?_
    have h := h.2
    have h := h _ rfl
    obtain ⟨s5, e5⟩ : ∃ z, z = up s4 87 v2 0 := ⟨_, rfl⟩
    rw [← e5] at h ⊢
    refine G_aload_n C dX12_letters_136 rfl ?_
    refine gR_X12_17 C ly_75 rfl wf_X12_50 dX12_letters_137 ?_
    refine G_iload_n C dX12_letters_140 rfl ?_
    refine G_iconst C dX12_letters_141 ?_
    refine G_iast C ly_88 (by decide) h.1 dX12_letters_142 ?_
    have h := h.2
    have h := h _ rfl
    obtain ⟨s6, e6⟩ : ∃ z, z = up s5 88 v2 0 := ⟨_, rfl⟩
    rw [← e6] at h ⊢
    refine G_iinc (L' := [rv 75, iv v1, iv (v2 + 1)]) C dX12_letters_143 (by decide) rfl rfl ?_
    refine G_goto (tgt := 95) C dX12_letters_146 (by decide) ?_
    exact h
set_option maxRecDepth 20000 in
theorem kb_X12_person_0 {X : Cx} {d : Nat} {P : Int → Sto → Prop} (C : Ok LY X RX12 cX12_person 5 d) (r : RetI LY X cX12_person P) {v1 v2 v3 : Int} {s : Sto} (h : (∀ s1 : Sto, s1 = up s 75 0 0 → (CallI LY d MX12_takesName [.inr 75] s1 (fun r2 s2 => ((rg r2) ∧ ((r2 = 0 → P (-1) s2) ∧ (r2 ≠ 0 → (CallI LY d MX12_isIn [.inr 75, .inl v1, .inl 0, .inl 1] s2 (fun r3 s3 => ((rg r3) ∧ ((r3 = 0 → P (-1) s3) ∧ (r3 ≠ 0 → (CallI LY d MX12_isIn [.inr 75, .inl v2, .inl 0, .inl 99] s3 (fun r4 s4 => ((rg r4) ∧ ((r4 = 0 → P (-1) s4) ∧ (r4 ≠ 0 → (CallI LY d MX12_isIn [.inr 75, .inl v3, .inl 0, .inl 9999] s4 (fun r5 s5 => ((rg r5) ∧ ((r5 = 0 → P (-1) s5) ∧ (r5 ≠ 0 → ((rg (s5 75 4)) ∧ (((s5 75 4) ≠ 20 → (CallV LY d MX12_movesName [.inr 75, .inl 30, .inl (s5 75 4)] s5 (fun s6 => ((0 ≤ (s6 75 4) ∧ (s6 75 4) < 20) ∧ (∀ s7 : Sto, s7 = up s6 78 (s6 75 4) v1 → ((0 ≤ (s7 75 4) ∧ (s7 75 4) < 20) ∧ (∀ s8 : Sto, s8 = up s7 79 (s7 75 4) v2 → ((0 ≤ (s8 75 4) ∧ (s8 75 4) < 20) ∧ (∀ s9 : Sto, s9 = up s8 80 (s8 75 4) v3 → (∀ s10 : Sto, s10 = up s9 75 4 ((s9 75 4) + 1) → P ((s10 75 4) - 1) s10)))))))))) ∧ ((s5 75 4) = 20 → P (-1) s5))))))))))))))))))))))))) : G LY X 0 [rv 75, iv v1, iv v2, iv v3, none] [] s := by
  refine G_aload_n C dX12_person_0 rfl ?_
  refine G_iconst C dX12_person_1 ?_
  refine gP_X12_0 C ly_75 rfl wf_X12_146 dX12_person_2 ?_
  have h := h _ rfl
  obtain ⟨s1, e1⟩ : ∃ z, z = up s 75 0 0 := ⟨_, rfl⟩
  rw [← e1] at h ⊢
  refine G_aload_n C dX12_person_5 rfl ?_
  refine G_callVI (K := []) (args := []) (T := TX12) (N := 72) C ly_75 rfl (Nat.le_of_ble_eq_true rfl) mo_X12_takesName wc_X12_183 rfl dX12_person_6 h (fun r2 s2 h => ?_)
  refine G_istore (L' := [rv 75, iv v1, iv v2, iv v3, iv r2]) C dX12_person_9 (by decide) rfl ?_
  refine G_iload C dX12_person_11 rfl ?_
  refine G_if_eq (tgt := 58) C dX12_person_13 (by decide) h.1 (fun q => ?_) (fun q => ?_)
  · have h := h.2.1 q
    refine G_iconst C dX12_person_58 ?_
    exact r _ _ _ _ dX12_person_59 h
  · have h := h.2.2 q
    refine G_aload_n C dX12_person_16 rfl ?_
    refine G_iload_n C dX12_person_17 rfl ?_
    refine G_iconst C dX12_person_18 ?_
    refine G_iconst C dX12_person_19 ?_
    refine G_callVI (K := []) (args := [.inl v1, .inl 0, .inl 1]) (T := TX12) (N := 72) C ly_75 rfl (Nat.le_of_ble_eq_true rfl) mo_X12_isIn wc_X12_160 rfl dX12_person_20 h (fun r3 s3 h => ?_)
    refine G_if_eq (tgt := 58) C dX12_person_23 (by decide) h.1 (fun q => ?_) (fun q => ?_)
    · have h := h.2.1 q
      refine G_iconst C dX12_person_58 ?_
      exact r _ _ _ _ dX12_person_59 h
    · have h := h.2.2 q
      refine G_aload_n C dX12_person_26 rfl ?_
      refine G_iload_n C dX12_person_27 rfl ?_
      refine G_iconst C dX12_person_28 ?_
      refine G_bipush C dX12_person_29 bi_99 ?_
      refine G_callVI (K := []) (args := [.inl v2, .inl 0, .inl 99]) (T := TX12) (N := 72) C ly_75 rfl (Nat.le_of_ble_eq_true rfl) mo_X12_isIn wc_X12_160 rfl dX12_person_31 h (fun r4 s4 h => ?_)
      refine G_if_eq (tgt := 58) C dX12_person_34 (by decide) h.1 (fun q => ?_) (fun q => ?_)
      · have h := h.2.1 q
        refine G_iconst C dX12_person_58 ?_
        exact r _ _ _ _ dX12_person_59 h
      · have h := h.2.2 q
        refine G_aload_n C dX12_person_37 rfl ?_
        refine G_iload_n C dX12_person_38 rfl ?_
        refine G_iconst C dX12_person_39 ?_
        refine G_sipush C dX12_person_40 si_9999 ?_
        refine G_callVI (K := []) (args := [.inl v3, .inl 0, .inl 9999]) (T := TX12) (N := 72) C ly_75 rfl (Nat.le_of_ble_eq_true rfl) mo_X12_isIn wc_X12_160 rfl dX12_person_43 h (fun r5 s5 h => ?_)
        refine G_if_eq (tgt := 58) C dX12_person_46 (by decide) h.1 (fun q => ?_) (fun q => ?_)
        · have h := h.2.1 q
          refine G_iconst C dX12_person_58 ?_
          exact r _ _ _ _ dX12_person_59 h
        · have h := h.2.2 q
          refine G_aload_n C dX12_person_49 rfl ?_
          refine gI_X12_4 C ly_75 rfl wf_X12_154 dX12_person_50 ?_
          refine G_bipush C dX12_person_53 bi_20 ?_
          refine G_icmp_ne (tgt := 60) C dX12_person_55 (by decide) ⟨h.1, (by decide)⟩ (fun q => ?_) (fun q => ?_)
          · have h := h.2.1 q
            refine G_aload_n C dX12_person_60 rfl ?_
            refine G_bipush C dX12_person_61 bi_30 ?_
            refine G_aload_n C dX12_person_63 rfl ?_
            refine gI_X12_4 C ly_75 rfl wf_X12_154 dX12_person_64 ?_
            refine G_callVV (K := []) (args := [.inl 30, .inl (s5 75 4)]) (T := TX12) (N := 72) C ly_75 rfl (Nat.le_of_ble_eq_true rfl) mo_X12_movesName wc_X12_187 rfl dX12_person_67 h (fun s6 h => ?_)
            refine G_aload_n C dX12_person_70 rfl ?_
            refine gR_X12_5 C ly_75 rfl wf_X12_16 dX12_person_71 ?_
            refine G_aload_n C dX12_person_74 rfl ?_
            refine gI_X12_4 C ly_75 rfl wf_X12_154 dX12_person_75 ?_
            refine G_iload_n C dX12_person_78 rfl ?_
            refine G_iast C ly_78 (by decide) h.1 dX12_person_79 ?_
            have h := h.2
            have h := h _ rfl
            obtain ⟨s7, e7⟩ : ∃ z, z = up s6 78 (s6 75 4) v1 := ⟨_, rfl⟩
            rw [← e7] at h ⊢
            refine G_aload_n C dX12_person_80 rfl ?_
            refine gR_X12_6 C ly_75 rfl wf_X12_19 dX12_person_81 ?_
            refine G_aload_n C dX12_person_84 rfl ?_
            refine gI_X12_4 C ly_75 rfl wf_X12_154 dX12_person_85 ?_
            refine G_iload_n C dX12_person_88 rfl ?_
            refine G_iast C ly_79 (by decide) h.1 dX12_person_89 ?_
            have h := h.2
            have h := h _ rfl
            obtain ⟨s8, e8⟩ : ∃ z, z = up s7 79 (s7 75 4) v2 := ⟨_, rfl⟩
            rw [← e8] at h ⊢
            refine G_aload_n C dX12_person_90 rfl ?_
            refine gR_X12_7 C ly_75 rfl wf_X12_22 dX12_person_91 ?_
            refine G_aload_n C dX12_person_94 rfl ?_
            refine gI_X12_4 C ly_75 rfl wf_X12_154 dX12_person_95 ?_
            refine G_iload_n C dX12_person_98 rfl ?_
            refine G_iast C ly_80 (by decide) h.1 dX12_person_99 ?_
            have h := h.2
            have h := h _ rfl
            obtain ⟨s9, e9⟩ : ∃ z, z = up s8 80 (s8 75 4) v3 := ⟨_, rfl⟩
            rw [← e9] at h ⊢
            refine G_aload_n C dX12_person_100 rfl ?_
            refine G_aload_n C dX12_person_101 rfl ?_
            refine gI_X12_4 C ly_75 rfl wf_X12_154 dX12_person_102 ?_
            refine G_iconst C dX12_person_105 ?_
            refine G_iadd C dX12_person_106 ?_
            refine gP_X12_4 C ly_75 rfl wf_X12_154 dX12_person_107 ?_
            have h := h _ rfl
            obtain ⟨s10, e10⟩ : ∃ z, z = up s9 75 4 ((s9 75 4) + 1) := ⟨_, rfl⟩
            rw [← e10] at h ⊢
            refine G_aload_n C dX12_person_110 rfl ?_
            refine gI_X12_4 C ly_75 rfl wf_X12_154 dX12_person_111 ?_
            refine G_iconst C dX12_person_114 ?_
            refine G_isub C dX12_person_115 ?_
            exact r _ _ _ _ dX12_person_116 h
          · have h := h.2.2 q
            refine G_iconst C dX12_person_58 ?_
            exact r _ _ _ _ dX12_person_59 h
set_option maxRecDepth 20000 in
theorem kb_X12_named_0 {X : Cx} {d : Nat} {P : Int → Sto → Prop} (C : Ok LY X RX12 cX12_named 3 d) (r : RetZ LY X cX12_named P) {v1 : Int} {s : Sto} (h : (∀ s1 : Sto, s1 = up s 75 0 0 → (CallI LY d MX12_takesName [.inr 75] s1 (fun r2 s2 => ((rg r2) ∧ ((r2 = 0 → P 0 s2) ∧ (r2 ≠ 0 → (CallI LY d MX12_isOne [.inr 75, .inl v1] s2 (fun r3 s3 => ((rg r3) ∧ ((r3 ≠ 0 → (CallV LY d MX12_movesName [.inr 75, .inl 30, .inl v1] s3 (fun s4 => P 1 s4))) ∧ (r3 = 0 → P 0 s3)))))))))))) : G LY X 0 [rv 75, iv v1, none] [] s := by
  refine G_aload_n C dX12_named_0 rfl ?_
  refine G_iconst C dX12_named_1 ?_
  refine gP_X12_0 C ly_75 rfl wf_X12_146 dX12_named_2 ?_
  have h := h _ rfl
  obtain ⟨s1, e1⟩ : ∃ z, z = up s 75 0 0 := ⟨_, rfl⟩
  rw [← e1] at h ⊢
  refine G_aload_n C dX12_named_5 rfl ?_
  refine G_callVI (K := []) (args := []) (T := TX12) (N := 72) C ly_75 rfl (Nat.le_of_ble_eq_true rfl) mo_X12_takesName wc_X12_183 rfl dX12_named_6 h (fun r2 s2 h => ?_)
  refine G_istore_n (L' := [rv 75, iv v1, iv r2]) C dX12_named_9 (by decide) rfl ?_
  refine G_iload_n C dX12_named_10 rfl ?_
  refine G_if_eq (tgt := 22) C dX12_named_11 (by decide) h.1 (fun q => ?_) (fun q => ?_)
  · have h := h.2.1 q
    refine G_iconst C dX12_named_22 ?_
    exact r _ _ _ _ dX12_named_23 (by decide) h
  · have h := h.2.2 q
    refine G_aload_n C dX12_named_14 rfl ?_
    refine G_iload_n C dX12_named_15 rfl ?_
    refine G_callVI (K := []) (args := [.inl v1]) (T := TX12) (N := 72) C ly_75 rfl (Nat.le_of_ble_eq_true rfl) mo_X12_isOne wc_X12_191 rfl dX12_named_16 h (fun r3 s3 h => ?_)
    refine G_if_ne (tgt := 24) C dX12_named_19 (by decide) h.1 (fun q => ?_) (fun q => ?_)
    · have h := h.2.1 q
      refine G_aload_n C dX12_named_24 rfl ?_
      refine G_bipush C dX12_named_25 bi_30 ?_
      refine G_iload_n C dX12_named_27 rfl ?_
      refine G_callVV (K := []) (args := [.inl 30, .inl v1]) (T := TX12) (N := 72) C ly_75 rfl (Nat.le_of_ble_eq_true rfl) mo_X12_movesName wc_X12_187 rfl dX12_named_28 h (fun s4 h => ?_)
      refine G_iconst C dX12_named_31 ?_
      exact r _ _ _ _ dX12_named_32 (by decide) h
    · have h := h.2.2 q
      refine G_iconst C dX12_named_22 ?_
      exact r _ _ _ _ dX12_named_23 (by decide) h
set_option maxRecDepth 20000 in
theorem kb_X12_alphabet_0 {X : Cx} {d : Nat} {P : Int → Sto → Prop} (C : Ok LY X RX12 cX12_alphabet 1 d) (r : RetZ LY X cX12_alphabet P) {s : Sto} (h : (∀ s1 : Sto, s1 = up s 75 0 0 → (CallI LY d MX12_takesOrder [.inr 75] s1 (fun r2 s2 => ((rg r2) ∧ ((r2 ≠ 0 → (CallV LY d MX12_movesOrder [.inr 75, .inl 19, .inl 0] s2 (fun s3 => P 1 s3))) ∧ (r2 = 0 → P 0 s2))))))) : G LY X 0 [rv 75] [] s := by
  refine G_aload_n C dX12_alphabet_0 rfl ?_
  refine G_iconst C dX12_alphabet_1 ?_
  refine gP_X12_0 C ly_75 rfl wf_X12_146 dX12_alphabet_2 ?_
  have h := h _ rfl
  obtain ⟨s1, e1⟩ : ∃ z, z = up s 75 0 0 := ⟨_, rfl⟩
  rw [← e1] at h ⊢
  refine G_aload_n C dX12_alphabet_5 rfl ?_
  refine G_callVI (K := []) (args := []) (T := TX12) (N := 72) C ly_75 rfl (Nat.le_of_ble_eq_true rfl) mo_X12_takesOrder wc_X12_195 rfl dX12_alphabet_6 h (fun r2 s2 h => ?_)
  refine G_if_ne (tgt := 14) C dX12_alphabet_9 (by decide) h.1 (fun q => ?_) (fun q => ?_)
  · have h := h.2.1 q
    refine G_aload_n C dX12_alphabet_14 rfl ?_
    refine G_bipush C dX12_alphabet_15 bi_19 ?_
    refine G_iconst C dX12_alphabet_17 ?_
    refine G_callVV (K := []) (args := [.inl 19, .inl 0]) (T := TX12) (N := 72) C ly_75 rfl (Nat.le_of_ble_eq_true rfl) mo_X12_movesOrder wc_X12_198 rfl dX12_alphabet_18 h (fun s3 h => ?_)
    refine G_iconst C dX12_alphabet_21 ?_
    exact r _ _ _ _ dX12_alphabet_22 (by decide) h
  · have h := h.2.2 q
    refine G_iconst C dX12_alphabet_12 ?_
    exact r _ _ _ _ dX12_alphabet_13 (by decide) h
set_option maxRecDepth 20000 in
theorem kb_X12_set_0 {X : Cx} {d : Nat} {P : Int → Sto → Prop} (C : Ok LY X RX12 cX12_set 3 d) (r : RetZ LY X cX12_set P) {v1 v2 : Int} {s : Sto} (h : (∀ s1 : Sto, s1 = up s 75 0 0 → (CallI LY d MX12_isIn [.inr 75, .inl v1, .inl 0, .inl 6] s1 (fun r2 s2 => ((rg r2) ∧ ((r2 = 0 → P 0 s2) ∧ (r2 ≠ 0 → (CallI LY d MX12_leastOf [.inr 75, .inl v1] s2 (fun r3 s3 => (CallI LY d MX12_mostOf [.inr 75, .inl v1] s3 (fun r4 s4 => (CallI LY d MX12_isIn [.inr 75, .inl v2, .inl r3, .inl r4] s4 (fun r5 s5 => ((rg r5) ∧ ((r5 ≠ 0 → ((0 ≤ v1 ∧ v1 < 7) ∧ (∀ s6 : Sto, s6 = up s5 82 v1 v2 → P 1 s6))) ∧ (r5 = 0 → P 0 s5)))))))))))))))) : G LY X 0 [rv 75, iv v1, iv v2] [] s := by
  refine G_aload_n C dX12_set_0 rfl ?_
  refine G_iconst C dX12_set_1 ?_
  refine gP_X12_0 C ly_75 rfl wf_X12_146 dX12_set_2 ?_
  have h := h _ rfl
  obtain ⟨s1, e1⟩ : ∃ z, z = up s 75 0 0 := ⟨_, rfl⟩
  rw [← e1] at h ⊢
  refine G_aload_n C dX12_set_5 rfl ?_
  refine G_iload_n C dX12_set_6 rfl ?_
  refine G_iconst C dX12_set_7 ?_
  refine G_bipush C dX12_set_8 bi_6 ?_
  refine G_callVI (K := []) (args := [.inl v1, .inl 0, .inl 6]) (T := TX12) (N := 72) C ly_75 rfl (Nat.le_of_ble_eq_true rfl) mo_X12_isIn wc_X12_160 rfl dX12_set_10 h (fun r2 s2 h => ?_)
  refine G_if_eq (tgt := 34) C dX12_set_13 (by decide) h.1 (fun q => ?_) (fun q => ?_)
  · have h := h.2.1 q
    refine G_iconst C dX12_set_34 ?_
    exact r _ _ _ _ dX12_set_35 (by decide) h
  · have h := h.2.2 q
    refine G_aload_n C dX12_set_16 rfl ?_
    refine G_iload_n C dX12_set_17 rfl ?_
    refine G_aload_n C dX12_set_18 rfl ?_
    refine G_iload_n C dX12_set_19 rfl ?_
    refine G_callVI (K := [.inl v2, .inr 75]) (args := [.inl v1]) (T := TX12) (N := 72) C ly_75 rfl (Nat.le_of_ble_eq_true rfl) mo_X12_leastOf wc_X12_201 rfl dX12_set_20 h (fun r3 s3 h => ?_)
    refine G_aload_n C dX12_set_23 rfl ?_
    refine G_iload_n C dX12_set_24 rfl ?_
    refine G_callVI (K := [.inl r3, .inl v2, .inr 75]) (args := [.inl v1]) (T := TX12) (N := 72) C ly_75 rfl (Nat.le_of_ble_eq_true rfl) mo_X12_mostOf wc_X12_205 rfl dX12_set_25 h (fun r4 s4 h => ?_)
    refine G_callVI (K := []) (args := [.inl v2, .inl r3, .inl r4]) (T := TX12) (N := 72) C ly_75 rfl (Nat.le_of_ble_eq_true rfl) mo_X12_isIn wc_X12_160 rfl dX12_set_28 h (fun r5 s5 h => ?_)
    refine G_if_ne (tgt := 36) C dX12_set_31 (by decide) h.1 (fun q => ?_) (fun q => ?_)
    · have h := h.2.1 q
      refine G_aload_n C dX12_set_36 rfl ?_
      refine gR_X12_11 C ly_75 rfl wf_X12_32 dX12_set_37 ?_
      refine G_iload_n C dX12_set_40 rfl ?_
      refine G_iload_n C dX12_set_41 rfl ?_
      refine G_iast C ly_82 (by decide) h.1 dX12_set_42 ?_
      have h := h.2
      have h := h _ rfl
      obtain ⟨s6, e6⟩ : ∃ z, z = up s5 82 v1 v2 := ⟨_, rfl⟩
      rw [← e6] at h ⊢
      refine G_iconst C dX12_set_43 ?_
      exact r _ _ _ _ dX12_set_44 (by decide) h
    · have h := h.2.2 q
      refine G_iconst C dX12_set_34 ?_
      exact r _ _ _ _ dX12_set_35 (by decide) h
set_option maxRecDepth 20000 in
theorem kb_X12_site_0 {X : Cx} {d : Nat} {P : Int → Sto → Prop} (C : Ok LY X RX12 cX12_site 6 d) (r : RetZ LY X cX12_site P) {v1 v2 v3 v4 v5 : Int} {s : Sto} (h : (∀ s1 : Sto, s1 = up s 75 0 0 → (CallI LY d MX12_isIn [.inr 75, .inl v1, .inl 0, .inl 5] s1 (fun r2 s2 => ((rg r2) ∧ ((r2 = 0 → P 0 s2) ∧ (r2 ≠ 0 → (CallI LY d MX12_isIn [.inr 75, .inl v2, .inl 0, .inl 1] s2 (fun r3 s3 => ((rg r3) ∧ ((r3 = 0 → P 0 s3) ∧ (r3 ≠ 0 → (CallI LY d MX12_isIn [.inr 75, .inl v3, .inl (-99), .inl 99] s3 (fun r4 s4 => ((rg r4) ∧ ((r4 = 0 → P 0 s4) ∧ (r4 ≠ 0 → (CallI LY d MX12_isIn [.inr 75, .inl v4, .inl 0, .inl 99] s4 (fun r5 s5 => ((rg r5) ∧ ((r5 = 0 → P 0 s5) ∧ (r5 ≠ 0 → (CallI LY d MX12_isIn [.inr 75, .inl v5, .inl 0, .inl 20] s5 (fun r6 s6 => ((rg r6) ∧ ((r6 ≠ 0 → ((0 ≤ v1 ∧ v1 < 6) ∧ (∀ s7 : Sto, s7 = up s6 83 v1 v2 → ((0 ≤ v1 ∧ v1 < 6) ∧ (∀ s8 : Sto, s8 = up s7 84 v1 v3 → ((0 ≤ v1 ∧ v1 < 6) ∧ (∀ s9 : Sto, s9 = up s8 85 v1 v4 → ((0 ≤ v1 ∧ v1 < 6) ∧ (∀ s10 : Sto, s10 = up s9 86 v1 v5 → P 1 s10))))))))) ∧ (r6 = 0 → P 0 s6))))))))))))))))))))))))))) : G LY X 0 [rv 75, iv v1, iv v2, iv v3, iv v4, iv v5] [] s := by
  refine G_aload_n C dX12_site_0 rfl ?_
  refine G_iconst C dX12_site_1 ?_
  refine gP_X12_0 C ly_75 rfl wf_X12_146 dX12_site_2 ?_
  have h := h _ rfl
  obtain ⟨s1, e1⟩ : ∃ z, z = up s 75 0 0 := ⟨_, rfl⟩
  rw [← e1] at h ⊢
  refine G_aload_n C dX12_site_5 rfl ?_
  refine G_iload_n C dX12_site_6 rfl ?_
  refine G_iconst C dX12_site_7 ?_
  refine G_iconst C dX12_site_8 ?_
  refine G_callVI (K := []) (args := [.inl v1, .inl 0, .inl 5]) (T := TX12) (N := 72) C ly_75 rfl (Nat.le_of_ble_eq_true rfl) mo_X12_isIn wc_X12_160 rfl dX12_site_9 h (fun r2 s2 h => ?_)
  refine G_if_eq (tgt := 61) C dX12_site_12 (by decide) h.1 (fun q => ?_) (fun q => ?_)
  · have h := h.2.1 q
    refine G_iconst C dX12_site_61 ?_
    exact r _ _ _ _ dX12_site_62 (by decide) h
  · have h := h.2.2 q
    refine G_aload_n C dX12_site_15 rfl ?_
    refine G_iload_n C dX12_site_16 rfl ?_
    refine G_iconst C dX12_site_17 ?_
    refine G_iconst C dX12_site_18 ?_
    refine G_callVI (K := []) (args := [.inl v2, .inl 0, .inl 1]) (T := TX12) (N := 72) C ly_75 rfl (Nat.le_of_ble_eq_true rfl) mo_X12_isIn wc_X12_160 rfl dX12_site_19 h (fun r3 s3 h => ?_)
    refine G_if_eq (tgt := 61) C dX12_site_22 (by decide) h.1 (fun q => ?_) (fun q => ?_)
    · have h := h.2.1 q
      refine G_iconst C dX12_site_61 ?_
      exact r _ _ _ _ dX12_site_62 (by decide) h
    · have h := h.2.2 q
      refine G_aload_n C dX12_site_25 rfl ?_
      refine G_iload_n C dX12_site_26 rfl ?_
      refine G_bipush C dX12_site_27 bi_m99 ?_
      refine G_bipush C dX12_site_29 bi_99 ?_
      refine G_callVI (K := []) (args := [.inl v3, .inl (-99), .inl 99]) (T := TX12) (N := 72) C ly_75 rfl (Nat.le_of_ble_eq_true rfl) mo_X12_isIn wc_X12_160 rfl dX12_site_31 h (fun r4 s4 h => ?_)
      refine G_if_eq (tgt := 61) C dX12_site_34 (by decide) h.1 (fun q => ?_) (fun q => ?_)
      · have h := h.2.1 q
        refine G_iconst C dX12_site_61 ?_
        exact r _ _ _ _ dX12_site_62 (by decide) h
      · have h := h.2.2 q
        refine G_aload_n C dX12_site_37 rfl ?_
        refine G_iload C dX12_site_38 rfl ?_
        refine G_iconst C dX12_site_40 ?_
        refine G_bipush C dX12_site_41 bi_99 ?_
        refine G_callVI (K := []) (args := [.inl v4, .inl 0, .inl 99]) (T := TX12) (N := 72) C ly_75 rfl (Nat.le_of_ble_eq_true rfl) mo_X12_isIn wc_X12_160 rfl dX12_site_43 h (fun r5 s5 h => ?_)
        refine G_if_eq (tgt := 61) C dX12_site_46 (by decide) h.1 (fun q => ?_) (fun q => ?_)
        · have h := h.2.1 q
          refine G_iconst C dX12_site_61 ?_
          exact r _ _ _ _ dX12_site_62 (by decide) h
        · have h := h.2.2 q
          refine G_aload_n C dX12_site_49 rfl ?_
          refine G_iload C dX12_site_50 rfl ?_
          refine G_iconst C dX12_site_52 ?_
          refine G_bipush C dX12_site_53 bi_20 ?_
          refine G_callVI (K := []) (args := [.inl v5, .inl 0, .inl 20]) (T := TX12) (N := 72) C ly_75 rfl (Nat.le_of_ble_eq_true rfl) mo_X12_isIn wc_X12_160 rfl dX12_site_55 h (fun r6 s6 h => ?_)
          refine G_if_ne (tgt := 63) C dX12_site_58 (by decide) h.1 (fun q => ?_) (fun q => ?_)
          · have h := h.2.1 q
            refine G_aload_n C dX12_site_63 rfl ?_
            refine gR_X12_12 C ly_75 rfl wf_X12_35 dX12_site_64 ?_
            refine G_iload_n C dX12_site_67 rfl ?_
            refine G_iload_n C dX12_site_68 rfl ?_
            refine G_iast C ly_83 (by decide) h.1 dX12_site_69 ?_
            have h := h.2
            have h := h _ rfl
            obtain ⟨s7, e7⟩ : ∃ z, z = up s6 83 v1 v2 := ⟨_, rfl⟩
            rw [← e7] at h ⊢
            refine G_aload_n C dX12_site_70 rfl ?_
            refine gR_X12_13 C ly_75 rfl wf_X12_38 dX12_site_71 ?_
            refine G_iload_n C dX12_site_74 rfl ?_
            refine G_iload_n C dX12_site_75 rfl ?_
            refine G_iast C ly_84 (by decide) h.1 dX12_site_76 ?_
            have h := h.2
            have h := h _ rfl
            obtain ⟨s8, e8⟩ : ∃ z, z = up s7 84 v1 v3 := ⟨_, rfl⟩
            rw [← e8] at h ⊢
            refine G_aload_n C dX12_site_77 rfl ?_
            refine gR_X12_14 C ly_75 rfl wf_X12_41 dX12_site_78 ?_
            refine G_iload_n C dX12_site_81 rfl ?_
            refine G_iload C dX12_site_82 rfl ?_
            refine G_iast C ly_85 (by decide) h.1 dX12_site_84 ?_
            have h := h.2
            have h := h _ rfl
            obtain ⟨s9, e9⟩ : ∃ z, z = up s8 85 v1 v4 := ⟨_, rfl⟩
            rw [← e9] at h ⊢
            refine G_aload_n C dX12_site_85 rfl ?_
            refine gR_X12_15 C ly_75 rfl wf_X12_44 dX12_site_86 ?_
            refine G_iload_n C dX12_site_89 rfl ?_
            refine G_iload C dX12_site_90 rfl ?_
            refine G_iast C ly_86 (by decide) h.1 dX12_site_92 ?_
            have h := h.2
            have h := h _ rfl
            obtain ⟨s10, e10⟩ : ∃ z, z = up s9 86 v1 v5 := ⟨_, rfl⟩
            rw [← e10] at h ⊢
            refine G_iconst C dX12_site_93 ?_
            exact r _ _ _ _ dX12_site_94 (by decide) h
          · have h := h.2.2 q
            refine G_iconst C dX12_site_61 ?_
            exact r _ _ _ _ dX12_site_62 (by decide) h
set_option maxRecDepth 20000 in
theorem kb_X12_chance_0 {X : Cx} {d : Nat} {P : Int → Sto → Prop} (C : Ok LY X RX12 cX12_chance 4 d) (r : RetZ LY X cX12_chance P) {v1 v2 : Int} {s : Sto} (h : (∀ s1 : Sto, s1 = up s 75 0 0 → (CallI LY d MX12_takesOrder [.inr 75] s1 (fun r2 s2 => ((rg r2) ∧ ((r2 = 0 → P 0 s2) ∧ (r2 ≠ 0 → (CallI LY d MX12_isIn [.inr 75, .inl v1, .inl 0, .inl 5] s2 (fun r3 s3 => ((rg r3) ∧ ((r3 = 0 → P 0 s3) ∧ (r3 ≠ 0 → (CallI LY d MX12_isIn [.inr 75, .inl v2, .inl 0, .inl 99] s3 (fun r4 s4 => ((rg r4) ∧ ((r4 ≠ 0 → (CallV LY d MX12_movesOrder [.inr 75, .inl 19, .inl (1 + v1)] s4 (fun s5 => ((0 ≤ v1 ∧ v1 < 6) ∧ (∀ s6 : Sto, s6 = up s5 87 v1 v2 → ((0 ≤ v1 ∧ v1 < 6) ∧ (∀ s7 : Sto, s7 = up s6 88 v1 1 → P 1 s7))))))) ∧ (r4 = 0 → P 0 s4))))))))))))))))) : G LY X 0 [rv 75, iv v1, iv v2, none] [] s := by
  refine G_aload_n C dX12_chance_0 rfl ?_
  refine G_iconst C dX12_chance_1 ?_
  refine gP_X12_0 C ly_75 rfl wf_X12_146 dX12_chance_2 ?_
  have h := h _ rfl
  obtain ⟨s1, e1⟩ : ∃ z, z = up s 75 0 0 := ⟨_, rfl⟩
  rw [← e1] at h ⊢
  refine G_aload_n C dX12_chance_5 rfl ?_
  refine G_callVI (K := []) (args := []) (T := TX12) (N := 72) C ly_75 rfl (Nat.le_of_ble_eq_true rfl) mo_X12_takesOrder wc_X12_195 rfl dX12_chance_6 h (fun r2 s2 h => ?_)
  refine G_istore_n (L' := [rv 75, iv v1, iv v2, iv r2]) C dX12_chance_9 (by decide) rfl ?_
  refine G_iload_n C dX12_chance_10 rfl ?_
  refine G_if_eq (tgt := 35) C dX12_chance_11 (by decide) h.1 (fun q => ?_) (fun q => ?_)
  · have h := h.2.1 q
    refine G_iconst C dX12_chance_35 ?_
    exact r _ _ _ _ dX12_chance_36 (by decide) h
  · have h := h.2.2 q
    refine G_aload_n C dX12_chance_14 rfl ?_
    refine G_iload_n C dX12_chance_15 rfl ?_
    refine G_iconst C dX12_chance_16 ?_
    refine G_iconst C dX12_chance_17 ?_
    refine G_callVI (K := []) (args := [.inl v1, .inl 0, .inl 5]) (T := TX12) (N := 72) C ly_75 rfl (Nat.le_of_ble_eq_true rfl) mo_X12_isIn wc_X12_160 rfl dX12_chance_18 h (fun r3 s3 h => ?_)
    refine G_if_eq (tgt := 35) C dX12_chance_21 (by decide) h.1 (fun q => ?_) (fun q => ?_)
    · have h := h.2.1 q
      refine G_iconst C dX12_chance_35 ?_
      exact r _ _ _ _ dX12_chance_36 (by decide) h
    · have h := h.2.2 q
      refine G_aload_n C dX12_chance_24 rfl ?_
      refine G_iload_n C dX12_chance_25 rfl ?_
      refine G_iconst C dX12_chance_26 ?_
      refine G_bipush C dX12_chance_27 bi_99 ?_
      refine G_callVI (K := []) (args := [.inl v2, .inl 0, .inl 99]) (T := TX12) (N := 72) C ly_75 rfl (Nat.le_of_ble_eq_true rfl) mo_X12_isIn wc_X12_160 rfl dX12_chance_29 h (fun r4 s4 h => ?_)
      refine G_if_ne (tgt := 37) C dX12_chance_32 (by decide) h.1 (fun q => ?_) (fun q => ?_)
      · have h := h.2.1 q
        refine G_aload_n C dX12_chance_37 rfl ?_
        refine G_bipush C dX12_chance_38 bi_19 ?_
        refine G_iconst C dX12_chance_40 ?_
        refine G_iload_n C dX12_chance_41 rfl ?_
        refine G_iadd C dX12_chance_42 ?_
        refine G_callVV (K := []) (args := [.inl 19, .inl (1 + v1)]) (T := TX12) (N := 72) C ly_75 rfl (Nat.le_of_ble_eq_true rfl) mo_X12_movesOrder wc_X12_198 rfl dX12_chance_43 h (fun s5 h => ?_)
        refine G_aload_n C dX12_chance_46 rfl ?_
        refine gR_X12_16 C ly_75 rfl wf_X12_47 dX12_chance_47 ?_
        refine G_iload_n C dX12_chance_50 rfl ?_
        refine G_iload_n C dX12_chance_51 rfl ?_
        refine G_iast C ly_87 (by decide) h.1 dX12_chance_52 ?_
        have h := h.2
        have h := h _ rfl
        obtain ⟨s6, e6⟩ : ∃ z, z = up s5 87 v1 v2 := ⟨_, rfl⟩
        rw [← e6] at h ⊢
        refine G_aload_n C dX12_chance_53 rfl ?_
        refine gR_X12_17 C ly_75 rfl wf_X12_50 dX12_chance_54 ?_
        refine G_iload_n C dX12_chance_57 rfl ?_
        refine G_iconst C dX12_chance_58 ?_
        refine G_iast C ly_88 (by decide) h.1 dX12_chance_59 ?_
        have h := h.2
        have h := h _ rfl
        obtain ⟨s7, e7⟩ : ∃ z, z = up s6 88 v1 1 := ⟨_, rfl⟩
        rw [← e7] at h ⊢
        refine G_iconst C dX12_chance_60 ?_
        exact r _ _ _ _ dX12_chance_61 (by decide) h
      · have h := h.2.2 q
        refine G_iconst C dX12_chance_35 ?_
        exact r _ _ _ _ dX12_chance_36 (by decide) h
set_option maxRecDepth 20000 in
theorem kb_X12_feed_0 {X : Cx} {d : Nat} {P : Int → Sto → Prop} (C : Ok LY X RX12 cX12_feed 6 d) (r : RetI LY X cX12_feed P) {v1 v2 v3 v4 v5 : Int} {s : Sto} (h : (∀ s1 : Sto, s1 = up s 75 0 0 → ((rg (s1 75 24)) ∧ (((s1 75 24) ≤ 380 → (CallV LY d MX12_types [.inr 75, .inl v1] s1 (fun s2 => (CallV LY d MX12_types [.inr 75, .inl v2] s2 (fun s3 => (CallV LY d MX12_types [.inr 75, .inl v3] s3 (fun s4 => (CallV LY d MX12_types [.inr 75, .inl v4] s4 (fun s5 => (CallV LY d MX12_types [.inr 75, .inl v5] s5 (fun s6 => P (s6 75 24) s6))))))))))) ∧ (380 < (s1 75 24) → P (-1) s1))))) : G LY X 0 [rv 75, iv v1, iv v2, iv v3, iv v4, iv v5] [] s := by
  refine G_aload_n C dX12_feed_0 rfl ?_
  refine G_iconst C dX12_feed_1 ?_
  refine gP_X12_0 C ly_75 rfl wf_X12_146 dX12_feed_2 ?_
  have h := h _ rfl
  obtain ⟨s1, e1⟩ : ∃ z, z = up s 75 0 0 := ⟨_, rfl⟩
  rw [← e1] at h ⊢
  refine G_aload_n C dX12_feed_5 rfl ?_
  refine gI_X12_24 C ly_75 rfl wf_X12_157 dX12_feed_6 ?_
  refine G_sipush C dX12_feed_9 si_380 ?_
  refine G_icmp_le (tgt := 17) C dX12_feed_12 (by decide) ⟨h.1, (by decide)⟩ (fun q => ?_) (fun q => ?_)
  · have h := h.2.1 q
    refine G_aload_n C dX12_feed_17 rfl ?_
    refine G_iload_n C dX12_feed_18 rfl ?_
    refine G_callVV (K := []) (args := [.inl v1]) (T := TX12) (N := 72) C ly_75 rfl (Nat.le_of_ble_eq_true rfl) mo_X12_types wc_X12_208 rfl dX12_feed_19 h (fun s2 h => ?_)
    refine G_aload_n C dX12_feed_22 rfl ?_
    refine G_iload_n C dX12_feed_23 rfl ?_
    refine G_callVV (K := []) (args := [.inl v2]) (T := TX12) (N := 72) C ly_75 rfl (Nat.le_of_ble_eq_true rfl) mo_X12_types wc_X12_208 rfl dX12_feed_24 h (fun s3 h => ?_)
    refine G_aload_n C dX12_feed_27 rfl ?_
    refine G_iload_n C dX12_feed_28 rfl ?_
    refine G_callVV (K := []) (args := [.inl v3]) (T := TX12) (N := 72) C ly_75 rfl (Nat.le_of_ble_eq_true rfl) mo_X12_types wc_X12_208 rfl dX12_feed_29 h (fun s4 h => ?_)
    refine G_aload_n C dX12_feed_32 rfl ?_
    refine G_iload C dX12_feed_33 rfl ?_
    refine G_callVV (K := []) (args := [.inl v4]) (T := TX12) (N := 72) C ly_75 rfl (Nat.le_of_ble_eq_true rfl) mo_X12_types wc_X12_208 rfl dX12_feed_35 h (fun s5 h => ?_)
    refine G_aload_n C dX12_feed_38 rfl ?_
    refine G_iload C dX12_feed_39 rfl ?_
    refine G_callVV (K := []) (args := [.inl v5]) (T := TX12) (N := 72) C ly_75 rfl (Nat.le_of_ble_eq_true rfl) mo_X12_types wc_X12_208 rfl dX12_feed_41 h (fun s6 h => ?_)
    refine G_aload_n C dX12_feed_44 rfl ?_
    refine gI_X12_24 C ly_75 rfl wf_X12_157 dX12_feed_45 ?_
    exact r _ _ _ _ dX12_feed_48 h
  · have h := h.2.2 q
    refine G_iconst C dX12_feed_15 ?_
    exact r _ _ _ _ dX12_feed_16 h
set_option maxRecDepth 20000 in
theorem kb_X12_end_0 {X : Cx} {d : Nat} {P : Int → Sto → Prop} (C : Ok LY X RX12 cX12_end 2 d) (r : RetZ LY X cX12_end P) {v1 : Int} {s : Sto} (h : (∀ s1 : Sto, s1 = up s 75 0 0 → (CallI LY d MX12_isIn [.inr 75, .inl v1, .inl 0, .inl (s1 75 24)] s1 (fun r2 s2 => ((rg r2) ∧ ((r2 ≠ 0 → (∀ s3 : Sto, s3 = up s2 75 24 v1 → P 1 s3)) ∧ (r2 = 0 → P 0 s2))))))) : G LY X 0 [rv 75, iv v1] [] s := by
  refine G_aload_n C dX12_end_0 rfl ?_
  refine G_iconst C dX12_end_1 ?_
  refine gP_X12_0 C ly_75 rfl wf_X12_146 dX12_end_2 ?_
  have h := h _ rfl
  obtain ⟨s1, e1⟩ : ∃ z, z = up s 75 0 0 := ⟨_, rfl⟩
  rw [← e1] at h ⊢
  refine G_aload_n C dX12_end_5 rfl ?_
  refine G_iload_n C dX12_end_6 rfl ?_
  refine G_iconst C dX12_end_7 ?_
  refine G_aload_n C dX12_end_8 rfl ?_
  refine gI_X12_24 C ly_75 rfl wf_X12_157 dX12_end_9 ?_
  refine G_callVI (K := []) (args := [.inl v1, .inl 0, .inl (s1 75 24)]) (T := TX12) (N := 72) C ly_75 rfl (Nat.le_of_ble_eq_true rfl) mo_X12_isIn wc_X12_160 rfl dX12_end_12 h (fun r2 s2 h => ?_)
  refine G_if_ne (tgt := 20) C dX12_end_15 (by decide) h.1 (fun q => ?_) (fun q => ?_)
  · have h := h.2.1 q
    refine G_aload_n C dX12_end_20 rfl ?_
    refine G_iload_n C dX12_end_21 rfl ?_
    refine gP_X12_24 C ly_75 rfl wf_X12_157 dX12_end_22 ?_
    have h := h _ rfl
    obtain ⟨s3, e3⟩ : ∃ z, z = up s2 75 24 v1 := ⟨_, rfl⟩
    rw [← e3] at h ⊢
    refine G_iconst C dX12_end_25 ?_
    exact r _ _ _ _ dX12_end_26 (by decide) h
  · have h := h.2.2 q
    refine G_iconst C dX12_end_18 ?_
    exact r _ _ _ _ dX12_end_19 (by decide) h
set_option maxRecDepth 20000 in
theorem kb_X12_text_0 {X : Cx} {d : Nat} {P : Int → Sto → Prop} (C : Ok LY X RX12 cX12_text 3 d) (r : RetI LY X cX12_text P) {s : Sto} (h : (∀ s1 : Sto, s1 = up s 75 0 0 → (∀ s2 : Sto, s2 = up s1 75 42 0 → (∀ s3 : Sto, s3 = up s2 75 43 (-1) → (∀ s4 : Sto, s4 = up s3 75 25 0 → (∀ s5 : Sto, s5 = up s4 75 36 0 → (∀ s6 : Sto, s6 = up s5 75 37 0 → (CallV LY d MX12_reads [.inr 75] s6 (fun s7 => (CallI LY d MX12_readText [.inr 75] s7 (fun r8 s8 => (∀ s9 : Sto, s9 = up s8 75 24 0 → ((rg r8) ∧ ((r8 ≠ (-1) → G LY X 69 [rv 75, iv r8, iv 0] [] s9) ∧ (r8 = (-1) → (∀ s10 : Sto, s10 = up s9 75 42 (s9 75 40) → (∀ s11 : Sto, s11 = up s10 75 43 (s10 75 41) → P (-1) s11))))))))))))))))) : G LY X 0 [rv 75, none, none] [] s := by
  refine G_aload_n C dX12_text_0 rfl ?_
  refine G_iconst C dX12_text_1 ?_
  refine gP_X12_0 C ly_75 rfl wf_X12_146 dX12_text_2 ?_
  have h := h _ rfl
  obtain ⟨s1, e1⟩ : ∃ z, z = up s 75 0 0 := ⟨_, rfl⟩
  rw [← e1] at h ⊢
  refine G_aload_n C dX12_text_5 rfl ?_
  refine G_iconst C dX12_text_6 ?_
  refine gP_X12_42 C ly_75 rfl wf_X12_292 dX12_text_7 ?_
  have h := h _ rfl
  obtain ⟨s2, e2⟩ : ∃ z, z = up s1 75 42 0 := ⟨_, rfl⟩
  rw [← e2] at h ⊢
  refine G_aload_n C dX12_text_10 rfl ?_
  refine G_iconst C dX12_text_11 ?_
  refine gP_X12_43 C ly_75 rfl wf_X12_83 dX12_text_12 ?_
  have h := h _ rfl
  obtain ⟨s3, e3⟩ : ∃ z, z = up s2 75 43 (-1) := ⟨_, rfl⟩
  rw [← e3] at h ⊢
  refine G_aload_n C dX12_text_15 rfl ?_
  refine G_iconst C dX12_text_16 ?_
  refine gP_X12_25 C ly_75 rfl wf_X12_212 dX12_text_17 ?_
  have h := h _ rfl
  obtain ⟨s4, e4⟩ : ∃ z, z = up s3 75 25 0 := ⟨_, rfl⟩
  rw [← e4] at h ⊢
  refine G_aload_n C dX12_text_20 rfl ?_
  refine G_iconst C dX12_text_21 ?_
  refine gP_X12_36 C ly_75 rfl wf_X12_246 dX12_text_22 ?_
  have h := h _ rfl
  obtain ⟨s5, e5⟩ : ∃ z, z = up s4 75 36 0 := ⟨_, rfl⟩
  rw [← e5] at h ⊢
  refine G_aload_n C dX12_text_25 rfl ?_
  refine G_iconst C dX12_text_26 ?_
  refine gP_X12_37 C ly_75 rfl wf_X12_274 dX12_text_27 ?_
  have h := h _ rfl
  obtain ⟨s6, e6⟩ : ∃ z, z = up s5 75 37 0 := ⟨_, rfl⟩
  rw [← e6] at h ⊢
  refine G_aload_n C dX12_text_30 rfl ?_
  refine G_callVV (K := []) (args := []) (T := TX12) (N := 72) C ly_75 rfl (Nat.le_of_ble_eq_true rfl) mo_X12_reads wc_X12_255 rfl dX12_text_31 h (fun s7 h => ?_)
  refine G_aload_n C dX12_text_34 rfl ?_
  refine G_callVI (K := []) (args := []) (T := TX12) (N := 72) C ly_75 rfl (Nat.le_of_ble_eq_true rfl) mo_X12_readText wc_X12_295 rfl dX12_text_35 h (fun r8 s8 h => ?_)
  refine G_istore_n (L' := [rv 75, iv r8, none]) C dX12_text_38 (by decide) rfl ?_
  refine G_aload_n C dX12_text_39 rfl ?_
  refine G_iconst C dX12_text_40 ?_
  refine gP_X12_24 C ly_75 rfl wf_X12_157 dX12_text_41 ?_
  have h := h _ rfl
  obtain ⟨s9, e9⟩ : ∃ z, z = up s8 75 24 0 := ⟨_, rfl⟩
  rw [← e9] at h ⊢
  refine G_iload_n C dX12_text_44 rfl ?_
  refine G_iconst C dX12_text_45 ?_
  refine G_icmp_ne (tgt := 67) C dX12_text_46 (by decide) ⟨h.1, (by decide)⟩ (fun q => ?_) (fun q => ?_)
  · have h := h.2.1 q
    refine G_iconst C dX12_text_67 ?_
    refine G_istore_n (L' := [rv 75, iv r8, iv 0]) C dX12_text_68 (by decide) rfl ?_
    exact h
  · have h := h.2.2 q
    refine G_aload_n C dX12_text_49 rfl ?_
    refine G_aload_n C dX12_text_50 rfl ?_
    refine gI_X12_40 C ly_75 rfl wf_X12_240 dX12_text_51 ?_
    refine gP_X12_42 C ly_75 rfl wf_X12_292 dX12_text_54 ?_
    have h := h _ rfl
    obtain ⟨s10, e10⟩ : ∃ z, z = up s9 75 42 (s9 75 40) := ⟨_, rfl⟩
    rw [← e10] at h ⊢
    refine G_aload_n C dX12_text_57 rfl ?_
    refine G_aload_n C dX12_text_58 rfl ?_
    refine gI_X12_41 C ly_75 rfl wf_X12_243 dX12_text_59 ?_
    refine gP_X12_43 C ly_75 rfl wf_X12_83 dX12_text_62 ?_
    have h := h _ rfl
    obtain ⟨s11, e11⟩ : ∃ z, z = up s10 75 43 (s10 75 41) := ⟨_, rfl⟩
    rw [← e11] at h ⊢
    refine G_iconst C dX12_text_65 ?_
    exact r _ _ _ _ dX12_text_66 h
set_option maxRecDepth 20000 in
theorem kb_X12_text_69 {X : Cx} {d : Nat} {P : Int → Sto → Prop} (C : Ok LY X RX12 cX12_text 3 d) (r : RetI LY X cX12_text P) {v1 v2 : Int} {s : Sto} (h : ((rg v2 ∧ rg v1) ∧ ((v1 ≤ v2 → G LY X 127 [rv 75, iv v1, iv 0] [] s) ∧ (v2 < v1 → ((0 ≤ (16 + v2) ∧ (16 + v2) < 32) ∧ ((0 ≤ v2 ∧ v2 < 32) ∧ (∀ s1 : Sto, s1 = up s 93 v2 (s 93 (16 + v2)) → ((0 ≤ (16 + v2) ∧ (16 + v2) < 32) ∧ ((0 ≤ v2 ∧ v2 < 32) ∧ (∀ s2 : Sto, s2 = up s1 94 v2 (s1 94 (16 + v2)) → ((0 ≤ (16 + v2) ∧ (16 + v2) < 32) ∧ ((0 ≤ v2 ∧ v2 < 32) ∧ (∀ s3 : Sto, s3 = up s2 95 v2 (s2 95 (16 + v2)) → G LY X 69 [rv 75, iv v1, iv (v2 + 1)] [] s3))))))))))))) : G LY X 69 [rv 75, iv v1, iv v2] [] s := by
  refine G_iload_n C dX12_text_69 rfl ?_
  refine G_iload_n C dX12_text_70 rfl ?_
  refine G_icmp_ge (tgt := 125) C dX12_text_71 (by decide) ⟨h.1.1, h.1.2⟩ (fun q => ?_) (fun q => ?_)
  · have h := h.2.1 q
    refine G_iconst C dX12_text_125 ?_
    refine G_istore_n (L' := [rv 75, iv v1, iv 0]) C dX12_text_126 (by decide) rfl ?_
    exact h
  · have h := h.2.2 q
    refine G_aload_n C dX12_text_74 rfl ?_
    refine gR_X12_31 C ly_75 rfl wf_X12_65 dX12_text_75 ?_
    refine G_iload_n C dX12_text_78 rfl ?_
    refine G_aload_n C dX12_text_79 rfl ?_
    refine gR_X12_31 C ly_75 rfl wf_X12_65 dX12_text_80 ?_
    refine G_bipush C dX12_text_83 bi_16 ?_
    refine G_iload_n C dX12_text_85 rfl ?_
    refine G_iadd C dX12_text_86 ?_
    refine G_iald C ly_93 (by decide) h.1 dX12_text_87 ?_
    have h := h.2
    refine G_iast C ly_93 (by decide) h.1 dX12_text_88 ?_
    have h := h.2
    have h := h _ rfl
    obtain ⟨s1, e1⟩ : ∃ z, z = up s 93 v2 (s 93 (16 + v2)) := ⟨_, rfl⟩
    rw [← e1] at h ⊢
    refine G_aload_n C dX12_text_89 rfl ?_
    refine gR_X12_32 C ly_75 rfl wf_X12_68 dX12_text_90 ?_
    refine G_iload_n C dX12_text_93 rfl ?_
    refine G_aload_n C dX12_text_94 rfl ?_
    refine gR_X12_32 C ly_75 rfl wf_X12_68 dX12_text_95 ?_
    refine G_bipush C dX12_text_98 bi_16 ?_
    refine G_iload_n C dX12_text_100 rfl ?_
    refine G_iadd C dX12_text_101 ?_
    refine G_iald C ly_94 (by decide) h.1 dX12_text_102 ?_
    have h := h.2
    refine G_iast C ly_94 (by decide) h.1 dX12_text_103 ?_
    have h := h.2
    have h := h _ rfl
    obtain ⟨s2, e2⟩ : ∃ z, z = up s1 94 v2 (s1 94 (16 + v2)) := ⟨_, rfl⟩
    rw [← e2] at h ⊢
    refine G_aload_n C dX12_text_104 rfl ?_
    refine gR_X12_33 C ly_75 rfl wf_X12_71 dX12_text_105 ?_
    refine G_iload_n C dX12_text_108 rfl ?_
    refine G_aload_n C dX12_text_109 rfl ?_
    refine gR_X12_33 C ly_75 rfl wf_X12_71 dX12_text_110 ?_
    refine G_bipush C dX12_text_113 bi_16 ?_
    refine G_iload_n C dX12_text_115 rfl ?_
    refine G_iadd C dX12_text_116 ?_
    refine G_iald C ly_95 (by decide) h.1 dX12_text_117 ?_
    have h := h.2
    refine G_iast C ly_95 (by decide) h.1 dX12_text_118 ?_
    have h := h.2
    have h := h _ rfl
    obtain ⟨s3, e3⟩ : ∃ z, z = up s2 95 v2 (s2 95 (16 + v2)) := ⟨_, rfl⟩
    rw [← e3] at h ⊢
    refine G_iinc (L' := [rv 75, iv v1, iv (v2 + 1)]) C dX12_text_119 (by decide) rfl rfl ?_
    refine G_goto (tgt := 69) C dX12_text_122 (by decide) ?_
    exact h
set_option maxRecDepth 20000 in
theorem kb_X12_text_127 {X : Cx} {d : Nat} {P : Int → Sto → Prop} (C : Ok LY X RX12 cX12_text 3 d) (r : RetI LY X cX12_text P) {v1 v2 : Int} {s : Sto} (h : ((rg v2 ∧ rg (s 75 36)) ∧ (((s 75 36) ≤ v2 → (∀ s1 : Sto, s1 = up s 75 30 v1 → P v1 s1)) ∧ (v2 < (s 75 36) → ((0 ≤ (400 + v2) ∧ (400 + v2) < 800) ∧ ((0 ≤ v2 ∧ v2 < 800) ∧ (∀ s2 : Sto, s2 = up s 96 v2 (s 96 (400 + v2)) → ((0 ≤ (400 + v2) ∧ (400 + v2) < 800) ∧ ((0 ≤ v2 ∧ v2 < 800) ∧ (∀ s3 : Sto, s3 = up s2 97 v2 (s2 97 (400 + v2)) → G LY X 127 [rv 75, iv v1, iv (v2 + 1)] [] s3)))))))))) : G LY X 127 [rv 75, iv v1, iv v2] [] s := by
  refine G_iload_n C dX12_text_127 rfl ?_
  refine G_aload_n C dX12_text_128 rfl ?_
  refine gI_X12_36 C ly_75 rfl wf_X12_246 dX12_text_129 ?_
  refine G_icmp_ge (tgt := 173) C dX12_text_132 (by decide) ⟨h.1.1, h.1.2⟩ (fun q => ?_) (fun q => ?_)
  · have h := h.2.1 q
    refine G_aload_n C dX12_text_173 rfl ?_
    refine G_iload_n C dX12_text_174 rfl ?_
    refine gP_X12_30 C ly_75 rfl wf_X12_180 dX12_text_175 ?_
    have h := h _ rfl
    obtain ⟨s1, e1⟩ : ∃ z, z = up s 75 30 v1 := ⟨_, rfl⟩
    rw [← e1] at h ⊢
    refine G_iload_n C dX12_text_178 rfl ?_
    exact r _ _ _ _ dX12_text_179 h
  · have h := h.2.2 q
    refine G_aload_n C dX12_text_135 rfl ?_
    refine gR_X12_34 C ly_75 rfl wf_X12_74 dX12_text_136 ?_
    refine G_iload_n C dX12_text_139 rfl ?_
    refine G_aload_n C dX12_text_140 rfl ?_
    refine gR_X12_34 C ly_75 rfl wf_X12_74 dX12_text_141 ?_
    refine G_sipush C dX12_text_144 si_400 ?_
    refine G_iload_n C dX12_text_147 rfl ?_
    refine G_iadd C dX12_text_148 ?_
    refine G_iald C ly_96 (by decide) h.1 dX12_text_149 ?_
    have h := h.2
    refine G_iast C ly_96 (by decide) h.1 dX12_text_150 ?_
    have h := h.2
    have h := h _ rfl
    obtain ⟨s2, e2⟩ : ∃ z, z = up s 96 v2 (s 96 (400 + v2)) := ⟨_, rfl⟩
    rw [← e2] at h ⊢
    refine G_aload_n C dX12_text_151 rfl ?_
    refine gR_X12_35 C ly_75 rfl wf_X12_77 dX12_text_152 ?_
    refine G_iload_n C dX12_text_155 rfl ?_
    refine G_aload_n C dX12_text_156 rfl ?_
    refine gR_X12_35 C ly_75 rfl wf_X12_77 dX12_text_157 ?_
    refine G_sipush C dX12_text_160 si_400 ?_
    refine G_iload_n C dX12_text_163 rfl ?_
    refine G_iadd C dX12_text_164 ?_
    refine G_iald C ly_97 (by decide) h.1 dX12_text_165 ?_
    have h := h.2
    refine G_iast C ly_97 (by decide) h.1 dX12_text_166 ?_
    have h := h.2
    have h := h _ rfl
    obtain ⟨s3, e3⟩ : ∃ z, z = up s2 97 v2 (s2 97 (400 + v2)) := ⟨_, rfl⟩
    rw [← e3] at h ⊢
    refine G_iinc (L' := [rv 75, iv v1, iv (v2 + 1)]) C dX12_text_167 (by decide) rfl rfl ?_
    refine G_goto (tgt := 127) C dX12_text_170 (by decide) ?_
    exact h
set_option maxRecDepth 20000 in
theorem kb_X12_fault_0 {X : Cx} {d : Nat} {P : Int → Sto → Prop} (C : Ok LY X RX12 cX12_fault 2 d) (r : RetI LY X cX12_fault P) {v1 : Int} {s : Sto} (h : (∀ s1 : Sto, s1 = up s 75 0 0 → ((rg v1) ∧ ((v1 ≠ 0 → ((rg v1) ∧ ((v1 ≠ 1 → P (-1) s1) ∧ (v1 = 1 → P (s1 75 43) s1)))) ∧ (v1 = 0 → P (s1 75 42) s1))))) : G LY X 0 [rv 75, iv v1] [] s := by
  refine G_aload_n C dX12_fault_0 rfl ?_
  refine G_iconst C dX12_fault_1 ?_
  refine gP_X12_0 C ly_75 rfl wf_X12_146 dX12_fault_2 ?_
  have h := h _ rfl
  obtain ⟨s1, e1⟩ : ∃ z, z = up s 75 0 0 := ⟨_, rfl⟩
  rw [← e1] at h ⊢
  refine G_iload_n C dX12_fault_5 rfl ?_
  refine G_if_ne (tgt := 16) C dX12_fault_6 (by decide) h.1 (fun q => ?_) (fun q => ?_)
  · have h := h.2.1 q
    refine G_iload_n C dX12_fault_16 rfl ?_
    refine G_iconst C dX12_fault_17 ?_
    refine G_icmp_ne (tgt := 28) C dX12_fault_18 (by decide) ⟨h.1, (by decide)⟩ (fun q => ?_) (fun q => ?_)
    · have h := h.2.1 q
      refine G_iconst C dX12_fault_28 ?_
      exact r _ _ _ _ dX12_fault_29 h
    · have h := h.2.2 q
      refine G_aload_n C dX12_fault_21 rfl ?_
      refine gI_X12_43 C ly_75 rfl wf_X12_83 dX12_fault_22 ?_
      refine G_goto (tgt := 29) C dX12_fault_25 (by decide) ?_
      exact r _ _ _ _ dX12_fault_29 h
  · have h := h.2.2 q
    refine G_aload_n C dX12_fault_9 rfl ?_
    refine gI_X12_42 C ly_75 rfl wf_X12_292 dX12_fault_10 ?_
    refine G_goto (tgt := 29) C dX12_fault_13 (by decide) ?_
    exact r _ _ _ _ dX12_fault_29 h
set_option maxRecDepth 20000 in
theorem kb_X12_of_0 {X : Cx} {d : Nat} {P : Int → Sto → Prop} (C : Ok LY X RX12 cX12_of 4 d) (r : RetI LY X cX12_of P) {v1 v2 : Int} {s : Sto} (h : (∀ s1 : Sto, s1 = up s 75 0 0 → (CallI LY d MX12_isOne [.inr 75, .inl v1] s1 (fun r2 s2 => ((rg r2) ∧ ((r2 ≠ 0 → ((rg v2) ∧ ((v2 ≠ 0 → ((rg v2) ∧ ((v2 ≠ 1 → ((rg v2) ∧ ((v2 ≠ 2 → ((rg v2) ∧ ((v2 ≠ 3 → ((rg v2) ∧ ((v2 = 4 → (CallV LY d MX12_queues [.inr 75, .inl 0] s2 (fun s3 => G LY X 116 [rv 75, iv v1, iv v2, iv 0] [] s3))) ∧ (v2 ≠ 4 → ((0 ≤ v1 ∧ v1 < 51) ∧ (CallI LY d MX12_isIn [.inr 75, .inl v2, .inl 10, .inl (9 + (s2 76 v1))] s2 (fun r4 s4 => ((rg r4) ∧ ((r4 = 0 → P (-1000000) s4) ∧ (r4 ≠ 0 → ((0 ≤ (((6 * v1) + v2) - 10) ∧ (((6 * v1) + v2) - 10) < 306) ∧ P (s4 77 (((6 * v1) + v2) - 10)) s4))))))))))) ∧ (v2 = 3 → ((0 ≤ v1 ∧ v1 < 51) ∧ P (s2 76 v1) s2))))) ∧ (v2 = 2 → ((0 ≤ v1 ∧ v1 < 20) ∧ P (s2 80 v1) s2))))) ∧ (v2 = 1 → ((0 ≤ v1 ∧ v1 < 20) ∧ P (s2 79 v1) s2))))) ∧ (v2 = 0 → ((0 ≤ v1 ∧ v1 < 20) ∧ P (s2 78 v1) s2))))) ∧ (r2 = 0 → P (-1000000) s2))))))) : G LY X 0 [rv 75, iv v1, iv v2, none] [] s := by
  refine G_aload_n C dX12_of_0 rfl ?_
  refine G_iconst C dX12_of_1 ?_
  refine gP_X12_0 C ly_75 rfl wf_X12_146 dX12_of_2 ?_
  have h := h _ rfl
  obtain ⟨s1, e1⟩ : ∃ z, z = up s 75 0 0 := ⟨_, rfl⟩
  rw [← e1] at h ⊢
  refine G_aload_n C dX12_of_5 rfl ?_
  refine G_iload_n C dX12_of_6 rfl ?_
  refine G_callVI (K := []) (args := [.inl v1]) (T := TX12) (N := 72) C ly_75 rfl (Nat.le_of_ble_eq_true rfl) mo_X12_isOne wc_X12_191 rfl dX12_of_7 h (fun r2 s2 h => ?_)
  refine G_if_ne (tgt := 17) C dX12_of_10 (by decide) h.1 (fun q => ?_) (fun q => ?_)
  · have h := h.2.1 q
    refine G_iload_n C dX12_of_17 rfl ?_
    refine G_if_ne (tgt := 28) C dX12_of_18 (by decide) h.1 (fun q => ?_) (fun q => ?_)
    · have h := h.2.1 q
      refine G_iload_n C dX12_of_28 rfl ?_
      refine G_iconst C dX12_of_29 ?_
      refine G_icmp_ne (tgt := 40) C dX12_of_30 (by decide) ⟨h.1, (by decide)⟩ (fun q => ?_) (fun q => ?_)
      · have h := h.2.1 q
        refine G_iload_n C dX12_of_40 rfl ?_
        refine G_iconst C dX12_of_41 ?_
        refine G_icmp_ne (tgt := 52) C dX12_of_42 (by decide) ⟨h.1, (by decide)⟩ (fun q => ?_) (fun q => ?_)
        · have h := h.2.1 q
          refine G_iload_n C dX12_of_52 rfl ?_
          refine G_iconst C dX12_of_53 ?_
          refine G_icmp_ne (tgt := 64) C dX12_of_54 (by decide) ⟨h.1, (by decide)⟩ (fun q => ?_) (fun q => ?_)
          · have h := h.2.1 q
            refine G_iload_n C dX12_of_64 rfl ?_
            refine G_iconst C dX12_of_65 ?_
            refine G_icmp_eq (tgt := 109) C dX12_of_66 (by decide) ⟨h.1, (by decide)⟩ (fun q => ?_) (fun q => ?_)
            · have h := h.2.1 q
              refine G_aload_n C dX12_of_109 rfl ?_
              refine G_iconst C dX12_of_110 ?_
              refine G_callVV (K := []) (args := [.inl 0]) (T := TX12) (N := 72) C ly_75 rfl (Nat.le_of_ble_eq_true rfl) mo_X12_queues wc_X12_318 rfl dX12_of_111 h (fun s3 h => ?_)
              refine G_iconst C dX12_of_114 ?_
              refine G_istore_n (L' := [rv 75, iv v1, iv v2, iv 0]) C dX12_of_115 (by decide) rfl ?_
              exact h
            · have h := h.2.2 q
              refine G_aload_n C dX12_of_69 rfl ?_
              refine G_iload_n C dX12_of_70 rfl ?_
              refine G_bipush C dX12_of_71 bi_10 ?_
              refine G_bipush C dX12_of_73 bi_9 ?_
              refine G_aload_n C dX12_of_75 rfl ?_
              refine gR_X12_2 C ly_75 rfl wf_X12_7 dX12_of_76 ?_
              refine G_iload_n C dX12_of_79 rfl ?_
              refine G_iald C ly_76 (by decide) h.1 dX12_of_80 ?_
              have h := h.2
              refine G_iadd C dX12_of_81 ?_
              refine G_callVI (K := []) (args := [.inl v2, .inl 10, .inl (9 + (s2 76 v1))]) (T := TX12) (N := 72) C ly_75 rfl (Nat.le_of_ble_eq_true rfl) mo_X12_isIn wc_X12_160 rfl dX12_of_82 h (fun r4 s4 h => ?_)
              refine G_if_eq (tgt := 105) C dX12_of_85 (by decide) h.1 (fun q => ?_) (fun q => ?_)
              · have h := h.2.1 q
                refine G_ldcw C wk_X12_327 (z := (-1000000)) (by decide) dX12_of_105 ?_
                exact r _ _ _ _ dX12_of_108 h
              · have h := h.2.2 q
                refine G_aload_n C dX12_of_88 rfl ?_
                refine gR_X12_3 C ly_75 rfl wf_X12_13 dX12_of_89 ?_
                refine G_bipush C dX12_of_92 bi_6 ?_
                refine G_iload_n C dX12_of_94 rfl ?_
                refine G_imul C dX12_of_95 ?_
                refine G_iload_n C dX12_of_96 rfl ?_
                refine G_iadd C dX12_of_97 ?_
                refine G_bipush C dX12_of_98 bi_10 ?_
                refine G_isub C dX12_of_100 ?_
                refine G_iald C ly_77 (by decide) h.1 dX12_of_101 ?_
                have h := h.2
                refine G_goto (tgt := 108) C dX12_of_102 (by decide) ?_
                exact r _ _ _ _ dX12_of_108 h
          · have h := h.2.2 q
            refine G_aload_n C dX12_of_57 rfl ?_
            refine gR_X12_2 C ly_75 rfl wf_X12_7 dX12_of_58 ?_
            refine G_iload_n C dX12_of_61 rfl ?_
            refine G_iald C ly_76 (by decide) h.1 dX12_of_62 ?_
            have h := h.2
            exact r _ _ _ _ dX12_of_63 h
        · have h := h.2.2 q
          refine G_aload_n C dX12_of_45 rfl ?_
          refine gR_X12_7 C ly_75 rfl wf_X12_22 dX12_of_46 ?_
          refine G_iload_n C dX12_of_49 rfl ?_
          refine G_iald C ly_80 (by decide) h.1 dX12_of_50 ?_
          have h := h.2
          exact r _ _ _ _ dX12_of_51 h
      · have h := h.2.2 q
        refine G_aload_n C dX12_of_33 rfl ?_
        refine gR_X12_6 C ly_75 rfl wf_X12_19 dX12_of_34 ?_
        refine G_iload_n C dX12_of_37 rfl ?_
        refine G_iald C ly_79 (by decide) h.1 dX12_of_38 ?_
        have h := h.2
        exact r _ _ _ _ dX12_of_39 h
    · have h := h.2.2 q
      refine G_aload_n C dX12_of_21 rfl ?_
      refine gR_X12_5 C ly_75 rfl wf_X12_16 dX12_of_22 ?_
      refine G_iload_n C dX12_of_25 rfl ?_
      refine G_iald C ly_78 (by decide) h.1 dX12_of_26 ?_
      have h := h.2
      exact r _ _ _ _ dX12_of_27 h
  · have h := h.2.2 q
    refine G_ldcw C wk_X12_327 (z := (-1000000)) (by decide) dX12_of_13 ?_
    exact r _ _ _ _ dX12_of_16 h
set_option maxRecDepth 20000 in
theorem kb_X12_of_116 {X : Cx} {d : Nat} {P : Int → Sto → Prop} (C : Ok LY X RX12 cX12_of 4 d) (r : RetI LY X cX12_of P) {v1 v2 v3 : Int} {s : Sto} (h : ((0 ≤ v3 ∧ v3 < 20) ∧ ((rg (s 102 v3) ∧ rg v1) ∧ (((s 102 v3) = v1 → P v3 s) ∧ ((s 102 v3) ≠ v1 → G LY X 116 [rv 75, iv v1, iv v2, iv (v3 + 1)] [] s))))) : G LY X 116 [rv 75, iv v1, iv v2, iv v3] [] s := by
  refine G_aload_n C dX12_of_116 rfl ?_
  refine gR_X12_47 C ly_75 rfl wf_X12_95 dX12_of_117 ?_
  refine G_iload_n C dX12_of_120 rfl ?_
  refine G_iald C ly_102 (by decide) h.1 dX12_of_121 ?_
  have h := h.2
  refine G_iload_n C dX12_of_122 rfl ?_
  refine G_icmp_eq (tgt := 133) C dX12_of_123 (by decide) ⟨h.1.1, h.1.2⟩ (fun q => ?_) (fun q => ?_)
  · have h := h.2.1 q
    refine G_iload_n C dX12_of_133 rfl ?_
    exact r _ _ _ _ dX12_of_134 h
  · have h := h.2.2 q
    refine G_iload_n C dX12_of_126 rfl ?_
    refine G_iconst C dX12_of_127 ?_
    refine G_iadd C dX12_of_128 ?_
    refine G_istore_n (L' := [rv 75, iv v1, iv v2, iv (v3 + 1)]) C dX12_of_129 (by decide) rfl ?_
    refine G_goto (tgt := 116) C dX12_of_130 (by decide) ?_
    exact h
set_option maxRecDepth 20000 in
theorem kb_X12_worth_0 {X : Cx} {d : Nat} {P : Int → Sto → Prop} (C : Ok LY X RX12 cX12_worth 3 d) (r : RetI LY X cX12_worth P) {v1 v2 : Int} {s : Sto} (h : (∀ s1 : Sto, s1 = up s 75 0 0 → (CallI LY d MX12_isOne [.inr 75, .inl v1] s1 (fun r2 s2 => ((rg r2) ∧ ((r2 = 0 → P (-1000000) s2) ∧ (r2 ≠ 0 → (CallI LY d MX12_isIn [.inr 75, .inl v2, .inl (-1), .inl 5] s2 (fun r3 s3 => ((rg r3) ∧ ((r3 = 0 → P (-1000000) s3) ∧ (r3 ≠ 0 → ((rg v2) ∧ ((v2 < 0 → ((rg v2) ∧ ((v2 ≠ (-1) → (CallI LY d MX12_worthOf [.inr 75, .inl v1, .inl (1 + v2)] s3 (fun r4 s4 => P r4 s4))) ∧ (v2 = (-1) → (CallI LY d MX12_worthOf [.inr 75, .inl v1, .inl 0] s3 (fun r5 s5 => P r5 s5)))))) ∧ (0 ≤ v2 → ((0 ≤ v2 ∧ v2 < 6) ∧ ((rg (s3 88 v2)) ∧ (((s3 88 v2) ≠ 0 → ((rg v2) ∧ ((v2 ≠ (-1) → (CallI LY d MX12_worthOf [.inr 75, .inl v1, .inl (1 + v2)] s3 (fun r6 s6 => P r6 s6))) ∧ (v2 = (-1) → (CallI LY d MX12_worthOf [.inr 75, .inl v1, .inl 0] s3 (fun r7 s7 => P r7 s7)))))) ∧ ((s3 88 v2) = 0 → P (-1000000) s3))))))))))))))))))) : G LY X 0 [rv 75, iv v1, iv v2] [] s := by
  refine G_aload_n C dX12_worth_0 rfl ?_
  refine G_iconst C dX12_worth_1 ?_
  refine gP_X12_0 C ly_75 rfl wf_X12_146 dX12_worth_2 ?_
  have h := h _ rfl
  obtain ⟨s1, e1⟩ : ∃ z, z = up s 75 0 0 := ⟨_, rfl⟩
  rw [← e1] at h ⊢
  refine G_aload_n C dX12_worth_5 rfl ?_
  refine G_iload_n C dX12_worth_6 rfl ?_
  refine G_callVI (K := []) (args := [.inl v1]) (T := TX12) (N := 72) C ly_75 rfl (Nat.le_of_ble_eq_true rfl) mo_X12_isOne wc_X12_191 rfl dX12_worth_7 h (fun r2 s2 h => ?_)
  refine G_if_eq (tgt := 36) C dX12_worth_10 (by decide) h.1 (fun q => ?_) (fun q => ?_)
  · have h := h.2.1 q
    refine G_ldcw C wk_X12_327 (z := (-1000000)) (by decide) dX12_worth_36 ?_
    exact r _ _ _ _ dX12_worth_39 h
  · have h := h.2.2 q
    refine G_aload_n C dX12_worth_13 rfl ?_
    refine G_iload_n C dX12_worth_14 rfl ?_
    refine G_iconst C dX12_worth_15 ?_
    refine G_iconst C dX12_worth_16 ?_
    refine G_callVI (K := []) (args := [.inl v2, .inl (-1), .inl 5]) (T := TX12) (N := 72) C ly_75 rfl (Nat.le_of_ble_eq_true rfl) mo_X12_isIn wc_X12_160 rfl dX12_worth_17 h (fun r3 s3 h => ?_)
    refine G_if_eq (tgt := 36) C dX12_worth_20 (by decide) h.1 (fun q => ?_) (fun q => ?_)
    · have h := h.2.1 q
      refine G_ldcw C wk_X12_327 (z := (-1000000)) (by decide) dX12_worth_36 ?_
      exact r _ _ _ _ dX12_worth_39 h
    · have h := h.2.2 q
      refine G_iload_n C dX12_worth_23 rfl ?_
      refine G_if_lt (tgt := 40) C dX12_worth_24 (by decide) h.1 (fun q => ?_) (fun q => ?_)
      · have h := h.2.1 q
        refine G_aload_n C dX12_worth_40 rfl ?_
        refine G_iload_n C dX12_worth_41 rfl ?_
        refine G_iload_n C dX12_worth_42 rfl ?_
        refine G_iconst C dX12_worth_43 ?_
        refine G_icmp_ne (tgt := 51) C dX12_worth_44 (by decide) ⟨h.1, (by decide)⟩ (fun q => ?_) (fun q => ?_)
        · have h := h.2.1 q
          refine G_iconst C dX12_worth_51 ?_
          refine G_iload_n C dX12_worth_52 rfl ?_
          refine G_iadd C dX12_worth_53 ?_
          refine G_callVI (K := []) (args := [.inl v1, .inl (1 + v2)]) (T := TX12) (N := 72) C ly_75 rfl (Nat.le_of_ble_eq_true rfl) mo_X12_worthOf wc_X12_328 rfl dX12_worth_54 h (fun r4 s4 h => ?_)
          exact r _ _ _ _ dX12_worth_57 h
        · have h := h.2.2 q
          refine G_iconst C dX12_worth_47 ?_
          refine G_goto (tgt := 54) C dX12_worth_48 (by decide) ?_
          refine G_callVI (K := []) (args := [.inl v1, .inl 0]) (T := TX12) (N := 72) C ly_75 rfl (Nat.le_of_ble_eq_true rfl) mo_X12_worthOf wc_X12_328 rfl dX12_worth_54 h (fun r5 s5 h => ?_)
          exact r _ _ _ _ dX12_worth_57 h
      · have h := h.2.2 q
        refine G_aload_n C dX12_worth_27 rfl ?_
        refine gR_X12_17 C ly_75 rfl wf_X12_50 dX12_worth_28 ?_
        refine G_iload_n C dX12_worth_31 rfl ?_
        refine G_iald C ly_88 (by decide) h.1 dX12_worth_32 ?_
        have h := h.2
        refine G_if_ne (tgt := 40) C dX12_worth_33 (by decide) h.1 (fun q => ?_) (fun q => ?_)
        · have h := h.2.1 q
          refine G_aload_n C dX12_worth_40 rfl ?_
          refine G_iload_n C dX12_worth_41 rfl ?_
          refine G_iload_n C dX12_worth_42 rfl ?_
          refine G_iconst C dX12_worth_43 ?_
          refine G_icmp_ne (tgt := 51) C dX12_worth_44 (by decide) ⟨h.1, (by decide)⟩ (fun q => ?_) (fun q => ?_)
          · have h := h.2.1 q
            refine G_iconst C dX12_worth_51 ?_
            refine G_iload_n C dX12_worth_52 rfl ?_
            refine G_iadd C dX12_worth_53 ?_
            refine G_callVI (K := []) (args := [.inl v1, .inl (1 + v2)]) (T := TX12) (N := 72) C ly_75 rfl (Nat.le_of_ble_eq_true rfl) mo_X12_worthOf wc_X12_328 rfl dX12_worth_54 h (fun r6 s6 h => ?_)
            exact r _ _ _ _ dX12_worth_57 h
          · have h := h.2.2 q
            refine G_iconst C dX12_worth_47 ?_
            refine G_goto (tgt := 54) C dX12_worth_48 (by decide) ?_
            refine G_callVI (K := []) (args := [.inl v1, .inl 0]) (T := TX12) (N := 72) C ly_75 rfl (Nat.le_of_ble_eq_true rfl) mo_X12_worthOf wc_X12_328 rfl dX12_worth_54 h (fun r7 s7 h => ?_)
            exact r _ _ _ _ dX12_worth_57 h
        · have h := h.2.2 q
          refine G_ldcw C wk_X12_327 (z := (-1000000)) (by decide) dX12_worth_36 ?_
          exact r _ _ _ _ dX12_worth_39 h
set_option maxRecDepth 20000 in
theorem kb_X12_expected_0 {X : Cx} {d : Nat} {P : Int → Sto → Prop} (C : Ok LY X RX12 cX12_expected 8 d) (r : RetI LY X cX12_expected P) {v1 v2 : Int} {s : Sto} (h : (∀ s1 : Sto, s1 = up s 75 0 0 → (CallI LY d MX12_isOne [.inr 75, .inl v1] s1 (fun r2 s2 => ((rg r2) ∧ ((r2 = 0 → P (-1000000) s2) ∧ (r2 ≠ 0 → (CallI LY d MX12_isIn [.inr 75, .inl v2, .inl 0, .inl 1] s2 (fun r3 s3 => ((rg r3) ∧ ((r3 ≠ 0 → G LY X 35 [rv 75, iv v1, iv v2, iv 0, iv 0, iv 0, none, none] [] s3) ∧ (r3 = 0 → P (-1000000) s3)))))))))))) : G LY X 0 [rv 75, iv v1, iv v2, none, none, none, none, none] [] s := by
  refine G_aload_n C dX12_expected_0 rfl ?_
  refine G_iconst C dX12_expected_1 ?_
  refine gP_X12_0 C ly_75 rfl wf_X12_146 dX12_expected_2 ?_
  have h := h _ rfl
  obtain ⟨s1, e1⟩ : ∃ z, z = up s 75 0 0 := ⟨_, rfl⟩
  rw [← e1] at h ⊢
  refine G_aload_n C dX12_expected_5 rfl ?_
  refine G_iload_n C dX12_expected_6 rfl ?_
  refine G_callVI (K := []) (args := [.inl v1]) (T := TX12) (N := 72) C ly_75 rfl (Nat.le_of_ble_eq_true rfl) mo_X12_isOne wc_X12_191 rfl dX12_expected_7 h (fun r2 s2 h => ?_)
  refine G_if_eq (tgt := 23) C dX12_expected_10 (by decide) h.1 (fun q => ?_) (fun q => ?_)
  · have h := h.2.1 q
    refine G_ldcw C wk_X12_327 (z := (-1000000)) (by decide) dX12_expected_23 ?_
    exact r _ _ _ _ dX12_expected_26 h
  · have h := h.2.2 q
    refine G_aload_n C dX12_expected_13 rfl ?_
    refine G_iload_n C dX12_expected_14 rfl ?_
    refine G_iconst C dX12_expected_15 ?_
    refine G_iconst C dX12_expected_16 ?_
    refine G_callVI (K := []) (args := [.inl v2, .inl 0, .inl 1]) (T := TX12) (N := 72) C ly_75 rfl (Nat.le_of_ble_eq_true rfl) mo_X12_isIn wc_X12_160 rfl dX12_expected_17 h (fun r3 s3 h => ?_)
    refine G_if_ne (tgt := 27) C dX12_expected_20 (by decide) h.1 (fun q => ?_) (fun q => ?_)
    · have h := h.2.1 q
      refine G_iconst C dX12_expected_27 ?_
      refine G_istore_n (L' := [rv 75, iv v1, iv v2, iv 0, none, none, none, none]) C dX12_expected_28 (by decide) rfl ?_
      refine G_iconst C dX12_expected_29 ?_
      refine G_istore (L' := [rv 75, iv v1, iv v2, iv 0, iv 0, none, none, none]) C dX12_expected_30 (by decide) rfl ?_
      refine G_iconst C dX12_expected_32 ?_
      refine G_istore (L' := [rv 75, iv v1, iv v2, iv 0, iv 0, iv 0, none, none]) C dX12_expected_33 (by decide) rfl ?_
      exact h
    · have h := h.2.2 q
      refine G_ldcw C wk_X12_327 (z := (-1000000)) (by decide) dX12_expected_23 ?_
      exact r _ _ _ _ dX12_expected_26 h
set_option maxRecDepth 20000 in
theorem kb_X12_expected_35 {X : Cx} {d : Nat} {P : Int → Sto → Prop} (C : Ok LY X RX12 cX12_expected 8 d) (r : RetI LY X cX12_expected P) {v1 v2 v3 v4 v5 : Int} {s : Sto} (h : ((rg v5) ∧ ((6 ≤ v5 → ((rg v4) ∧ ((v4 ≠ 0 → ((rg v3) ∧ ((0 ≤ v3 → G LY X 116 [rv 75, iv v1, iv v2, iv v3, iv v4, iv v3, iv v4, none] [] s) ∧ (v3 < 0 → G LY X 116 [rv 75, iv v1, iv v2, iv v3, iv v4, iv (-v3), iv v4, none] [] s)))) ∧ (v4 = 0 → P 0 s)))) ∧ (v5 < 6 → ((0 ≤ v5 ∧ v5 < 6) ∧ ((rg (s 88 v5)) ∧ (((s 88 v5) ≠ 0 → ((0 ≤ v5 ∧ v5 < 6) ∧ (CallI LY d MX12_worthOf [.inr 75, .inl v1, .inl (1 + v5)] s (fun r1 s1 => ((0 ≤ v5 ∧ v5 < 6) ∧ G LY X 35 [rv 75, iv v1, iv v2, iv (v3 + ((s 87 v5) * r1)), iv (v4 + (s1 87 v5)), iv (v5 + 1), none, none] [] s1))))) ∧ ((s 88 v5) = 0 → G LY X 35 [rv 75, iv v1, iv v2, iv v3, iv v4, iv (v5 + 1), none, none] [] s)))))))) : G LY X 35 [rv 75, iv v1, iv v2, iv v3, iv v4, iv v5, none, none] [] s := by
  refine G_iload C dX12_expected_35 rfl ?_
  refine G_bipush C dX12_expected_37 bi_6 ?_
  refine G_icmp_ge (tgt := 93) C dX12_expected_39 (by decide) ⟨h.1, (by decide)⟩ (fun q => ?_) (fun q => ?_)
  · have h := h.2.1 q
    refine G_iload C dX12_expected_93 rfl ?_
    refine G_if_ne (tgt := 100) C dX12_expected_95 (by decide) h.1 (fun q => ?_) (fun q => ?_)
    · have h := h.2.1 q
      refine G_iload_n C dX12_expected_100 rfl ?_
      refine G_if_ge (tgt := 109) C dX12_expected_101 (by decide) h.1 (fun q => ?_) (fun q => ?_)
      · have h := h.2.1 q
        refine G_iload_n C dX12_expected_109 rfl ?_
        refine G_istore (L' := [rv 75, iv v1, iv v2, iv v3, iv v4, iv v3, none, none]) C dX12_expected_110 (by decide) rfl ?_
        refine G_iload C dX12_expected_112 rfl ?_
        refine G_istore (L' := [rv 75, iv v1, iv v2, iv v3, iv v4, iv v3, iv v4, none]) C dX12_expected_114 (by decide) rfl ?_
        exact h
      · have h := h.2.2 q
        refine G_iload_n C dX12_expected_104 rfl ?_
        refine G_ineg C dX12_expected_105 ?_
        refine G_goto (tgt := 110) C dX12_expected_106 (by decide) ?_
        refine G_istore (L' := [rv 75, iv v1, iv v2, iv v3, iv v4, iv (-v3), none, none]) C dX12_expected_110 (by decide) rfl ?_
        refine G_iload C dX12_expected_112 rfl ?_
        refine G_istore (L' := [rv 75, iv v1, iv v2, iv v3, iv v4, iv (-v3), iv v4, none]) C dX12_expected_114 (by decide) rfl ?_
        exact h
    · have h := h.2.2 q
      refine G_iconst C dX12_expected_98 ?_
      exact r _ _ _ _ dX12_expected_99 h
  · have h := h.2.2 q
    refine G_aload_n C dX12_expected_42 rfl ?_
    refine gR_X12_17 C ly_75 rfl wf_X12_50 dX12_expected_43 ?_
    refine G_iload C dX12_expected_46 rfl ?_
    refine G_iald C ly_88 (by decide) h.1 dX12_expected_48 ?_
    have h := h.2
    refine G_if_ne (tgt := 55) C dX12_expected_49 (by decide) h.1 (fun q => ?_) (fun q => ?_)
    · have h := h.2.1 q
      refine G_iload_n C dX12_expected_55 rfl ?_
      refine G_aload_n C dX12_expected_56 rfl ?_
      refine gR_X12_16 C ly_75 rfl wf_X12_47 dX12_expected_57 ?_
      refine G_iload C dX12_expected_60 rfl ?_
      refine G_iald C ly_87 (by decide) h.1 dX12_expected_62 ?_
      have h := h.2
      refine G_aload_n C dX12_expected_63 rfl ?_
      refine G_iload_n C dX12_expected_64 rfl ?_
      refine G_iconst C dX12_expected_65 ?_
      refine G_iload C dX12_expected_66 rfl ?_
      refine G_iadd C dX12_expected_68 ?_
      refine G_callVI (K := [.inl (s 87 v5), .inl v3]) (args := [.inl v1, .inl (1 + v5)]) (T := TX12) (N := 72) C ly_75 rfl (Nat.le_of_ble_eq_true rfl) mo_X12_worthOf wc_X12_328 rfl dX12_expected_69 h (fun r1 s1 h => ?_)
      refine G_imul C dX12_expected_72 ?_
      refine G_iadd C dX12_expected_73 ?_
      refine G_istore_n (L' := [rv 75, iv v1, iv v2, iv (v3 + ((s 87 v5) * r1)), iv v4, iv v5, none, none]) C dX12_expected_74 (by decide) rfl ?_
      refine G_iload C dX12_expected_75 rfl ?_
      refine G_aload_n C dX12_expected_77 rfl ?_
      refine gR_X12_16 C ly_75 rfl wf_X12_47 dX12_expected_78 ?_
      refine G_iload C dX12_expected_81 rfl ?_
      refine G_iald C ly_87 (by decide) h.1 dX12_expected_83 ?_
      have h := h.2
      refine G_iadd C dX12_expected_84 ?_
      refine G_istore (L' := [rv 75, iv v1, iv v2, iv (v3 + ((s 87 v5) * r1)), iv (v4 + (s1 87 v5)), iv v5, none, none]) C dX12_expected_85 (by decide) rfl ?_
      refine G_iinc (L' := [rv 75, iv v1, iv v2, iv (v3 + ((s 87 v5) * r1)), iv (v4 + (s1 87 v5)), iv (v5 + 1), none, none]) C dX12_expected_87 (by decide) rfl rfl ?_
      refine G_goto (tgt := 35) C dX12_expected_90 (by decide) ?_
      exact h
    · have h := h.2.2 q
      refine G_goto (tgt := 87) C dX12_expected_52 (by decide) ?_
      refine G_iinc (L' := [rv 75, iv v1, iv v2, iv v3, iv v4, iv (v5 + 1), none, none]) C dX12_expected_87 (by decide) rfl rfl ?_
      refine G_goto (tgt := 35) C dX12_expected_90 (by decide) ?_
      exact h
set_option maxRecDepth 20000 in
theorem kb_X12_expected_116 {X : Cx} {d : Nat} {P : Int → Sto → Prop} (C : Ok LY X RX12 cX12_expected 8 d) (r : RetI LY X cX12_expected P) {v1 v2 v3 v4 v5 v6 : Int} {s : Sto} (h : ((rg v6) ∧ ((v6 = 0 → ((rg v2) ∧ ((v2 ≠ 0 → ((rg v5 ∧ v5 ≠ 0) ∧ P (xdiv v4 v5) s)) ∧ (v2 = 0 → ((rg v5 ∧ v5 ≠ 0) ∧ P (xdiv v3 v5) s))))) ∧ (v6 ≠ 0 → ((rg v6 ∧ v6 ≠ 0) ∧ G LY X 116 [rv 75, iv v1, iv v2, iv v3, iv v4, iv v6, iv (xrem v5 v6), none] [] s))))) : G LY X 116 [rv 75, iv v1, iv v2, iv v3, iv v4, iv v5, iv v6, none] [] s := by
  refine G_iload C dX12_expected_116 rfl ?_
  refine G_if_eq (tgt := 139) C dX12_expected_118 (by decide) h.1 (fun q => ?_) (fun q => ?_)
  · have h := h.2.1 q
    refine G_iload_n C dX12_expected_139 rfl ?_
    refine G_if_ne (tgt := 150) C dX12_expected_140 (by decide) h.1 (fun q => ?_) (fun q => ?_)
    · have h := h.2.1 q
      refine G_iload C dX12_expected_150 rfl ?_
      refine G_iload C dX12_expected_152 rfl ?_
      refine G_idiv C dX12_expected_154 h.1 ?_
      have h := h.2
      exact r _ _ _ _ dX12_expected_155 h
    · have h := h.2.2 q
      refine G_iload_n C dX12_expected_143 rfl ?_
      refine G_iload C dX12_expected_144 rfl ?_
      refine G_idiv C dX12_expected_146 h.1 ?_
      have h := h.2
      refine G_goto (tgt := 155) C dX12_expected_147 (by decide) ?_
      exact r _ _ _ _ dX12_expected_155 h
  · have h := h.2.2 q
    refine G_iload C dX12_expected_121 rfl ?_
    refine G_iload C dX12_expected_123 rfl ?_
    refine G_irem C dX12_expected_125 h.1 ?_
    have h := h.2
    refine G_istore (L' := [rv 75, iv v1, iv v2, iv v3, iv v4, iv v5, iv v6, iv (xrem v5 v6)]) C dX12_expected_126 (by decide) rfl ?_
    refine G_iload C dX12_expected_128 rfl ?_
    refine G_istore (L' := [rv 75, iv v1, iv v2, iv v3, iv v4, iv v6, iv v6, iv (xrem v5 v6)]) C dX12_expected_130 (by decide) rfl ?_
    refine G_iload C dX12_expected_132 rfl ?_
    refine G_istore (L' := [rv 75, iv v1, iv v2, iv v3, iv v4, iv v6, iv (xrem v5 v6), iv (xrem v5 v6)]) C dX12_expected_134 (by decide) rfl ?_
    refine G_goto (tgt := 116) C dX12_expected_136 (by decide) ?_
    refine G_drop (i := 7) (L' := [rv 75, iv v1, iv v2, iv v3, iv v4, iv v6, iv (xrem v5 v6), none]) rfl ?_
    exact h
set_option maxRecDepth 20000 in
theorem kb_X12_with_0 {X : Cx} {d : Nat} {P : Int → Sto → Prop} (C : Ok LY X RX12 cX12_with 4 d) (r : RetI LY X cX12_with P) {v1 v2 : Int} {s : Sto} (h : (∀ s1 : Sto, s1 = up s 75 0 0 → (CallI LY d MX12_takesName [.inr 75] s1 (fun r2 s2 => ((rg r2) ∧ ((r2 = 0 → P (-1000000) s2) ∧ (r2 ≠ 0 → (CallI LY d MX12_isOne [.inr 75, .inl v1] s2 (fun r3 s3 => ((rg r3) ∧ ((r3 = 0 → P (-1000000) s3) ∧ (r3 ≠ 0 → (CallI LY d MX12_isIn [.inr 75, .inl v2, .inl 0, .inl 3] s3 (fun r4 s4 => ((rg r4) ∧ ((r4 ≠ 0 → ((rg v2) ∧ ((v2 ≠ 0 → ((rg v2) ∧ ((v2 ≠ 1 → ((rg v2) ∧ ((v2 ≠ 2 → (CallI LY d MX12_worthWith [.inr 75, .inl v1, .inl 30] s4 (fun r5 s5 => P r5 s5))) ∧ (v2 = 2 → (CallI LY d MX12_gainOf [.inr 75, .inl v1, .inl 30] s4 (fun r6 s6 => P r6 s6)))))) ∧ (v2 = 1 → (CallI LY d MX12_feeOf [.inr 75, .inl v1, .inl 30] s4 (fun r7 s7 => P r7 s7)))))) ∧ (v2 = 0 → (CallI LY d MX12_worthOf [.inr 75, .inl v1, .inl 0] s4 (fun r8 s8 => (CallI LY d MX12_may [.inr 75, .inl v1, .inl 30, .inl r8] s8 (fun r9 s9 => ((rg r9) ∧ ((r9 = 0 → P 0 s9) ∧ (r9 ≠ 0 → P 1 s9))))))))))) ∧ (r4 = 0 → P (-1000000) s4))))))))))))))))) : G LY X 0 [rv 75, iv v1, iv v2, none] [] s := by
  refine G_aload_n C dX12_with_0 rfl ?_
  refine G_iconst C dX12_with_1 ?_
  refine gP_X12_0 C ly_75 rfl wf_X12_146 dX12_with_2 ?_
  have h := h _ rfl
  obtain ⟨s1, e1⟩ : ∃ z, z = up s 75 0 0 := ⟨_, rfl⟩
  rw [← e1] at h ⊢
  refine G_aload_n C dX12_with_5 rfl ?_
  refine G_callVI (K := []) (args := []) (T := TX12) (N := 72) C ly_75 rfl (Nat.le_of_ble_eq_true rfl) mo_X12_takesName wc_X12_183 rfl dX12_with_6 h (fun r2 s2 h => ?_)
  refine G_istore_n (L' := [rv 75, iv v1, iv v2, iv r2]) C dX12_with_9 (by decide) rfl ?_
  refine G_iload_n C dX12_with_10 rfl ?_
  refine G_if_eq (tgt := 32) C dX12_with_11 (by decide) h.1 (fun q => ?_) (fun q => ?_)
  · have h := h.2.1 q
    refine G_ldcw C wk_X12_327 (z := (-1000000)) (by decide) dX12_with_32 ?_
    exact r _ _ _ _ dX12_with_35 h
  · have h := h.2.2 q
    refine G_aload_n C dX12_with_14 rfl ?_
    refine G_iload_n C dX12_with_15 rfl ?_
    refine G_callVI (K := []) (args := [.inl v1]) (T := TX12) (N := 72) C ly_75 rfl (Nat.le_of_ble_eq_true rfl) mo_X12_isOne wc_X12_191 rfl dX12_with_16 h (fun r3 s3 h => ?_)
    refine G_if_eq (tgt := 32) C dX12_with_19 (by decide) h.1 (fun q => ?_) (fun q => ?_)
    · have h := h.2.1 q
      refine G_ldcw C wk_X12_327 (z := (-1000000)) (by decide) dX12_with_32 ?_
      exact r _ _ _ _ dX12_with_35 h
    · have h := h.2.2 q
      refine G_aload_n C dX12_with_22 rfl ?_
      refine G_iload_n C dX12_with_23 rfl ?_
      refine G_iconst C dX12_with_24 ?_
      refine G_iconst C dX12_with_25 ?_
      refine G_callVI (K := []) (args := [.inl v2, .inl 0, .inl 3]) (T := TX12) (N := 72) C ly_75 rfl (Nat.le_of_ble_eq_true rfl) mo_X12_isIn wc_X12_160 rfl dX12_with_26 h (fun r4 s4 h => ?_)
      refine G_if_ne (tgt := 36) C dX12_with_29 (by decide) h.1 (fun q => ?_) (fun q => ?_)
      · have h := h.2.1 q
        refine G_iload_n C dX12_with_36 rfl ?_
        refine G_if_ne (tgt := 62) C dX12_with_37 (by decide) h.1 (fun q => ?_) (fun q => ?_)
        · have h := h.2.1 q
          refine G_iload_n C dX12_with_62 rfl ?_
          refine G_iconst C dX12_with_63 ?_
          refine G_icmp_ne (tgt := 77) C dX12_with_64 (by decide) ⟨h.1, (by decide)⟩ (fun q => ?_) (fun q => ?_)
          · have h := h.2.1 q
            refine G_iload_n C dX12_with_77 rfl ?_
            refine G_iconst C dX12_with_78 ?_
            refine G_icmp_ne (tgt := 92) C dX12_with_79 (by decide) ⟨h.1, (by decide)⟩ (fun q => ?_) (fun q => ?_)
            · have h := h.2.1 q
              refine G_aload_n C dX12_with_92 rfl ?_
              refine G_iload_n C dX12_with_93 rfl ?_
              refine G_bipush C dX12_with_94 bi_30 ?_
              refine G_callVI (K := []) (args := [.inl v1, .inl 30]) (T := TX12) (N := 72) C ly_75 rfl (Nat.le_of_ble_eq_true rfl) mo_X12_worthWith wc_X12_334 rfl dX12_with_96 h (fun r5 s5 h => ?_)
              exact r _ _ _ _ dX12_with_99 h
            · have h := h.2.2 q
              refine G_aload_n C dX12_with_82 rfl ?_
              refine G_iload_n C dX12_with_83 rfl ?_
              refine G_bipush C dX12_with_84 bi_30 ?_
              refine G_callVI (K := []) (args := [.inl v1, .inl 30]) (T := TX12) (N := 72) C ly_75 rfl (Nat.le_of_ble_eq_true rfl) mo_X12_gainOf wc_X12_343 rfl dX12_with_86 h (fun r6 s6 h => ?_)
              refine G_goto (tgt := 99) C dX12_with_89 (by decide) ?_
              exact r _ _ _ _ dX12_with_99 h
          · have h := h.2.2 q
            refine G_aload_n C dX12_with_67 rfl ?_
            refine G_iload_n C dX12_with_68 rfl ?_
            refine G_bipush C dX12_with_69 bi_30 ?_
            refine G_callVI (K := []) (args := [.inl v1, .inl 30]) (T := TX12) (N := 72) C ly_75 rfl (Nat.le_of_ble_eq_true rfl) mo_X12_feeOf wc_X12_337 rfl dX12_with_71 h (fun r7 s7 h => ?_)
            refine G_goto (tgt := 99) C dX12_with_74 (by decide) ?_
            exact r _ _ _ _ dX12_with_99 h
        · have h := h.2.2 q
          refine G_aload_n C dX12_with_40 rfl ?_
          refine G_iload_n C dX12_with_41 rfl ?_
          refine G_bipush C dX12_with_42 bi_30 ?_
          refine G_aload_n C dX12_with_44 rfl ?_
          refine G_iload_n C dX12_with_45 rfl ?_
          refine G_iconst C dX12_with_46 ?_
          refine G_callVI (K := [.inl 30, .inl v1, .inr 75]) (args := [.inl v1, .inl 0]) (T := TX12) (N := 72) C ly_75 rfl (Nat.le_of_ble_eq_true rfl) mo_X12_worthOf wc_X12_328 rfl dX12_with_47 h (fun r8 s8 h => ?_)
          refine G_callVI (K := []) (args := [.inl v1, .inl 30, .inl r8]) (T := TX12) (N := 72) C ly_75 rfl (Nat.le_of_ble_eq_true rfl) mo_X12_may wc_X12_340 rfl dX12_with_50 h (fun r9 s9 h => ?_)
          refine G_if_eq (tgt := 60) C dX12_with_53 (by decide) h.1 (fun q => ?_) (fun q => ?_)
          · have h := h.2.1 q
            refine G_iconst C dX12_with_60 ?_
            exact r _ _ _ _ dX12_with_61 h
          · have h := h.2.2 q
            refine G_iconst C dX12_with_56 ?_
            refine G_goto (tgt := 61) C dX12_with_57 (by decide) ?_
            exact r _ _ _ _ dX12_with_61 h
      · have h := h.2.2 q
        refine G_ldcw C wk_X12_327 (z := (-1000000)) (by decide) dX12_with_32 ?_
        exact r _ _ _ _ dX12_with_35 h
set_option maxRecDepth 20000 in
theorem kb_X12_sell_0 {X : Cx} {d : Nat} {P : Int → Sto → Prop} (C : Ok LY X RX12 cX12_sell 2 d) (r : RetI LY X cX12_sell P) {s : Sto} (h : (∀ s1 : Sto, s1 = up s 75 0 0 → (CallI LY d MX12_takesName [.inr 75] s1 (fun r2 s2 => ((rg r2) ∧ ((r2 = 0 → P (-1) s2) ∧ (r2 ≠ 0 → ((rg (s2 75 8)) ∧ (((s2 75 8) ≠ 10 → (CallV LY d MX12_movesName [.inr 75, .inl 30, .inl (20 + (s2 75 8))] s2 (fun s3 => (∀ s4 : Sto, s4 = up s3 75 8 ((s3 75 8) + 1) → P ((s4 75 8) - 1) s4)))) ∧ ((s2 75 8) = 10 → P (-1) s2)))))))))) : G LY X 0 [rv 75, none] [] s := by
  refine G_aload_n C dX12_sell_0 rfl ?_
  refine G_iconst C dX12_sell_1 ?_
  refine gP_X12_0 C ly_75 rfl wf_X12_146 dX12_sell_2 ?_
  have h := h _ rfl
  obtain ⟨s1, e1⟩ : ∃ z, z = up s 75 0 0 := ⟨_, rfl⟩
  rw [← e1] at h ⊢
  refine G_aload_n C dX12_sell_5 rfl ?_
  refine G_callVI (K := []) (args := []) (T := TX12) (N := 72) C ly_75 rfl (Nat.le_of_ble_eq_true rfl) mo_X12_takesName wc_X12_183 rfl dX12_sell_6 h (fun r2 s2 h => ?_)
  refine G_istore_n (L' := [rv 75, iv r2]) C dX12_sell_9 (by decide) rfl ?_
  refine G_iload_n C dX12_sell_10 rfl ?_
  refine G_if_eq (tgt := 23) C dX12_sell_11 (by decide) h.1 (fun q => ?_) (fun q => ?_)
  · have h := h.2.1 q
    refine G_iconst C dX12_sell_23 ?_
    exact r _ _ _ _ dX12_sell_24 h
  · have h := h.2.2 q
    refine G_aload_n C dX12_sell_14 rfl ?_
    refine gI_X12_8 C ly_75 rfl wf_X12_171 dX12_sell_15 ?_
    refine G_bipush C dX12_sell_18 bi_10 ?_
    refine G_icmp_ne (tgt := 25) C dX12_sell_20 (by decide) ⟨h.1, (by decide)⟩ (fun q => ?_) (fun q => ?_)
    · have h := h.2.1 q
      refine G_aload_n C dX12_sell_25 rfl ?_
      refine G_bipush C dX12_sell_26 bi_30 ?_
      refine G_bipush C dX12_sell_28 bi_20 ?_
      refine G_aload_n C dX12_sell_30 rfl ?_
      refine gI_X12_8 C ly_75 rfl wf_X12_171 dX12_sell_31 ?_
      refine G_iadd C dX12_sell_34 ?_
      refine G_callVV (K := []) (args := [.inl 30, .inl (20 + (s2 75 8))]) (T := TX12) (N := 72) C ly_75 rfl (Nat.le_of_ble_eq_true rfl) mo_X12_movesName wc_X12_187 rfl dX12_sell_35 h (fun s3 h => ?_)
      refine G_aload_n C dX12_sell_38 rfl ?_
      refine G_aload_n C dX12_sell_39 rfl ?_
      refine gI_X12_8 C ly_75 rfl wf_X12_171 dX12_sell_40 ?_
      refine G_iconst C dX12_sell_43 ?_
      refine G_iadd C dX12_sell_44 ?_
      refine gP_X12_8 C ly_75 rfl wf_X12_171 dX12_sell_45 ?_
      have h := h _ rfl
      obtain ⟨s4, e4⟩ : ∃ z, z = up s3 75 8 ((s3 75 8) + 1) := ⟨_, rfl⟩
      rw [← e4] at h ⊢
      refine G_aload_n C dX12_sell_48 rfl ?_
      refine gI_X12_8 C ly_75 rfl wf_X12_171 dX12_sell_49 ?_
      refine G_iconst C dX12_sell_52 ?_
      refine G_isub C dX12_sell_53 ?_
      exact r _ _ _ _ dX12_sell_54 h
    · have h := h.2.2 q
      refine G_iconst C dX12_sell_23 ?_
      exact r _ _ _ _ dX12_sell_24 h
set_option maxRecDepth 20000 in
theorem kb_X12_take_0 {X : Cx} {d : Nat} {P : Int → Sto → Prop} (C : Ok LY X RX12 cX12_take 4 d) (r : RetI LY X cX12_take P) {v1 v2 : Int} {s : Sto} (h : (∀ s1 : Sto, s1 = up s 75 0 0 → (CallI LY d MX12_isOne [.inr 75, .inl v1] s1 (fun r2 s2 => ((rg r2) ∧ ((r2 = 0 → P (-1) s2) ∧ (r2 ≠ 0 → (CallI LY d MX12_isIn [.inr 75, .inl v2, .inl 0, .inl ((s2 75 8) - 1)] s2 (fun r3 s3 => ((rg r3) ∧ ((r3 = 0 → P (-1) s3) ∧ (r3 ≠ 0 → (CallI LY d MX12_worthOf [.inr 75, .inl v1, .inl 0] s3 (fun r4 s4 => (CallI LY d MX12_may [.inr 75, .inl v1, .inl (20 + v2), .inl r4] s4 (fun r5 s5 => ((rg r5) ∧ ((r5 ≠ 0 → (CallI LY d MX12_feeOf [.inr 75, .inl v1, .inl (20 + v2)] s5 (fun r6 s6 => ((0 ≤ v1 ∧ v1 < 20) ∧ ((rg (s6 80 v1) ∧ rg r6) ∧ ((r6 ≤ (s6 80 v1) → ((0 ≤ v1 ∧ v1 < 20) ∧ ((0 ≤ v1 ∧ v1 < 20) ∧ (∀ s7 : Sto, s7 = up s6 80 v1 ((s6 80 v1) - r6) → (CallV LY d MX12_movesName [.inr 75, .inl (20 + v2), .inl v1] s7 (fun s8 => P r6 s8)))))) ∧ ((s6 80 v1) < r6 → P (-1) s6))))))) ∧ (r5 = 0 → P (-1) s5))))))))))))))))))) : G LY X 0 [rv 75, iv v1, iv v2, none] [] s := by
  refine G_aload_n C dX12_take_0 rfl ?_
  refine G_iconst C dX12_take_1 ?_
  refine gP_X12_0 C ly_75 rfl wf_X12_146 dX12_take_2 ?_
  have h := h _ rfl
  obtain ⟨s1, e1⟩ : ∃ z, z = up s 75 0 0 := ⟨_, rfl⟩
  rw [← e1] at h ⊢
  refine G_aload_n C dX12_take_5 rfl ?_
  refine G_iload_n C dX12_take_6 rfl ?_
  refine G_callVI (K := []) (args := [.inl v1]) (T := TX12) (N := 72) C ly_75 rfl (Nat.le_of_ble_eq_true rfl) mo_X12_isOne wc_X12_191 rfl dX12_take_7 h (fun r2 s2 h => ?_)
  refine G_if_eq (tgt := 46) C dX12_take_10 (by decide) h.1 (fun q => ?_) (fun q => ?_)
  · have h := h.2.1 q
    refine G_iconst C dX12_take_46 ?_
    exact r _ _ _ _ dX12_take_47 h
  · have h := h.2.2 q
    refine G_aload_n C dX12_take_13 rfl ?_
    refine G_iload_n C dX12_take_14 rfl ?_
    refine G_iconst C dX12_take_15 ?_
    refine G_aload_n C dX12_take_16 rfl ?_
    refine gI_X12_8 C ly_75 rfl wf_X12_171 dX12_take_17 ?_
    refine G_iconst C dX12_take_20 ?_
    refine G_isub C dX12_take_21 ?_
    refine G_callVI (K := []) (args := [.inl v2, .inl 0, .inl ((s2 75 8) - 1)]) (T := TX12) (N := 72) C ly_75 rfl (Nat.le_of_ble_eq_true rfl) mo_X12_isIn wc_X12_160 rfl dX12_take_22 h (fun r3 s3 h => ?_)
    refine G_if_eq (tgt := 46) C dX12_take_25 (by decide) h.1 (fun q => ?_) (fun q => ?_)
    · have h := h.2.1 q
      refine G_iconst C dX12_take_46 ?_
      exact r _ _ _ _ dX12_take_47 h
    · have h := h.2.2 q
      refine G_aload_n C dX12_take_28 rfl ?_
      refine G_iload_n C dX12_take_29 rfl ?_
      refine G_bipush C dX12_take_30 bi_20 ?_
      refine G_iload_n C dX12_take_32 rfl ?_
      refine G_iadd C dX12_take_33 ?_
      refine G_aload_n C dX12_take_34 rfl ?_
      refine G_iload_n C dX12_take_35 rfl ?_
      refine G_iconst C dX12_take_36 ?_
      refine G_callVI (K := [.inl (20 + v2), .inl v1, .inr 75]) (args := [.inl v1, .inl 0]) (T := TX12) (N := 72) C ly_75 rfl (Nat.le_of_ble_eq_true rfl) mo_X12_worthOf wc_X12_328 rfl dX12_take_37 h (fun r4 s4 h => ?_)
      refine G_callVI (K := []) (args := [.inl v1, .inl (20 + v2), .inl r4]) (T := TX12) (N := 72) C ly_75 rfl (Nat.le_of_ble_eq_true rfl) mo_X12_may wc_X12_340 rfl dX12_take_40 h (fun r5 s5 h => ?_)
      refine G_if_ne (tgt := 48) C dX12_take_43 (by decide) h.1 (fun q => ?_) (fun q => ?_)
      · have h := h.2.1 q
        refine G_aload_n C dX12_take_48 rfl ?_
        refine G_iload_n C dX12_take_49 rfl ?_
        refine G_bipush C dX12_take_50 bi_20 ?_
        refine G_iload_n C dX12_take_52 rfl ?_
        refine G_iadd C dX12_take_53 ?_
        refine G_callVI (K := []) (args := [.inl v1, .inl (20 + v2)]) (T := TX12) (N := 72) C ly_75 rfl (Nat.le_of_ble_eq_true rfl) mo_X12_feeOf wc_X12_337 rfl dX12_take_54 h (fun r6 s6 h => ?_)
        refine G_istore_n (L' := [rv 75, iv v1, iv v2, iv r6]) C dX12_take_57 (by decide) rfl ?_
        refine G_aload_n C dX12_take_58 rfl ?_
        refine gR_X12_7 C ly_75 rfl wf_X12_22 dX12_take_59 ?_
        refine G_iload_n C dX12_take_62 rfl ?_
        refine G_iald C ly_80 (by decide) h.1 dX12_take_63 ?_
        have h := h.2
        refine G_iload_n C dX12_take_64 rfl ?_
        refine G_icmp_ge (tgt := 70) C dX12_take_65 (by decide) ⟨h.1.1, h.1.2⟩ (fun q => ?_) (fun q => ?_)
        · have h := h.2.1 q
          refine G_aload_n C dX12_take_70 rfl ?_
          refine gR_X12_7 C ly_75 rfl wf_X12_22 dX12_take_71 ?_
          refine G_iload_n C dX12_take_74 rfl ?_
          refine G_aload_n C dX12_take_75 rfl ?_
          refine gR_X12_7 C ly_75 rfl wf_X12_22 dX12_take_76 ?_
          refine G_iload_n C dX12_take_79 rfl ?_
          refine G_iald C ly_80 (by decide) h.1 dX12_take_80 ?_
          have h := h.2
          refine G_iload_n C dX12_take_81 rfl ?_
          refine G_isub C dX12_take_82 ?_
          refine G_iast C ly_80 (by decide) h.1 dX12_take_83 ?_
          have h := h.2
          have h := h _ rfl
          obtain ⟨s7, e7⟩ : ∃ z, z = up s6 80 v1 ((s6 80 v1) - r6) := ⟨_, rfl⟩
          rw [← e7] at h ⊢
          refine G_aload_n C dX12_take_84 rfl ?_
          refine G_bipush C dX12_take_85 bi_20 ?_
          refine G_iload_n C dX12_take_87 rfl ?_
          refine G_iadd C dX12_take_88 ?_
          refine G_iload_n C dX12_take_89 rfl ?_
          refine G_callVV (K := []) (args := [.inl (20 + v2), .inl v1]) (T := TX12) (N := 72) C ly_75 rfl (Nat.le_of_ble_eq_true rfl) mo_X12_movesName wc_X12_187 rfl dX12_take_90 h (fun s8 h => ?_)
          refine G_iload_n C dX12_take_93 rfl ?_
          exact r _ _ _ _ dX12_take_94 h
        · have h := h.2.2 q
          refine G_iconst C dX12_take_68 ?_
          exact r _ _ _ _ dX12_take_69 h
      · have h := h.2.2 q
        refine G_iconst C dX12_take_46 ?_
        exact r _ _ _ _ dX12_take_47 h
set_option maxRecDepth 20000 in
theorem kb_X12_rest_0 {X : Cx} {d : Nat} {P : Int → Sto → Prop} (C : Ok LY X RX12 cX12_rest 2 d) (r : RetI LY X cX12_rest P) {v1 : Int} {s : Sto} (h : (∀ s1 : Sto, s1 = up s 75 0 0 → (CallI LY d MX12_isIn [.inr 75, .inl v1, .inl 0, .inl 2] s1 (fun r2 s2 => ((rg r2) ∧ ((r2 ≠ 0 → (CallV LY d MX12_rests [.inr 75] s2 (fun s3 => ((rg v1) ∧ ((v1 ≠ 0 → ((rg v1) ∧ ((v1 ≠ 1 → P (s3 75 55) s3) ∧ (v1 = 1 → P (s3 75 54) s3)))) ∧ (v1 = 0 → P (s3 75 53) s3)))))) ∧ (r2 = 0 → P (-1) s2))))))) : G LY X 0 [rv 75, iv v1] [] s := by
  refine G_aload_n C dX12_rest_0 rfl ?_
  refine G_iconst C dX12_rest_1 ?_
  refine gP_X12_0 C ly_75 rfl wf_X12_146 dX12_rest_2 ?_
  have h := h _ rfl
  obtain ⟨s1, e1⟩ : ∃ z, z = up s 75 0 0 := ⟨_, rfl⟩
  rw [← e1] at h ⊢
  refine G_aload_n C dX12_rest_5 rfl ?_
  refine G_iload_n C dX12_rest_6 rfl ?_
  refine G_iconst C dX12_rest_7 ?_
  refine G_iconst C dX12_rest_8 ?_
  refine G_callVI (K := []) (args := [.inl v1, .inl 0, .inl 2]) (T := TX12) (N := 72) C ly_75 rfl (Nat.le_of_ble_eq_true rfl) mo_X12_isIn wc_X12_160 rfl dX12_rest_9 h (fun r2 s2 h => ?_)
  refine G_if_ne (tgt := 17) C dX12_rest_12 (by decide) h.1 (fun q => ?_) (fun q => ?_)
  · have h := h.2.1 q
    refine G_aload_n C dX12_rest_17 rfl ?_
    refine G_callVV (K := []) (args := []) (T := TX12) (N := 72) C ly_75 rfl (Nat.le_of_ble_eq_true rfl) mo_X12_rests wc_X12_370 rfl dX12_rest_18 h (fun s3 h => ?_)
    refine G_iload_n C dX12_rest_21 rfl ?_
    refine G_if_ne (tgt := 32) C dX12_rest_22 (by decide) h.1 (fun q => ?_) (fun q => ?_)
    · have h := h.2.1 q
      refine G_iload_n C dX12_rest_32 rfl ?_
      refine G_iconst C dX12_rest_33 ?_
      refine G_icmp_ne (tgt := 44) C dX12_rest_34 (by decide) ⟨h.1, (by decide)⟩ (fun q => ?_) (fun q => ?_)
      · have h := h.2.1 q
        refine G_aload_n C dX12_rest_44 rfl ?_
        refine gI_X12_55 C ly_75 rfl wf_X12_358 dX12_rest_45 ?_
        exact r _ _ _ _ dX12_rest_48 h
      · have h := h.2.2 q
        refine G_aload_n C dX12_rest_37 rfl ?_
        refine gI_X12_54 C ly_75 rfl wf_X12_355 dX12_rest_38 ?_
        refine G_goto (tgt := 48) C dX12_rest_41 (by decide) ?_
        exact r _ _ _ _ dX12_rest_48 h
    · have h := h.2.2 q
      refine G_aload_n C dX12_rest_25 rfl ?_
      refine gI_X12_53 C ly_75 rfl wf_X12_352 dX12_rest_26 ?_
      refine G_goto (tgt := 48) C dX12_rest_29 (by decide) ?_
      exact r _ _ _ _ dX12_rest_48 h
  · have h := h.2.2 q
    refine G_iconst C dX12_rest_15 ?_
    exact r _ _ _ _ dX12_rest_16 h
set_option maxRecDepth 20000 in
theorem kb_X12_wed_0 {X : Cx} {d : Nat} {P : Int → Sto → Prop} (C : Ok LY X RX12 cX12_wed 7 d) (r : RetI LY X cX12_wed P) {v1 v2 : Int} {s : Sto} (h : (∀ s1 : Sto, s1 = up s 75 0 0 → (CallI LY d MX12_isOne [.inr 75, .inl v1] s1 (fun r2 s2 => ((rg r2) ∧ ((r2 = 0 → G LY X 23 [rv 75, iv v1, iv v2, none, none, none, none] [] s2) ∧ (r2 ≠ 0 → (CallI LY d MX12_isIn [.inr 75, .inl v2, .inl 0, .inl 2] s2 (fun r3 s3 => ((rg r3) ∧ ((r3 ≠ 0 → (CallV LY d MX12_weds [.inr 75] s3 (fun s4 => ((0 ≤ v1 ∧ v1 < 20) ∧ ((rg v2) ∧ ((v2 ≠ 0 → ((rg (s4 108 v1)) ∧ (((s4 108 v1) ≠ (-1) → ((0 ≤ v1 ∧ v1 < 20) ∧ ((rg (s4 78 v1)) ∧ (((s4 78 v1) ≠ 0 → ((rg (s4 108 v1) ∧ rg v1) ∧ (((s4 108 v1) ≠ v1 → ((0 ≤ v1 ∧ v1 < 20) ∧ ((0 ≤ (s4 108 v1) ∧ (s4 108 v1) < 20) ∧ ((rg (s4 103 v1) ∧ rg (s4 103 (s4 108 v1))) ∧ (((s4 103 v1) ≤ (s4 103 (s4 108 v1)) → ((rg v2) ∧ ((v2 ≠ 1 → ((0 ≤ (s4 108 v1) ∧ (s4 108 v1) < 20) ∧ ((rg (s4 108 v1) ∧ rg (s4 108 v1)) ∧ (((s4 108 v1) ≠ (s4 108 v1) → ((0 ≤ (s4 108 v1) ∧ (s4 108 v1) < 20) ∧ P ((s4 103 (s4 108 v1)) - (s4 103 (s4 108 v1))) s4)) ∧ ((s4 108 v1) = (s4 108 v1) → ((0 ≤ v1 ∧ v1 < 20) ∧ P ((s4 103 (s4 108 v1)) - (s4 103 v1)) s4)))))) ∧ (v2 = 1 → P (s4 108 v1) s4)))) ∧ ((s4 103 (s4 108 v1)) < (s4 103 v1) → ((rg v2) ∧ ((v2 ≠ 1 → ((0 ≤ v1 ∧ v1 < 20) ∧ ((rg v1 ∧ rg (s4 108 v1)) ∧ ((v1 ≠ (s4 108 v1) → ((0 ≤ (s4 108 v1) ∧ (s4 108 v1) < 20) ∧ P ((s4 103 v1) - (s4 103 (s4 108 v1))) s4)) ∧ (v1 = (s4 108 v1) → ((0 ≤ v1 ∧ v1 < 20) ∧ P ((s4 103 v1) - (s4 103 v1)) s4)))))) ∧ (v2 = 1 → P v1 s4))))))))) ∧ ((s4 108 v1) = v1 → ((0 ≤ (s4 108 v1) ∧ (s4 108 v1) < 20) ∧ ((0 ≤ (s4 108 v1) ∧ (s4 108 v1) < 20) ∧ ((rg (s4 103 (s4 108 v1)) ∧ rg (s4 103 (s4 108 v1))) ∧ (((s4 103 (s4 108 v1)) ≤ (s4 103 (s4 108 v1)) → ((rg v2) ∧ ((v2 ≠ 1 → ((0 ≤ (s4 108 v1) ∧ (s4 108 v1) < 20) ∧ ((rg (s4 108 v1) ∧ rg (s4 108 v1)) ∧ (((s4 108 v1) ≠ (s4 108 v1) → ((0 ≤ (s4 108 v1) ∧ (s4 108 v1) < 20) ∧ P ((s4 103 (s4 108 v1)) - (s4 103 (s4 108 v1))) s4)) ∧ ((s4 108 v1) = (s4 108 v1) → ((0 ≤ (s4 108 v1) ∧ (s4 108 v1) < 20) ∧ P ((s4 103 (s4 108 v1)) - (s4 103 (s4 108 v1))) s4)))))) ∧ (v2 = 1 → P (s4 108 v1) s4)))) ∧ ((s4 103 (s4 108 v1)) < (s4 103 (s4 108 v1)) → ((rg v2) ∧ ((v2 ≠ 1 → ((0 ≤ (s4 108 v1) ∧ (s4 108 v1) < 20) ∧ ((rg (s4 108 v1) ∧ rg (s4 108 v1)) ∧ (((s4 108 v1) ≠ (s4 108 v1) → ((0 ≤ (s4 108 v1) ∧ (s4 108 v1) < 20) ∧ P ((s4 103 (s4 108 v1)) - (s4 103 (s4 108 v1))) s4)) ∧ ((s4 108 v1) = (s4 108 v1) → ((0 ≤ (s4 108 v1) ∧ (s4 108 v1) < 20) ∧ P ((s4 103 (s4 108 v1)) - (s4 103 (s4 108 v1))) s4)))))) ∧ (v2 = 1 → P (s4 108 v1) s4)))))))))))) ∧ ((s4 78 v1) = 0 → ((rg v1 ∧ rg v1) ∧ ((v1 ≠ v1 → ((0 ≤ v1 ∧ v1 < 20) ∧ ((0 ≤ v1 ∧ v1 < 20) ∧ ((rg (s4 103 v1) ∧ rg (s4 103 v1)) ∧ (((s4 103 v1) ≤ (s4 103 v1) → ((rg v2) ∧ ((v2 ≠ 1 → ((0 ≤ v1 ∧ v1 < 20) ∧ ((rg v1 ∧ rg v1) ∧ ((v1 ≠ v1 → ((0 ≤ v1 ∧ v1 < 20) ∧ P ((s4 103 v1) - (s4 103 v1)) s4)) ∧ (v1 = v1 → ((0 ≤ v1 ∧ v1 < 20) ∧ P ((s4 103 v1) - (s4 103 v1)) s4)))))) ∧ (v2 = 1 → P v1 s4)))) ∧ ((s4 103 v1) < (s4 103 v1) → ((rg v2) ∧ ((v2 ≠ 1 → ((0 ≤ v1 ∧ v1 < 20) ∧ ((rg v1 ∧ rg v1) ∧ ((v1 ≠ v1 → ((0 ≤ v1 ∧ v1 < 20) ∧ P ((s4 103 v1) - (s4 103 v1)) s4)) ∧ (v1 = v1 → ((0 ≤ v1 ∧ v1 < 20) ∧ P ((s4 103 v1) - (s4 103 v1)) s4)))))) ∧ (v2 = 1 → P v1 s4))))))))) ∧ (v1 = v1 → ((0 ≤ (s4 108 v1) ∧ (s4 108 v1) < 20) ∧ ((0 ≤ v1 ∧ v1 < 20) ∧ ((rg (s4 103 (s4 108 v1)) ∧ rg (s4 103 v1)) ∧ (((s4 103 (s4 108 v1)) ≤ (s4 103 v1) → ((rg v2) ∧ ((v2 ≠ 1 → ((0 ≤ v1 ∧ v1 < 20) ∧ ((rg v1 ∧ rg v1) ∧ ((v1 ≠ v1 → ((0 ≤ v1 ∧ v1 < 20) ∧ P ((s4 103 v1) - (s4 103 v1)) s4)) ∧ (v1 = v1 → ((0 ≤ (s4 108 v1) ∧ (s4 108 v1) < 20) ∧ P ((s4 103 v1) - (s4 103 (s4 108 v1))) s4)))))) ∧ (v2 = 1 → P v1 s4)))) ∧ ((s4 103 v1) < (s4 103 (s4 108 v1)) → ((rg v2) ∧ ((v2 ≠ 1 → ((0 ≤ (s4 108 v1) ∧ (s4 108 v1) < 20) ∧ ((rg (s4 108 v1) ∧ rg v1) ∧ (((s4 108 v1) ≠ v1 → ((0 ≤ v1 ∧ v1 < 20) ∧ P ((s4 103 (s4 108 v1)) - (s4 103 v1)) s4)) ∧ ((s4 108 v1) = v1 → ((0 ≤ (s4 108 v1) ∧ (s4 108 v1) < 20) ∧ P ((s4 103 (s4 108 v1)) - (s4 103 (s4 108 v1))) s4)))))) ∧ (v2 = 1 → P (s4 108 v1) s4)))))))))))))))) ∧ ((s4 108 v1) = (-1) → ((rg v2) ∧ ((v2 ≠ 1 → P 0 s4) ∧ (v2 = 1 → P (-1) s4))))))) ∧ (v2 = 0 → P (s4 108 v1) s4))))))) ∧ (r3 = 0 → G LY X 23 [rv 75, iv v1, iv v2, none, none, none, none] [] s3)))))))))))) : G LY X 0 [rv 75, iv v1, iv v2, none, none, none, none] [] s := by
  refine G_aload_n C dX12_wed_0 rfl ?_
  refine G_iconst C dX12_wed_1 ?_
  refine gP_X12_0 C ly_75 rfl wf_X12_146 dX12_wed_2 ?_
  have h := h _ rfl
  obtain ⟨s1, e1⟩ : ∃ z, z = up s 75 0 0 := ⟨_, rfl⟩
  rw [← e1] at h ⊢
  refine G_aload_n C dX12_wed_5 rfl ?_
  refine G_iload_n C dX12_wed_6 rfl ?_
  refine G_callVI (K := []) (args := [.inl v1]) (T := TX12) (N := 72) C ly_75 rfl (Nat.le_of_ble_eq_true rfl) mo_X12_isOne wc_X12_191 rfl dX12_wed_7 h (fun r2 s2 h => ?_)
  refine G_if_eq (tgt := 23) C dX12_wed_10 (by decide) h.1 (fun q => ?_) (fun q => ?_)
  · have h := h.2.1 q
    exact h
  · have h := h.2.2 q
    refine G_aload_n C dX12_wed_13 rfl ?_
    refine G_iload_n C dX12_wed_14 rfl ?_
    refine G_iconst C dX12_wed_15 ?_
    refine G_iconst C dX12_wed_16 ?_
    refine G_callVI (K := []) (args := [.inl v2, .inl 0, .inl 2]) (T := TX12) (N := 72) C ly_75 rfl (Nat.le_of_ble_eq_true rfl) mo_X12_isIn wc_X12_160 rfl dX12_wed_17 h (fun r3 s3 h => ?_)
    refine G_if_ne (tgt := 27) C dX12_wed_20 (by decide) h.1 (fun q => ?_) (fun q => ?_)
    · have h := h.2.1 q
      refine G_aload_n C dX12_wed_27 rfl ?_
      refine G_callVV (K := []) (args := []) (T := TX12) (N := 72) C ly_75 rfl (Nat.le_of_ble_eq_true rfl) mo_X12_weds wc_X12_379 rfl dX12_wed_28 h (fun s4 h => ?_)
      refine G_aload_n C dX12_wed_31 rfl ?_
      refine gR_X12_56 C ly_75 rfl wf_X12_113 dX12_wed_32 ?_
      refine G_iload_n C dX12_wed_35 rfl ?_
      refine G_iald C ly_108 (by decide) h.1 dX12_wed_36 ?_
      have h := h.2
      refine G_istore_n (L' := [rv 75, iv v1, iv v2, iv (s4 108 v1), none, none, none]) C dX12_wed_37 (by decide) rfl ?_
      refine G_iload_n C dX12_wed_38 rfl ?_
      refine G_if_ne (tgt := 44) C dX12_wed_39 (by decide) h.1 (fun q => ?_) (fun q => ?_)
      · have h := h.2.1 q
        refine G_iload_n C dX12_wed_44 rfl ?_
        refine G_iconst C dX12_wed_45 ?_
        refine G_icmp_ne (tgt := 60) C dX12_wed_46 (by decide) ⟨h.1, (by decide)⟩ (fun q => ?_) (fun q => ?_)
        · have h := h.2.1 q
          refine G_aload_n C dX12_wed_60 rfl ?_
          refine gR_X12_5 C ly_75 rfl wf_X12_16 dX12_wed_61 ?_
          refine G_iload_n C dX12_wed_64 rfl ?_
          refine G_iald C ly_78 (by decide) h.1 dX12_wed_65 ?_
          have h := h.2
          refine G_if_ne (tgt := 73) C dX12_wed_66 (by decide) h.1 (fun q => ?_) (fun q => ?_)
          · have h := h.2.1 q
            refine G_iload_n C dX12_wed_73 rfl ?_
            refine G_istore (L' := [rv 75, iv v1, iv v2, iv (s4 108 v1), iv (s4 108 v1), none, none]) C dX12_wed_74 (by decide) rfl ?_
            refine G_iload C dX12_wed_76 rfl ?_
            refine G_iload_n C dX12_wed_78 rfl ?_
            refine G_icmp_ne (tgt := 86) C dX12_wed_79 (by decide) ⟨h.1.1, h.1.2⟩ (fun q => ?_) (fun q => ?_)
            · have h := h.2.1 q
              refine G_iload_n C dX12_wed_86 rfl ?_
              refine G_istore (L' := [rv 75, iv v1, iv v2, iv (s4 108 v1), iv (s4 108 v1), iv v1, none]) C dX12_wed_87 (by decide) rfl ?_
              refine G_aload_n C dX12_wed_89 rfl ?_
              refine gR_X12_48 C ly_75 rfl wf_X12_98 dX12_wed_90 ?_
              refine G_iload C dX12_wed_93 rfl ?_
              refine G_iald C ly_103 (by decide) h.1 dX12_wed_95 ?_
              have h := h.2
              refine G_aload_n C dX12_wed_96 rfl ?_
              refine gR_X12_48 C ly_75 rfl wf_X12_98 dX12_wed_97 ?_
              refine G_iload C dX12_wed_100 rfl ?_
              refine G_iald C ly_103 (by decide) h.1 dX12_wed_102 ?_
              have h := h.2
              refine G_icmp_le (tgt := 111) C dX12_wed_103 (by decide) ⟨h.1.1, h.1.2⟩ (fun q => ?_) (fun q => ?_)
              · have h := h.2.1 q
                refine G_iload C dX12_wed_111 rfl ?_
                refine G_istore (L' := [rv 75, iv v1, iv v2, iv (s4 108 v1), iv (s4 108 v1), iv v1, iv (s4 108 v1)]) C dX12_wed_113 (by decide) rfl ?_
                refine G_iload_n C dX12_wed_115 rfl ?_
                refine G_iconst C dX12_wed_116 ?_
                refine G_icmp_ne (tgt := 125) C dX12_wed_117 (by decide) ⟨h.1, (by decide)⟩ (fun q => ?_) (fun q => ?_)
                · have h := h.2.1 q
                  refine G_aload_n C dX12_wed_125 rfl ?_
                  refine gR_X12_48 C ly_75 rfl wf_X12_98 dX12_wed_126 ?_
                  refine G_iload C dX12_wed_129 rfl ?_
                  refine G_iald C ly_103 (by decide) h.1 dX12_wed_131 ?_
                  have h := h.2
                  refine G_aload_n C dX12_wed_132 rfl ?_
                  refine gR_X12_48 C ly_75 rfl wf_X12_98 dX12_wed_133 ?_
                  refine G_iload C dX12_wed_136 rfl ?_
                  refine G_iload C dX12_wed_138 rfl ?_
                  refine G_icmp_ne (tgt := 148) C dX12_wed_140 (by decide) ⟨h.1.1, h.1.2⟩ (fun q => ?_) (fun q => ?_)
                  · have h := h.2.1 q
                    refine G_iload C dX12_wed_148 rfl ?_
                    refine G_iald C ly_103 (by decide) h.1 dX12_wed_150 ?_
                    have h := h.2
                    refine G_isub C dX12_wed_151 ?_
                    exact r _ _ _ _ dX12_wed_152 h
                  · have h := h.2.2 q
                    refine G_iload C dX12_wed_143 rfl ?_
                    refine G_goto (tgt := 150) C dX12_wed_145 (by decide) ?_
                    refine G_iald C ly_103 (by decide) h.1 dX12_wed_150 ?_
                    have h := h.2
                    refine G_isub C dX12_wed_151 ?_
                    exact r _ _ _ _ dX12_wed_152 h
                · have h := h.2.2 q
                  refine G_iload C dX12_wed_120 rfl ?_
                  refine G_goto (tgt := 152) C dX12_wed_122 (by decide) ?_
                  exact r _ _ _ _ dX12_wed_152 h
              · have h := h.2.2 q
                refine G_iload C dX12_wed_106 rfl ?_
                refine G_goto (tgt := 113) C dX12_wed_108 (by decide) ?_
                refine G_istore (L' := [rv 75, iv v1, iv v2, iv (s4 108 v1), iv (s4 108 v1), iv v1, iv v1]) C dX12_wed_113 (by decide) rfl ?_
                refine G_iload_n C dX12_wed_115 rfl ?_
                refine G_iconst C dX12_wed_116 ?_
                refine G_icmp_ne (tgt := 125) C dX12_wed_117 (by decide) ⟨h.1, (by decide)⟩ (fun q => ?_) (fun q => ?_)
                · have h := h.2.1 q
                  refine G_aload_n C dX12_wed_125 rfl ?_
                  refine gR_X12_48 C ly_75 rfl wf_X12_98 dX12_wed_126 ?_
                  refine G_iload C dX12_wed_129 rfl ?_
                  refine G_iald C ly_103 (by decide) h.1 dX12_wed_131 ?_
                  have h := h.2
                  refine G_aload_n C dX12_wed_132 rfl ?_
                  refine gR_X12_48 C ly_75 rfl wf_X12_98 dX12_wed_133 ?_
                  refine G_iload C dX12_wed_136 rfl ?_
                  refine G_iload C dX12_wed_138 rfl ?_
                  refine G_icmp_ne (tgt := 148) C dX12_wed_140 (by decide) ⟨h.1.1, h.1.2⟩ (fun q => ?_) (fun q => ?_)
                  · have h := h.2.1 q
                    refine G_iload C dX12_wed_148 rfl ?_
                    refine G_iald C ly_103 (by decide) h.1 dX12_wed_150 ?_
                    have h := h.2
                    refine G_isub C dX12_wed_151 ?_
                    exact r _ _ _ _ dX12_wed_152 h
                  · have h := h.2.2 q
                    refine G_iload C dX12_wed_143 rfl ?_
                    refine G_goto (tgt := 150) C dX12_wed_145 (by decide) ?_
                    refine G_iald C ly_103 (by decide) h.1 dX12_wed_150 ?_
                    have h := h.2
                    refine G_isub C dX12_wed_151 ?_
                    exact r _ _ _ _ dX12_wed_152 h
                · have h := h.2.2 q
                  refine G_iload C dX12_wed_120 rfl ?_
                  refine G_goto (tgt := 152) C dX12_wed_122 (by decide) ?_
                  exact r _ _ _ _ dX12_wed_152 h
            · have h := h.2.2 q
              refine G_iload_n C dX12_wed_82 rfl ?_
              refine G_goto (tgt := 87) C dX12_wed_83 (by decide) ?_
              refine G_istore (L' := [rv 75, iv v1, iv v2, iv (s4 108 v1), iv (s4 108 v1), iv (s4 108 v1), none]) C dX12_wed_87 (by decide) rfl ?_
              refine G_aload_n C dX12_wed_89 rfl ?_
              refine gR_X12_48 C ly_75 rfl wf_X12_98 dX12_wed_90 ?_
              refine G_iload C dX12_wed_93 rfl ?_
              refine G_iald C ly_103 (by decide) h.1 dX12_wed_95 ?_
              have h := h.2
              refine G_aload_n C dX12_wed_96 rfl ?_
              refine gR_X12_48 C ly_75 rfl wf_X12_98 dX12_wed_97 ?_
              refine G_iload C dX12_wed_100 rfl ?_
              refine G_iald C ly_103 (by decide) h.1 dX12_wed_102 ?_
              have h := h.2
              refine G_icmp_le (tgt := 111) C dX12_wed_103 (by decide) ⟨h.1.1, h.1.2⟩ (fun q => ?_) (fun q => ?_)
              · have h := h.2.1 q
                refine G_iload C dX12_wed_111 rfl ?_
                refine G_istore (L' := [rv 75, iv v1, iv v2, iv (s4 108 v1), iv (s4 108 v1), iv (s4 108 v1), iv (s4 108 v1)]) C dX12_wed_113 (by decide) rfl ?_
                refine G_iload_n C dX12_wed_115 rfl ?_
                refine G_iconst C dX12_wed_116 ?_
                refine G_icmp_ne (tgt := 125) C dX12_wed_117 (by decide) ⟨h.1, (by decide)⟩ (fun q => ?_) (fun q => ?_)
                · have h := h.2.1 q
                  refine G_aload_n C dX12_wed_125 rfl ?_
                  refine gR_X12_48 C ly_75 rfl wf_X12_98 dX12_wed_126 ?_
                  refine G_iload C dX12_wed_129 rfl ?_
                  refine G_iald C ly_103 (by decide) h.1 dX12_wed_131 ?_
                  have h := h.2
                  refine G_aload_n C dX12_wed_132 rfl ?_
                  refine gR_X12_48 C ly_75 rfl wf_X12_98 dX12_wed_133 ?_
                  refine G_iload C dX12_wed_136 rfl ?_
                  refine G_iload C dX12_wed_138 rfl ?_
                  refine G_icmp_ne (tgt := 148) C dX12_wed_140 (by decide) ⟨h.1.1, h.1.2⟩ (fun q => ?_) (fun q => ?_)
                  · have h := h.2.1 q
                    refine G_iload C dX12_wed_148 rfl ?_
                    refine G_iald C ly_103 (by decide) h.1 dX12_wed_150 ?_
                    have h := h.2
                    refine G_isub C dX12_wed_151 ?_
                    exact r _ _ _ _ dX12_wed_152 h
                  · have h := h.2.2 q
                    refine G_iload C dX12_wed_143 rfl ?_
                    refine G_goto (tgt := 150) C dX12_wed_145 (by decide) ?_
                    refine G_iald C ly_103 (by decide) h.1 dX12_wed_150 ?_
                    have h := h.2
                    refine G_isub C dX12_wed_151 ?_
                    exact r _ _ _ _ dX12_wed_152 h
                · have h := h.2.2 q
                  refine G_iload C dX12_wed_120 rfl ?_
                  refine G_goto (tgt := 152) C dX12_wed_122 (by decide) ?_
                  exact r _ _ _ _ dX12_wed_152 h
              · have h := h.2.2 q
                refine G_iload C dX12_wed_106 rfl ?_
                refine G_goto (tgt := 113) C dX12_wed_108 (by decide) ?_
                refine G_istore (L' := [rv 75, iv v1, iv v2, iv (s4 108 v1), iv (s4 108 v1), iv (s4 108 v1), iv (s4 108 v1)]) C dX12_wed_113 (by decide) rfl ?_
                refine G_iload_n C dX12_wed_115 rfl ?_
                refine G_iconst C dX12_wed_116 ?_
                refine G_icmp_ne (tgt := 125) C dX12_wed_117 (by decide) ⟨h.1, (by decide)⟩ (fun q => ?_) (fun q => ?_)
                · have h := h.2.1 q
                  refine G_aload_n C dX12_wed_125 rfl ?_
                  refine gR_X12_48 C ly_75 rfl wf_X12_98 dX12_wed_126 ?_
                  refine G_iload C dX12_wed_129 rfl ?_
                  refine G_iald C ly_103 (by decide) h.1 dX12_wed_131 ?_
                  have h := h.2
                  refine G_aload_n C dX12_wed_132 rfl ?_
                  refine gR_X12_48 C ly_75 rfl wf_X12_98 dX12_wed_133 ?_
                  refine G_iload C dX12_wed_136 rfl ?_
                  refine G_iload C dX12_wed_138 rfl ?_
                  refine G_icmp_ne (tgt := 148) C dX12_wed_140 (by decide) ⟨h.1.1, h.1.2⟩ (fun q => ?_) (fun q => ?_)
                  · have h := h.2.1 q
                    refine G_iload C dX12_wed_148 rfl ?_
                    refine G_iald C ly_103 (by decide) h.1 dX12_wed_150 ?_
                    have h := h.2
                    refine G_isub C dX12_wed_151 ?_
                    exact r _ _ _ _ dX12_wed_152 h
                  · have h := h.2.2 q
                    refine G_iload C dX12_wed_143 rfl ?_
                    refine G_goto (tgt := 150) C dX12_wed_145 (by decide) ?_
                    refine G_iald C ly_103 (by decide) h.1 dX12_wed_150 ?_
                    have h := h.2
                    refine G_isub C dX12_wed_151 ?_
                    exact r _ _ _ _ dX12_wed_152 h
                · have h := h.2.2 q
                  refine G_iload C dX12_wed_120 rfl ?_
                  refine G_goto (tgt := 152) C dX12_wed_122 (by decide) ?_
                  exact r _ _ _ _ dX12_wed_152 h
          · have h := h.2.2 q
            refine G_iload_n C dX12_wed_69 rfl ?_
            refine G_goto (tgt := 74) C dX12_wed_70 (by decide) ?_
            refine G_istore (L' := [rv 75, iv v1, iv v2, iv (s4 108 v1), iv v1, none, none]) C dX12_wed_74 (by decide) rfl ?_
            refine G_iload C dX12_wed_76 rfl ?_
            refine G_iload_n C dX12_wed_78 rfl ?_
            refine G_icmp_ne (tgt := 86) C dX12_wed_79 (by decide) ⟨h.1.1, h.1.2⟩ (fun q => ?_) (fun q => ?_)
            · have h := h.2.1 q
              refine G_iload_n C dX12_wed_86 rfl ?_
              refine G_istore (L' := [rv 75, iv v1, iv v2, iv (s4 108 v1), iv v1, iv v1, none]) C dX12_wed_87 (by decide) rfl ?_
              refine G_aload_n C dX12_wed_89 rfl ?_
              refine gR_X12_48 C ly_75 rfl wf_X12_98 dX12_wed_90 ?_
              refine G_iload C dX12_wed_93 rfl ?_
              refine G_iald C ly_103 (by decide) h.1 dX12_wed_95 ?_
              have h := h.2
              refine G_aload_n C dX12_wed_96 rfl ?_
              refine gR_X12_48 C ly_75 rfl wf_X12_98 dX12_wed_97 ?_
              refine G_iload C dX12_wed_100 rfl ?_
              refine G_iald C ly_103 (by decide) h.1 dX12_wed_102 ?_
              have h := h.2
              refine G_icmp_le (tgt := 111) C dX12_wed_103 (by decide) ⟨h.1.1, h.1.2⟩ (fun q => ?_) (fun q => ?_)
              · have h := h.2.1 q
                refine G_iload C dX12_wed_111 rfl ?_
                refine G_istore (L' := [rv 75, iv v1, iv v2, iv (s4 108 v1), iv v1, iv v1, iv v1]) C dX12_wed_113 (by decide) rfl ?_
                refine G_iload_n C dX12_wed_115 rfl ?_
                refine G_iconst C dX12_wed_116 ?_
                refine G_icmp_ne (tgt := 125) C dX12_wed_117 (by decide) ⟨h.1, (by decide)⟩ (fun q => ?_) (fun q => ?_)
                · have h := h.2.1 q
                  refine G_aload_n C dX12_wed_125 rfl ?_
                  refine gR_X12_48 C ly_75 rfl wf_X12_98 dX12_wed_126 ?_
                  refine G_iload C dX12_wed_129 rfl ?_
                  refine G_iald C ly_103 (by decide) h.1 dX12_wed_131 ?_
                  have h := h.2
                  refine G_aload_n C dX12_wed_132 rfl ?_
                  refine gR_X12_48 C ly_75 rfl wf_X12_98 dX12_wed_133 ?_
                  refine G_iload C dX12_wed_136 rfl ?_
                  refine G_iload C dX12_wed_138 rfl ?_
                  refine G_icmp_ne (tgt := 148) C dX12_wed_140 (by decide) ⟨h.1.1, h.1.2⟩ (fun q => ?_) (fun q => ?_)
                  · have h := h.2.1 q
                    refine G_iload C dX12_wed_148 rfl ?_
                    refine G_iald C ly_103 (by decide) h.1 dX12_wed_150 ?_
                    have h := h.2
                    refine G_isub C dX12_wed_151 ?_
                    exact r _ _ _ _ dX12_wed_152 h
                  · have h := h.2.2 q
                    refine G_iload C dX12_wed_143 rfl ?_
                    refine G_goto (tgt := 150) C dX12_wed_145 (by decide) ?_
                    refine G_iald C ly_103 (by decide) h.1 dX12_wed_150 ?_
                    have h := h.2
                    refine G_isub C dX12_wed_151 ?_
                    exact r _ _ _ _ dX12_wed_152 h
                · have h := h.2.2 q
                  refine G_iload C dX12_wed_120 rfl ?_
                  refine G_goto (tgt := 152) C dX12_wed_122 (by decide) ?_
                  exact r _ _ _ _ dX12_wed_152 h
              · have h := h.2.2 q
                refine G_iload C dX12_wed_106 rfl ?_
                refine G_goto (tgt := 113) C dX12_wed_108 (by decide) ?_
                refine G_istore (L' := [rv 75, iv v1, iv v2, iv (s4 108 v1), iv v1, iv v1, iv v1]) C dX12_wed_113 (by decide) rfl ?_
                refine G_iload_n C dX12_wed_115 rfl ?_
                refine G_iconst C dX12_wed_116 ?_
                refine G_icmp_ne (tgt := 125) C dX12_wed_117 (by decide) ⟨h.1, (by decide)⟩ (fun q => ?_) (fun q => ?_)
                · have h := h.2.1 q
                  refine G_aload_n C dX12_wed_125 rfl ?_
                  refine gR_X12_48 C ly_75 rfl wf_X12_98 dX12_wed_126 ?_
                  refine G_iload C dX12_wed_129 rfl ?_
                  refine G_iald C ly_103 (by decide) h.1 dX12_wed_131 ?_
                  have h := h.2
                  refine G_aload_n C dX12_wed_132 rfl ?_
                  refine gR_X12_48 C ly_75 rfl wf_X12_98 dX12_wed_133 ?_
                  refine G_iload C dX12_wed_136 rfl ?_
                  refine G_iload C dX12_wed_138 rfl ?_
                  refine G_icmp_ne (tgt := 148) C dX12_wed_140 (by decide) ⟨h.1.1, h.1.2⟩ (fun q => ?_) (fun q => ?_)
                  · have h := h.2.1 q
                    refine G_iload C dX12_wed_148 rfl ?_
                    refine G_iald C ly_103 (by decide) h.1 dX12_wed_150 ?_
                    have h := h.2
                    refine G_isub C dX12_wed_151 ?_
                    exact r _ _ _ _ dX12_wed_152 h
                  · have h := h.2.2 q
                    refine G_iload C dX12_wed_143 rfl ?_
                    refine G_goto (tgt := 150) C dX12_wed_145 (by decide) ?_
                    refine G_iald C ly_103 (by decide) h.1 dX12_wed_150 ?_
                    have h := h.2
                    refine G_isub C dX12_wed_151 ?_
                    exact r _ _ _ _ dX12_wed_152 h
                · have h := h.2.2 q
                  refine G_iload C dX12_wed_120 rfl ?_
                  refine G_goto (tgt := 152) C dX12_wed_122 (by decide) ?_
                  exact r _ _ _ _ dX12_wed_152 h
            · have h := h.2.2 q
              refine G_iload_n C dX12_wed_82 rfl ?_
              refine G_goto (tgt := 87) C dX12_wed_83 (by decide) ?_
              refine G_istore (L' := [rv 75, iv v1, iv v2, iv (s4 108 v1), iv v1, iv (s4 108 v1), none]) C dX12_wed_87 (by decide) rfl ?_
              refine G_aload_n C dX12_wed_89 rfl ?_
              refine gR_X12_48 C ly_75 rfl wf_X12_98 dX12_wed_90 ?_
              refine G_iload C dX12_wed_93 rfl ?_
              refine G_iald C ly_103 (by decide) h.1 dX12_wed_95 ?_
              have h := h.2
              refine G_aload_n C dX12_wed_96 rfl ?_
              refine gR_X12_48 C ly_75 rfl wf_X12_98 dX12_wed_97 ?_
              refine G_iload C dX12_wed_100 rfl ?_
              refine G_iald C ly_103 (by decide) h.1 dX12_wed_102 ?_
              have h := h.2
              refine G_icmp_le (tgt := 111) C dX12_wed_103 (by decide) ⟨h.1.1, h.1.2⟩ (fun q => ?_) (fun q => ?_)
              · have h := h.2.1 q
                refine G_iload C dX12_wed_111 rfl ?_
                refine G_istore (L' := [rv 75, iv v1, iv v2, iv (s4 108 v1), iv v1, iv (s4 108 v1), iv v1]) C dX12_wed_113 (by decide) rfl ?_
                refine G_iload_n C dX12_wed_115 rfl ?_
                refine G_iconst C dX12_wed_116 ?_
                refine G_icmp_ne (tgt := 125) C dX12_wed_117 (by decide) ⟨h.1, (by decide)⟩ (fun q => ?_) (fun q => ?_)
                · have h := h.2.1 q
                  refine G_aload_n C dX12_wed_125 rfl ?_
                  refine gR_X12_48 C ly_75 rfl wf_X12_98 dX12_wed_126 ?_
                  refine G_iload C dX12_wed_129 rfl ?_
                  refine G_iald C ly_103 (by decide) h.1 dX12_wed_131 ?_
                  have h := h.2
                  refine G_aload_n C dX12_wed_132 rfl ?_
                  refine gR_X12_48 C ly_75 rfl wf_X12_98 dX12_wed_133 ?_
                  refine G_iload C dX12_wed_136 rfl ?_
                  refine G_iload C dX12_wed_138 rfl ?_
                  refine G_icmp_ne (tgt := 148) C dX12_wed_140 (by decide) ⟨h.1.1, h.1.2⟩ (fun q => ?_) (fun q => ?_)
                  · have h := h.2.1 q
                    refine G_iload C dX12_wed_148 rfl ?_
                    refine G_iald C ly_103 (by decide) h.1 dX12_wed_150 ?_
                    have h := h.2
                    refine G_isub C dX12_wed_151 ?_
                    exact r _ _ _ _ dX12_wed_152 h
                  · have h := h.2.2 q
                    refine G_iload C dX12_wed_143 rfl ?_
                    refine G_goto (tgt := 150) C dX12_wed_145 (by decide) ?_
                    refine G_iald C ly_103 (by decide) h.1 dX12_wed_150 ?_
                    have h := h.2
                    refine G_isub C dX12_wed_151 ?_
                    exact r _ _ _ _ dX12_wed_152 h
                · have h := h.2.2 q
                  refine G_iload C dX12_wed_120 rfl ?_
                  refine G_goto (tgt := 152) C dX12_wed_122 (by decide) ?_
                  exact r _ _ _ _ dX12_wed_152 h
              · have h := h.2.2 q
                refine G_iload C dX12_wed_106 rfl ?_
                refine G_goto (tgt := 113) C dX12_wed_108 (by decide) ?_
                refine G_istore (L' := [rv 75, iv v1, iv v2, iv (s4 108 v1), iv v1, iv (s4 108 v1), iv (s4 108 v1)]) C dX12_wed_113 (by decide) rfl ?_
                refine G_iload_n C dX12_wed_115 rfl ?_
                refine G_iconst C dX12_wed_116 ?_
                refine G_icmp_ne (tgt := 125) C dX12_wed_117 (by decide) ⟨h.1, (by decide)⟩ (fun q => ?_) (fun q => ?_)
                · have h := h.2.1 q
                  refine G_aload_n C dX12_wed_125 rfl ?_
                  refine gR_X12_48 C ly_75 rfl wf_X12_98 dX12_wed_126 ?_
                  refine G_iload C dX12_wed_129 rfl ?_
                  refine G_iald C ly_103 (by decide) h.1 dX12_wed_131 ?_
                  have h := h.2
                  refine G_aload_n C dX12_wed_132 rfl ?_
                  refine gR_X12_48 C ly_75 rfl wf_X12_98 dX12_wed_133 ?_
                  refine G_iload C dX12_wed_136 rfl ?_
                  refine G_iload C dX12_wed_138 rfl ?_
                  refine G_icmp_ne (tgt := 148) C dX12_wed_140 (by decide) ⟨h.1.1, h.1.2⟩ (fun q => ?_) (fun q => ?_)
                  · have h := h.2.1 q
                    refine G_iload C dX12_wed_148 rfl ?_
                    refine G_iald C ly_103 (by decide) h.1 dX12_wed_150 ?_
                    have h := h.2
                    refine G_isub C dX12_wed_151 ?_
                    exact r _ _ _ _ dX12_wed_152 h
                  · have h := h.2.2 q
                    refine G_iload C dX12_wed_143 rfl ?_
                    refine G_goto (tgt := 150) C dX12_wed_145 (by decide) ?_
                    refine G_iald C ly_103 (by decide) h.1 dX12_wed_150 ?_
                    have h := h.2
                    refine G_isub C dX12_wed_151 ?_
                    exact r _ _ _ _ dX12_wed_152 h
                · have h := h.2.2 q
                  refine G_iload C dX12_wed_120 rfl ?_
                  refine G_goto (tgt := 152) C dX12_wed_122 (by decide) ?_
                  exact r _ _ _ _ dX12_wed_152 h
        · have h := h.2.2 q
          refine G_iload_n C dX12_wed_49 rfl ?_
          refine G_iconst C dX12_wed_50 ?_
          refine G_icmp_ne (tgt := 58) C dX12_wed_51 (by decide) ⟨h.1, (by decide)⟩ (fun q => ?_) (fun q => ?_)
          · have h := h.2.1 q
            refine G_iconst C dX12_wed_58 ?_
            exact r _ _ _ _ dX12_wed_59 h
          · have h := h.2.2 q
            refine G_iconst C dX12_wed_54 ?_
            refine G_goto (tgt := 59) C dX12_wed_55 (by decide) ?_
            exact r _ _ _ _ dX12_wed_59 h
      · have h := h.2.2 q
        refine G_iload_n C dX12_wed_42 rfl ?_
        exact r _ _ _ _ dX12_wed_43 h
    · have h := h.2.2 q
      exact h
set_option maxRecDepth 20000 in
theorem kb_X12_wed_23 {X : Cx} {d : Nat} {P : Int → Sto → Prop} (C : Ok LY X RX12 cX12_wed 7 d) (r : RetI LY X cX12_wed P) {v1 v2 : Int} {s : Sto} (h : P (-1000000) s) : G LY X 23 [rv 75, iv v1, iv v2, none, none, none, none] [] s := by
  refine G_ldcw C wk_X12_327 (z := (-1000000)) (by decide) dX12_wed_23 ?_
  exact r _ _ _ _ dX12_wed_26 h
set_option maxRecDepth 20000 in
theorem kb_X12_voter_0 {X : Cx} {d : Nat} {P : Int → Sto → Prop} (C : Ok LY X RX12 cX12_voter 4 d) (r : RetI LY X cX12_voter P) {v1 v2 : Int} {s : Sto} (h : (∀ s1 : Sto, s1 = up s 75 0 0 → (CallI LY d MX12_takesOrder [.inr 75] s1 (fun r2 s2 => ((rg r2) ∧ ((r2 = 0 → P (-1) s2) ∧ (r2 ≠ 0 → (CallI LY d MX12_isIn [.inr 75, .inl v1, .inl 1, .inl 9] s2 (fun r3 s3 => ((rg r3) ∧ ((r3 = 0 → P (-1) s3) ∧ (r3 ≠ 0 → (CallI LY d MX12_isIn [.inr 75, .inl v2, .inl 0, .inl 999] s3 (fun r4 s4 => ((rg r4) ∧ ((r4 = 0 → P (-1) s4) ∧ (r4 ≠ 0 → ((rg (s4 75 18)) ∧ (((s4 75 18) ≠ 12 → (CallV LY d MX12_movesOrder [.inr 75, .inl 19, .inl (7 + (s4 75 18))] s4 (fun s5 => ((0 ≤ (s5 75 18) ∧ (s5 75 18) < 12) ∧ (∀ s6 : Sto, s6 = up s5 89 (s5 75 18) v1 → ((0 ≤ (s6 75 18) ∧ (s6 75 18) < 12) ∧ (∀ s7 : Sto, s7 = up s6 90 (s6 75 18) v2 → (∀ s8 : Sto, s8 = up s7 75 18 ((s7 75 18) + 1) → P ((s8 75 18) - 1) s8)))))))) ∧ ((s4 75 18) = 12 → P (-1) s4)))))))))))))))))))) : G LY X 0 [rv 75, iv v1, iv v2, none] [] s := by
  refine G_aload_n C dX12_voter_0 rfl ?_
  refine G_iconst C dX12_voter_1 ?_
  refine gP_X12_0 C ly_75 rfl wf_X12_146 dX12_voter_2 ?_
  have h := h _ rfl
  obtain ⟨s1, e1⟩ : ∃ z, z = up s 75 0 0 := ⟨_, rfl⟩
  rw [← e1] at h ⊢
  refine G_aload_n C dX12_voter_5 rfl ?_
  refine G_callVI (K := []) (args := []) (T := TX12) (N := 72) C ly_75 rfl (Nat.le_of_ble_eq_true rfl) mo_X12_takesOrder wc_X12_195 rfl dX12_voter_6 h (fun r2 s2 h => ?_)
  refine G_istore_n (L' := [rv 75, iv v1, iv v2, iv r2]) C dX12_voter_9 (by decide) rfl ?_
  refine G_iload_n C dX12_voter_10 rfl ?_
  refine G_if_eq (tgt := 46) C dX12_voter_11 (by decide) h.1 (fun q => ?_) (fun q => ?_)
  · have h := h.2.1 q
    refine G_iconst C dX12_voter_46 ?_
    exact r _ _ _ _ dX12_voter_47 h
  · have h := h.2.2 q
    refine G_aload_n C dX12_voter_14 rfl ?_
    refine G_iload_n C dX12_voter_15 rfl ?_
    refine G_iconst C dX12_voter_16 ?_
    refine G_bipush C dX12_voter_17 bi_9 ?_
    refine G_callVI (K := []) (args := [.inl v1, .inl 1, .inl 9]) (T := TX12) (N := 72) C ly_75 rfl (Nat.le_of_ble_eq_true rfl) mo_X12_isIn wc_X12_160 rfl dX12_voter_19 h (fun r3 s3 h => ?_)
    refine G_if_eq (tgt := 46) C dX12_voter_22 (by decide) h.1 (fun q => ?_) (fun q => ?_)
    · have h := h.2.1 q
      refine G_iconst C dX12_voter_46 ?_
      exact r _ _ _ _ dX12_voter_47 h
    · have h := h.2.2 q
      refine G_aload_n C dX12_voter_25 rfl ?_
      refine G_iload_n C dX12_voter_26 rfl ?_
      refine G_iconst C dX12_voter_27 ?_
      refine G_sipush C dX12_voter_28 si_999 ?_
      refine G_callVI (K := []) (args := [.inl v2, .inl 0, .inl 999]) (T := TX12) (N := 72) C ly_75 rfl (Nat.le_of_ble_eq_true rfl) mo_X12_isIn wc_X12_160 rfl dX12_voter_31 h (fun r4 s4 h => ?_)
      refine G_if_eq (tgt := 46) C dX12_voter_34 (by decide) h.1 (fun q => ?_) (fun q => ?_)
      · have h := h.2.1 q
        refine G_iconst C dX12_voter_46 ?_
        exact r _ _ _ _ dX12_voter_47 h
      · have h := h.2.2 q
        refine G_aload_n C dX12_voter_37 rfl ?_
        refine gI_X12_18 C ly_75 rfl wf_X12_174 dX12_voter_38 ?_
        refine G_bipush C dX12_voter_41 bi_12 ?_
        refine G_icmp_ne (tgt := 48) C dX12_voter_43 (by decide) ⟨h.1, (by decide)⟩ (fun q => ?_) (fun q => ?_)
        · have h := h.2.1 q
          refine G_aload_n C dX12_voter_48 rfl ?_
          refine G_bipush C dX12_voter_49 bi_19 ?_
          refine G_bipush C dX12_voter_51 bi_7 ?_
          refine G_aload_n C dX12_voter_53 rfl ?_
          refine gI_X12_18 C ly_75 rfl wf_X12_174 dX12_voter_54 ?_
          refine G_iadd C dX12_voter_57 ?_
          refine G_callVV (K := []) (args := [.inl 19, .inl (7 + (s4 75 18))]) (T := TX12) (N := 72) C ly_75 rfl (Nat.le_of_ble_eq_true rfl) mo_X12_movesOrder wc_X12_198 rfl dX12_voter_58 h (fun s5 h => ?_)
          refine G_aload_n C dX12_voter_61 rfl ?_
          refine gR_X12_19 C ly_75 rfl wf_X12_53 dX12_voter_62 ?_
          refine G_aload_n C dX12_voter_65 rfl ?_
          refine gI_X12_18 C ly_75 rfl wf_X12_174 dX12_voter_66 ?_
          refine G_iload_n C dX12_voter_69 rfl ?_
          refine G_iast C ly_89 (by decide) h.1 dX12_voter_70 ?_
          have h := h.2
          have h := h _ rfl
          obtain ⟨s6, e6⟩ : ∃ z, z = up s5 89 (s5 75 18) v1 := ⟨_, rfl⟩
          rw [← e6] at h ⊢
          refine G_aload_n C dX12_voter_71 rfl ?_
          refine gR_X12_20 C ly_75 rfl wf_X12_56 dX12_voter_72 ?_
          refine G_aload_n C dX12_voter_75 rfl ?_
          refine gI_X12_18 C ly_75 rfl wf_X12_174 dX12_voter_76 ?_
          refine G_iload_n C dX12_voter_79 rfl ?_
          refine G_iast C ly_90 (by decide) h.1 dX12_voter_80 ?_
          have h := h.2
          have h := h _ rfl
          obtain ⟨s7, e7⟩ : ∃ z, z = up s6 90 (s6 75 18) v2 := ⟨_, rfl⟩
          rw [← e7] at h ⊢
          refine G_aload_n C dX12_voter_81 rfl ?_
          refine G_aload_n C dX12_voter_82 rfl ?_
          refine gI_X12_18 C ly_75 rfl wf_X12_174 dX12_voter_83 ?_
          refine G_iconst C dX12_voter_86 ?_
          refine G_iadd C dX12_voter_87 ?_
          refine gP_X12_18 C ly_75 rfl wf_X12_174 dX12_voter_88 ?_
          have h := h _ rfl
          obtain ⟨s8, e8⟩ : ∃ z, z = up s7 75 18 ((s7 75 18) + 1) := ⟨_, rfl⟩
          rw [← e8] at h ⊢
          refine G_aload_n C dX12_voter_91 rfl ?_
          refine gI_X12_18 C ly_75 rfl wf_X12_174 dX12_voter_92 ?_
          refine G_iconst C dX12_voter_95 ?_
          refine G_isub C dX12_voter_96 ?_
          exact r _ _ _ _ dX12_voter_97 h
        · have h := h.2.2 q
          refine G_iconst C dX12_voter_46 ?_
          exact r _ _ _ _ dX12_voter_47 h
set_option maxRecDepth 20000 in
theorem kb_X12_over_0 {X : Cx} {d : Nat} {P : Int → Sto → Prop} (C : Ok LY X RX12 cX12_over 3 d) (r : RetI LY X cX12_over P) {v1 v2 : Int} {s : Sto} (h : (∀ s1 : Sto, s1 = up s 75 0 0 → (CallI LY d MX12_isLetterOf [.inr 75, .inl v1] s1 (fun r2 s2 => ((rg r2) ∧ ((r2 = 0 → P (-1) s2) ∧ (r2 ≠ 0 → (CallI LY d MX12_isLetterOf [.inr 75, .inl v2] s2 (fun r3 s3 => ((rg r3) ∧ ((r3 = 0 → P (-1) s3) ∧ (r3 ≠ 0 → ((rg v1 ∧ rg v2) ∧ ((v1 ≠ v2 → (∀ s4 : Sto, s4 = up s3 75 58 0 → (CallV LY d MX12_findsOvers [.inr 75] s4 (fun s5 => ((0 ≤ ((8 * v1) + v2) ∧ ((8 * v1) + v2) < 64) ∧ P (s5 110 ((8 * v1) + v2)) s5))))) ∧ (v1 = v2 → P (-1) s3))))))))))))))) : G LY X 0 [rv 75, iv v1, iv v2] [] s := by
  refine G_aload_n C dX12_over_0 rfl ?_
  refine G_iconst C dX12_over_1 ?_
  refine gP_X12_0 C ly_75 rfl wf_X12_146 dX12_over_2 ?_
  have h := h _ rfl
  obtain ⟨s1, e1⟩ : ∃ z, z = up s 75 0 0 := ⟨_, rfl⟩
  rw [← e1] at h ⊢
  refine G_aload_n C dX12_over_5 rfl ?_
  refine G_iload_n C dX12_over_6 rfl ?_
  refine G_callVI (K := []) (args := [.inl v1]) (T := TX12) (N := 72) C ly_75 rfl (Nat.le_of_ble_eq_true rfl) mo_X12_isLetterOf wc_X12_406 rfl dX12_over_7 h (fun r2 s2 h => ?_)
  refine G_if_eq (tgt := 26) C dX12_over_10 (by decide) h.1 (fun q => ?_) (fun q => ?_)
  · have h := h.2.1 q
    refine G_iconst C dX12_over_26 ?_
    exact r _ _ _ _ dX12_over_27 h
  · have h := h.2.2 q
    refine G_aload_n C dX12_over_13 rfl ?_
    refine G_iload_n C dX12_over_14 rfl ?_
    refine G_callVI (K := []) (args := [.inl v2]) (T := TX12) (N := 72) C ly_75 rfl (Nat.le_of_ble_eq_true rfl) mo_X12_isLetterOf wc_X12_406 rfl dX12_over_15 h (fun r3 s3 h => ?_)
    refine G_if_eq (tgt := 26) C dX12_over_18 (by decide) h.1 (fun q => ?_) (fun q => ?_)
    · have h := h.2.1 q
      refine G_iconst C dX12_over_26 ?_
      exact r _ _ _ _ dX12_over_27 h
    · have h := h.2.2 q
      refine G_iload_n C dX12_over_21 rfl ?_
      refine G_iload_n C dX12_over_22 rfl ?_
      refine G_icmp_ne (tgt := 28) C dX12_over_23 (by decide) ⟨h.1.1, h.1.2⟩ (fun q => ?_) (fun q => ?_)
      · have h := h.2.1 q
        refine G_aload_n C dX12_over_28 rfl ?_
        refine G_iconst C dX12_over_29 ?_
        refine gP_X12_58 C ly_75 rfl wf_X12_382 dX12_over_30 ?_
        have h := h _ rfl
        obtain ⟨s4, e4⟩ : ∃ z, z = up s3 75 58 0 := ⟨_, rfl⟩
        rw [← e4] at h ⊢
        refine G_aload_n C dX12_over_33 rfl ?_
        refine G_callVV (K := []) (args := []) (T := TX12) (N := 72) C ly_75 rfl (Nat.le_of_ble_eq_true rfl) mo_X12_findsOvers wc_X12_394 rfl dX12_over_34 h (fun s5 h => ?_)
        refine G_aload_n C dX12_over_37 rfl ?_
        refine gR_X12_60 C ly_75 rfl wf_X12_119 dX12_over_38 ?_
        refine G_bipush C dX12_over_41 bi_8 ?_
        refine G_iload_n C dX12_over_43 rfl ?_
        refine G_imul C dX12_over_44 ?_
        refine G_iload_n C dX12_over_45 rfl ?_
        refine G_iadd C dX12_over_46 ?_
        refine G_iald C ly_110 (by decide) h.1 dX12_over_47 ?_
        have h := h.2
        exact r _ _ _ _ dX12_over_48 h
      · have h := h.2.2 q
        refine G_iconst C dX12_over_26 ?_
        exact r _ _ _ _ dX12_over_27 h
