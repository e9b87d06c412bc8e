set_option maxRecDepth 20000 in
theorem kb_X12_vote_0 {X : Cx} {d : Nat} {P : Int → Sto → Prop} (C : Ok LY X RX12 cX12_vote 3 d) (r : RetI LY X cX12_vote P) {v1 v2 : Int} {s : Sto} (h : (∀ s1 : Sto, s1 = up s 75 0 0 → (CallI LY d MX12_isIn [.inr 75, .inl v1, .inl 0, .inl 2] s1 (fun r2 s2 => ((rg r2) ∧ ((r2 = 0 → P (-1) s2) ∧ (r2 ≠ 0 → (CallI LY d MX12_isLetterOf [.inr 75, .inl v2] s2 (fun r3 s3 => ((rg r3) ∧ ((r3 ≠ 0 → (∀ s4 : Sto, s4 = up s3 75 58 0 → (CallV LY d MX12_findsVote [.inr 75, .inl v1] s4 (fun s5 => ((0 ≤ (160 + v2) ∧ (160 + v2) < 168) ∧ P (s5 81 (160 + v2)) s5))))) ∧ (r3 = 0 → P (-1) s3)))))))))))) : G LY X 0 [rv 75, iv v1, iv v2] [] s := by
  refine G_aload_n C dX12_vote_0 rfl ?_
  refine G_iconst C dX12_vote_1 ?_
  refine gP_X12_0 C ly_75 rfl wf_X12_146 dX12_vote_2 ?_
  have h := h _ rfl
  obtain ⟨s1, e1⟩ : ∃ z, z = up s 75 0 0 := ⟨_, rfl⟩
  rw [← e1] at h ⊢
  refine G_aload_n C dX12_vote_5 rfl ?_
  refine G_iload_n C dX12_vote_6 rfl ?_
  refine G_iconst C dX12_vote_7 ?_
  refine G_iconst C dX12_vote_8 ?_
  refine G_callVI (K := []) (args := [.inl v1, .inl 0, .inl 2]) (T := TX12) (N := 72) C ly_75 rfl (Nat.le_of_ble_eq_true rfl) mo_X12_isIn wc_X12_160 rfl dX12_vote_9 h (fun r2 s2 h => ?_)
  refine G_if_eq (tgt := 23) C dX12_vote_12 (by decide) h.1 (fun q => ?_) (fun q => ?_)
  · have h := h.2.1 q
    refine G_iconst C dX12_vote_23 ?_
    exact r _ _ _ _ dX12_vote_24 h
  · have h := h.2.2 q
    refine G_aload_n C dX12_vote_15 rfl ?_
    refine G_iload_n C dX12_vote_16 rfl ?_
    refine G_callVI (K := []) (args := [.inl v2]) (T := TX12) (N := 72) C ly_75 rfl (Nat.le_of_ble_eq_true rfl) mo_X12_isLetterOf wc_X12_406 rfl dX12_vote_17 h (fun r3 s3 h => ?_)
    refine G_if_ne (tgt := 25) C dX12_vote_20 (by decide) h.1 (fun q => ?_) (fun q => ?_)
    · have h := h.2.1 q
      refine G_aload_n C dX12_vote_25 rfl ?_
      refine G_iconst C dX12_vote_26 ?_
      refine gP_X12_58 C ly_75 rfl wf_X12_382 dX12_vote_27 ?_
      have h := h _ rfl
      obtain ⟨s4, e4⟩ : ∃ z, z = up s3 75 58 0 := ⟨_, rfl⟩
      rw [← e4] at h ⊢
      refine G_aload_n C dX12_vote_30 rfl ?_
      refine G_iload_n C dX12_vote_31 rfl ?_
      refine G_callVV (K := []) (args := [.inl v1]) (T := TX12) (N := 72) C ly_75 rfl (Nat.le_of_ble_eq_true rfl) mo_X12_findsVote wc_X12_409 rfl dX12_vote_32 h (fun s5 h => ?_)
      refine G_aload_n C dX12_vote_35 rfl ?_
      refine gR_X12_10 C ly_75 rfl wf_X12_29 dX12_vote_36 ?_
      refine G_sipush C dX12_vote_39 si_160 ?_
      refine G_iload_n C dX12_vote_42 rfl ?_
      refine G_iadd C dX12_vote_43 ?_
      refine G_iald C ly_81 (by decide) h.1 dX12_vote_44 ?_
      have h := h.2
      exact r _ _ _ _ dX12_vote_45 h
    · have h := h.2.2 q
      refine G_iconst C dX12_vote_23 ?_
      exact r _ _ _ _ dX12_vote_24 h
set_option maxRecDepth 20000 in
theorem kb_X12_circle_0 {X : Cx} {d : Nat} {P : Int → Sto → Prop} (C : Ok LY X RX12 cX12_circle 4 d) (r : RetI LY X cX12_circle P) {s : Sto} (h : (∀ s1 : Sto, s1 = up s 75 0 0 → (∀ s2 : Sto, s2 = up s1 75 58 0 → (CallV LY d MX12_findsOvers [.inr 75] s2 (fun s3 => G LY X 16 [rv 75, iv 0, none, none] [] s3))))) : G LY X 0 [rv 75, none, none, none] [] s := by
  refine G_aload_n C dX12_circle_0 rfl ?_
  refine G_iconst C dX12_circle_1 ?_
  refine gP_X12_0 C ly_75 rfl wf_X12_146 dX12_circle_2 ?_
  have h := h _ rfl
  obtain ⟨s1, e1⟩ : ∃ z, z = up s 75 0 0 := ⟨_, rfl⟩
  rw [← e1] at h ⊢
  refine G_aload_n C dX12_circle_5 rfl ?_
  refine G_iconst C dX12_circle_6 ?_
  refine gP_X12_58 C ly_75 rfl wf_X12_382 dX12_circle_7 ?_
  have h := h _ rfl
  obtain ⟨s2, e2⟩ : ∃ z, z = up s1 75 58 0 := ⟨_, rfl⟩
  rw [← e2] at h ⊢
  refine G_aload_n C dX12_circle_10 rfl ?_
  refine G_callVV (K := []) (args := []) (T := TX12) (N := 72) C ly_75 rfl (Nat.le_of_ble_eq_true rfl) mo_X12_findsOvers wc_X12_394 rfl dX12_circle_11 h (fun s3 h => ?_)
  refine G_iconst C dX12_circle_14 ?_
  refine G_istore_n (L' := [rv 75, iv 0, none, none]) C dX12_circle_15 (by decide) rfl ?_
  exact h
set_option maxRecDepth 20000 in
theorem kb_X12_circle_16 {X : Cx} {d : Nat} {P : Int → Sto → Prop} (C : Ok LY X RX12 cX12_circle 4 d) (r : RetI LY X cX12_circle P) {v1 : Int} {s : Sto} (h : ((rg v1 ∧ rg (s 75 9)) ∧ (((s 75 9) ≤ v1 → G LY X 96 [rv 75, iv 0, none, none] [] s) ∧ (v1 < (s 75 9) → ((0 ≤ v1 ∧ v1 < 8) ∧ (∀ s1 : Sto, s1 = up s 113 v1 0 → G LY X 33 [rv 75, iv v1, iv 0, none] [] s1)))))) : G LY X 16 [rv 75, iv v1, none, none] [] s := by
  refine G_iload_n C dX12_circle_16 rfl ?_
  refine G_aload_n C dX12_circle_17 rfl ?_
  refine gI_X12_9 C ly_75 rfl wf_X12_25 dX12_circle_18 ?_
  refine G_icmp_ge (tgt := 94) C dX12_circle_21 (by decide) ⟨h.1.1, h.1.2⟩ (fun q => ?_) (fun q => ?_)
  · have h := h.2.1 q
    refine G_iconst C dX12_circle_94 ?_
    refine G_istore_n (L' := [rv 75, iv 0, none, none]) C dX12_circle_95 (by decide) rfl ?_
    exact h
  · have h := h.2.2 q
    refine G_aload_n C dX12_circle_24 rfl ?_
    refine gR_X12_63 C ly_75 rfl wf_X12_128 dX12_circle_25 ?_
    refine G_iload_n C dX12_circle_28 rfl ?_
    refine G_iconst C dX12_circle_29 ?_
    refine G_iast C ly_113 (by decide) h.1 dX12_circle_30 ?_
    have h := h.2
    have h := h _ rfl
    obtain ⟨s1, e1⟩ : ∃ z, z = up s 113 v1 0 := ⟨_, rfl⟩
    rw [← e1] at h ⊢
    refine G_iconst C dX12_circle_31 ?_
    refine G_istore_n (L' := [rv 75, iv v1, iv 0, none]) C dX12_circle_32 (by decide) rfl ?_
    exact h
set_option maxRecDepth 20000 in
theorem kb_X12_circle_33 {X : Cx} {d : Nat} {P : Int → Sto → Prop} (C : Ok LY X RX12 cX12_circle 4 d) (r : RetI LY X cX12_circle P) {v1 v2 : Int} {s : Sto} (h : ((rg v2 ∧ rg (s 75 9)) ∧ (((s 75 9) ≤ v2 → G LY X 16 [rv 75, iv (v1 + 1), none, none] [] s) ∧ (v2 < (s 75 9) → ((0 ≤ ((8 * v1) + v2) ∧ ((8 * v1) + v2) < 64) ∧ ((0 ≤ ((8 * v2) + v1) ∧ ((8 * v2) + v1) < 64) ∧ ((rg (s 110 ((8 * v1) + v2)) ∧ rg (s 110 ((8 * v2) + v1))) ∧ (((s 110 ((8 * v1) + v2)) ≤ (s 110 ((8 * v2) + v1)) → G LY X 33 [rv 75, iv v1, iv (v2 + 1), none] [] s) ∧ ((s 110 ((8 * v2) + v1)) < (s 110 ((8 * v1) + v2)) → ((0 ≤ v1 ∧ v1 < 8) ∧ ((0 ≤ v1 ∧ v1 < 8) ∧ (∀ s1 : Sto, s1 = up s 113 v1 (xor_ (s 113 v1) (xshl 1 v2)) → G LY X 33 [rv 75, iv v1, iv (v2 + 1), none] [] s1)))))))))))) : G LY X 33 [rv 75, iv v1, iv v2, none] [] s := by
  refine G_iload_n C dX12_circle_33 rfl ?_
  refine G_aload_n C dX12_circle_34 rfl ?_
  refine gI_X12_9 C ly_75 rfl wf_X12_25 dX12_circle_35 ?_
  refine G_icmp_ge (tgt := 88) C dX12_circle_38 (by decide) ⟨h.1.1, h.1.2⟩ (fun q => ?_) (fun q => ?_)
  · have h := h.2.1 q
    refine G_iinc (L' := [rv 75, iv (v1 + 1), iv v2, none]) C dX12_circle_88 (by decide) rfl rfl ?_
    refine G_goto (tgt := 16) C dX12_circle_91 (by decide) ?_
    refine G_drop (i := 2) (L' := [rv 75, iv (v1 + 1), none, none]) rfl ?_
    exact h
  · have h := h.2.2 q
    refine G_aload_n C dX12_circle_41 rfl ?_
    refine gR_X12_60 C ly_75 rfl wf_X12_119 dX12_circle_42 ?_
    refine G_bipush C dX12_circle_45 bi_8 ?_
    refine G_iload_n C dX12_circle_47 rfl ?_
    refine G_imul C dX12_circle_48 ?_
    refine G_iload_n C dX12_circle_49 rfl ?_
    refine G_iadd C dX12_circle_50 ?_
    refine G_iald C ly_110 (by decide) h.1 dX12_circle_51 ?_
    have h := h.2
    refine G_aload_n C dX12_circle_52 rfl ?_
    refine gR_X12_60 C ly_75 rfl wf_X12_119 dX12_circle_53 ?_
    refine G_bipush C dX12_circle_56 bi_8 ?_
    refine G_iload_n C dX12_circle_58 rfl ?_
    refine G_imul C dX12_circle_59 ?_
    refine G_iload_n C dX12_circle_60 rfl ?_
    refine G_iadd C dX12_circle_61 ?_
    refine G_iald C ly_110 (by decide) h.1 dX12_circle_62 ?_
    have h := h.2
    refine G_icmp_le (tgt := 82) C dX12_circle_63 (by decide) ⟨h.1.1, h.1.2⟩ (fun q => ?_) (fun q => ?_)
    · have h := h.2.1 q
      refine G_iinc (L' := [rv 75, iv v1, iv (v2 + 1), none]) C dX12_circle_82 (by decide) rfl rfl ?_
      refine G_goto (tgt := 33) C dX12_circle_85 (by decide) ?_
      exact h
    · have h := h.2.2 q
      refine G_aload_n C dX12_circle_66 rfl ?_
      refine gR_X12_63 C ly_75 rfl wf_X12_128 dX12_circle_67 ?_
      refine G_iload_n C dX12_circle_70 rfl ?_
      refine G_aload_n C dX12_circle_71 rfl ?_
      refine gR_X12_63 C ly_75 rfl wf_X12_128 dX12_circle_72 ?_
      refine G_iload_n C dX12_circle_75 rfl ?_
      refine G_iald C ly_113 (by decide) h.1 dX12_circle_76 ?_
      have h := h.2
      refine G_iconst C dX12_circle_77 ?_
      refine G_iload_n C dX12_circle_78 rfl ?_
      refine G_ishl C dX12_circle_79 ?_
      refine G_ior C dX12_circle_80 ?_
      refine G_iast C ly_113 (by decide) h.1 dX12_circle_81 ?_
      have h := h.2
      have h := h _ rfl
      obtain ⟨s1, e1⟩ : ∃ z, z = up s 113 v1 (xor_ (s 113 v1) (xshl 1 v2)) := ⟨_, rfl⟩
      rw [← e1] at h ⊢
      refine G_iinc (L' := [rv 75, iv v1, iv (v2 + 1), none]) C dX12_circle_82 (by decide) rfl rfl ?_
      refine G_goto (tgt := 33) C dX12_circle_85 (by decide) ?_
      exact h
set_option maxRecDepth 20000 in
theorem kb_X12_circle_96 {X : Cx} {d : Nat} {P : Int → Sto → Prop} (C : Ok LY X RX12 cX12_circle 4 d) (r : RetI LY X cX12_circle P) {v1 : Int} {s : Sto} (h : ((rg v1 ∧ rg (s 75 9)) ∧ (((s 75 9) ≤ v1 → G LY X 179 [rv 75, iv 0, iv 0, none] [] s) ∧ (v1 < (s 75 9) → G LY X 106 [rv 75, iv v1, iv 0, none] [] s)))) : G LY X 96 [rv 75, iv v1, none, none] [] s := by
  refine G_iload_n C dX12_circle_96 rfl ?_
  refine G_aload_n C dX12_circle_97 rfl ?_
  refine gI_X12_9 C ly_75 rfl wf_X12_25 dX12_circle_98 ?_
  refine G_icmp_ge (tgt := 175) C dX12_circle_101 (by decide) ⟨h.1.1, h.1.2⟩ (fun q => ?_) (fun q => ?_)
  · have h := h.2.1 q
    refine G_iconst C dX12_circle_175 ?_
    refine G_istore_n (L' := [rv 75, iv 0, none, none]) C dX12_circle_176 (by decide) rfl ?_
    refine G_iconst C dX12_circle_177 ?_
    refine G_istore_n (L' := [rv 75, iv 0, iv 0, none]) C dX12_circle_178 (by decide) rfl ?_
    exact h
  · have h := h.2.2 q
    refine G_iconst C dX12_circle_104 ?_
    refine G_istore_n (L' := [rv 75, iv v1, iv 0, none]) C dX12_circle_105 (by decide) rfl ?_
    exact h
set_option maxRecDepth 20000 in
theorem kb_X12_circle_106 {X : Cx} {d : Nat} {P : Int → Sto → Prop} (C : Ok LY X RX12 cX12_circle 4 d) (r : RetI LY X cX12_circle P) {v1 v2 : Int} {s : Sto} (h : ((rg v2 ∧ rg (s 75 9)) ∧ (((s 75 9) ≤ v2 → G LY X 96 [rv 75, iv (v1 + 1), none, none] [] s) ∧ (v2 < (s 75 9) → G LY X 116 [rv 75, iv v1, iv v2, iv 0] [] s)))) : G LY X 106 [rv 75, iv v1, iv v2, none] [] s := by
  refine G_iload_n C dX12_circle_106 rfl ?_
  refine G_aload_n C dX12_circle_107 rfl ?_
  refine gI_X12_9 C ly_75 rfl wf_X12_25 dX12_circle_108 ?_
  refine G_icmp_ge (tgt := 169) C dX12_circle_111 (by decide) ⟨h.1.1, h.1.2⟩ (fun q => ?_) (fun q => ?_)
  · have h := h.2.1 q
    refine G_iinc (L' := [rv 75, iv (v1 + 1), iv v2, none]) C dX12_circle_169 (by decide) rfl rfl ?_
    refine G_goto (tgt := 96) C dX12_circle_172 (by decide) ?_
    refine G_drop (i := 2) (L' := [rv 75, iv (v1 + 1), none, none]) rfl ?_
    exact h
  · have h := h.2.2 q
    refine G_iconst C dX12_circle_114 ?_
    refine G_istore_n (L' := [rv 75, iv v1, iv v2, iv 0]) C dX12_circle_115 (by decide) rfl ?_
    exact h
set_option maxRecDepth 20000 in
theorem kb_X12_circle_116 {X : Cx} {d : Nat} {P : Int → Sto → Prop} (C : Ok LY X RX12 cX12_circle 4 d) (r : RetI LY X cX12_circle P) {v1 v2 v3 : Int} {s : Sto} (h : ((rg v3 ∧ rg (s 75 9)) ∧ (((s 75 9) ≤ v3 → G LY X 106 [rv 75, iv v1, iv (v2 + 1), none] [] s) ∧ (v3 < (s 75 9) → ((0 ≤ v2 ∧ v2 < 8) ∧ (((xand (xshr (s 113 v2) v3) 1) ≠ 1 → G LY X 116 [rv 75, iv v1, iv v2, iv (v3 + 1)] [] s) ∧ ((xand (xshr (s 113 v2) v3) 1) = 1 → ((0 ≤ v2 ∧ v2 < 8) ∧ ((0 ≤ v3 ∧ v3 < 8) ∧ ((0 ≤ v2 ∧ v2 < 8) ∧ (∀ s1 : Sto, s1 = up s 113 v2 (xor_ (s 113 v2) (s 113 v3)) → G LY X 116 [rv 75, iv v1, iv v2, iv (v3 + 1)] [] s1))))))))))) : G LY X 116 [rv 75, iv v1, iv v2, iv v3] [] s := by
  refine G_iload_n C dX12_circle_116 rfl ?_
  refine G_aload_n C dX12_circle_117 rfl ?_
  refine gI_X12_9 C ly_75 rfl wf_X12_25 dX12_circle_118 ?_
  refine G_icmp_ge (tgt := 163) C dX12_circle_121 (by decide) ⟨h.1.1, h.1.2⟩ (fun q => ?_) (fun q => ?_)
  · have h := h.2.1 q
    refine G_iinc (L' := [rv 75, iv v1, iv (v2 + 1), iv v3]) C dX12_circle_163 (by decide) rfl rfl ?_
    refine G_goto (tgt := 106) C dX12_circle_166 (by decide) ?_
    refine G_drop (i := 3) (L' := [rv 75, iv v1, iv (v2 + 1), none]) rfl ?_
    exact h
  · have h := h.2.2 q
    refine G_aload_n C dX12_circle_124 rfl ?_
    refine gR_X12_63 C ly_75 rfl wf_X12_128 dX12_circle_125 ?_
    refine G_iload_n C dX12_circle_128 rfl ?_
    refine G_iald C ly_113 (by decide) h.1 dX12_circle_129 ?_
    have h := h.2
    refine G_iload_n C dX12_circle_130 rfl ?_
    refine G_ishr C dX12_circle_131 ?_
    refine G_iconst C dX12_circle_132 ?_
    refine G_iand C dX12_circle_133 ?_
    refine G_iconst C dX12_circle_134 ?_
    refine G_icmp_ne (tgt := 157) C dX12_circle_135 (by decide) ⟨(oI_rg _), (by decide)⟩ (fun q => ?_) (fun q => ?_)
    · have h := h.1 q
      refine G_iinc (L' := [rv 75, iv v1, iv v2, iv (v3 + 1)]) C dX12_circle_157 (by decide) rfl rfl ?_
      refine G_goto (tgt := 116) C dX12_circle_160 (by decide) ?_
      exact h
    · have h := h.2 q
      refine G_aload_n C dX12_circle_138 rfl ?_
      refine gR_X12_63 C ly_75 rfl wf_X12_128 dX12_circle_139 ?_
      refine G_iload_n C dX12_circle_142 rfl ?_
      refine G_aload_n C dX12_circle_143 rfl ?_
      refine gR_X12_63 C ly_75 rfl wf_X12_128 dX12_circle_144 ?_
      refine G_iload_n C dX12_circle_147 rfl ?_
      refine G_iald C ly_113 (by decide) h.1 dX12_circle_148 ?_
      have h := h.2
      refine G_aload_n C dX12_circle_149 rfl ?_
      refine gR_X12_63 C ly_75 rfl wf_X12_128 dX12_circle_150 ?_
      refine G_iload_n C dX12_circle_153 rfl ?_
      refine G_iald C ly_113 (by decide) h.1 dX12_circle_154 ?_
      have h := h.2
      refine G_ior C dX12_circle_155 ?_
      refine G_iast C ly_113 (by decide) h.1 dX12_circle_156 ?_
      have h := h.2
      have h := h _ rfl
      obtain ⟨s1, e1⟩ : ∃ z, z = up s 113 v2 (xor_ (s 113 v2) (s 113 v3)) := ⟨_, rfl⟩
      rw [← e1] at h ⊢
      refine G_iinc (L' := [rv 75, iv v1, iv v2, iv (v3 + 1)]) C dX12_circle_157 (by decide) rfl rfl ?_
      refine G_goto (tgt := 116) C dX12_circle_160 (by decide) ?_
      exact h
set_option maxRecDepth 20000 in
theorem kb_X12_circle_179 {X : Cx} {d : Nat} {P : Int → Sto → Prop} (C : Ok LY X RX12 cX12_circle 4 d) (r : RetI LY X cX12_circle P) {v1 v2 : Int} {s : Sto} (h : ((rg v2 ∧ rg (s 75 9)) ∧ (((s 75 9) ≤ v2 → P v1 s) ∧ (v2 < (s 75 9) → ((0 ≤ v2 ∧ v2 < 8) ∧ (((xand (xshr (s 113 v2) v2) 1) ≠ 1 → G LY X 179 [rv 75, iv v1, iv (v2 + 1), none] [] s) ∧ ((xand (xshr (s 113 v2) v2) 1) = 1 → G LY X 179 [rv 75, iv (v1 + 1), iv (v2 + 1), none] [] s))))))) : G LY X 179 [rv 75, iv v1, iv v2, none] [] s := by
  refine G_iload_n C dX12_circle_179 rfl ?_
  refine G_aload_n C dX12_circle_180 rfl ?_
  refine gI_X12_9 C ly_75 rfl wf_X12_25 dX12_circle_181 ?_
  refine G_icmp_ge (tgt := 211) C dX12_circle_184 (by decide) ⟨h.1.1, h.1.2⟩ (fun q => ?_) (fun q => ?_)
  · have h := h.2.1 q
    refine G_iload_n C dX12_circle_211 rfl ?_
    exact r _ _ _ _ dX12_circle_212 h
  · have h := h.2.2 q
    refine G_aload_n C dX12_circle_187 rfl ?_
    refine gR_X12_63 C ly_75 rfl wf_X12_128 dX12_circle_188 ?_
    refine G_iload_n C dX12_circle_191 rfl ?_
    refine G_iald C ly_113 (by decide) h.1 dX12_circle_192 ?_
    have h := h.2
    refine G_iload_n C dX12_circle_193 rfl ?_
    refine G_ishr C dX12_circle_194 ?_
    refine G_iconst C dX12_circle_195 ?_
    refine G_iand C dX12_circle_196 ?_
    refine G_iconst C dX12_circle_197 ?_
    refine G_icmp_ne (tgt := 205) C dX12_circle_198 (by decide) ⟨(oI_rg _), (by decide)⟩ (fun q => ?_) (fun q => ?_)
    · have h := h.1 q
      refine G_iinc (L' := [rv 75, iv v1, iv (v2 + 1), none]) C dX12_circle_205 (by decide) rfl rfl ?_
      refine G_goto (tgt := 179) C dX12_circle_208 (by decide) ?_
      exact h
    · have h := h.2 q
      refine G_iload_n C dX12_circle_201 rfl ?_
      refine G_iconst C dX12_circle_202 ?_
      refine G_iadd C dX12_circle_203 ?_
      refine G_istore_n (L' := [rv 75, iv (v1 + 1), iv v2, none]) C dX12_circle_204 (by decide) rfl ?_
      refine G_iinc (L' := [rv 75, iv (v1 + 1), iv (v2 + 1), none]) C dX12_circle_205 (by decide) rfl rfl ?_
      refine G_goto (tgt := 179) C dX12_circle_208 (by decide) ?_
      exact h
set_option maxRecDepth 20000 in
theorem kb_X12_buy_0 {X : Cx} {d : Nat} {P : Int → Sto → Prop} (C : Ok LY X RX12 cX12_buy 10 d) (r : RetI LY X cX12_buy P) {v1 v2 v3 v4 : Int} {s : Sto} (h : (∀ s1 : Sto, s1 = up s 75 0 0 → (CallI LY d MX12_isLetterOf [.inr 75, .inl v1] s1 (fun r2 s2 => ((rg r2) ∧ ((r2 = 0 → P (-1) s2) ∧ (r2 ≠ 0 → (CallI LY d MX12_isLetterOf [.inr 75, .inl v2] s2 (fun r3 s3 => ((rg r3) ∧ ((r3 = 0 → P (-1) s3) ∧ (r3 ≠ 0 → ((rg v1 ∧ rg v2) ∧ ((v1 = v2 → P (-1) s3) ∧ (v1 ≠ v2 → (CallI LY d MX12_isIn [.inr 75, .inl v3, .inl 0, .inl 2] s3 (fun r4 s4 => ((rg r4) ∧ ((r4 = 0 → P (-1) s4) ∧ (r4 ≠ 0 → (CallI LY d MX12_isIn [.inr 75, .inl v4, .inl 0, .inl 1] s4 (fun r5 s5 => ((rg r5) ∧ ((r5 ≠ 0 → (∀ s6 : Sto, s6 = up s5 75 59 v1 → G LY X 63 [rv 75, iv v1, iv v2, iv v3, iv v4, iv (-1), iv 0, iv 0, none, none] [] s6)) ∧ (r5 = 0 → P (-1) s5))))))))))))))))))))))))) : G LY X 0 [rv 75, iv v1, iv v2, iv v3, iv v4, none, none, none, none, none] [] s := by
  refine G_aload_n C dX12_buy_0 rfl ?_
  refine G_iconst C dX12_buy_1 ?_
  refine gP_X12_0 C ly_75 rfl wf_X12_146 dX12_buy_2 ?_
  have h := h _ rfl
  obtain ⟨s1, e1⟩ : ∃ z, z = up s 75 0 0 := ⟨_, rfl⟩
  rw [← e1] at h ⊢
  refine G_aload_n C dX12_buy_5 rfl ?_
  refine G_iload_n C dX12_buy_6 rfl ?_
  refine G_callVI (K := []) (args := [.inl v1]) (T := TX12) (N := 72) C ly_75 rfl (Nat.le_of_ble_eq_true rfl) mo_X12_isLetterOf wc_X12_406 rfl dX12_buy_7 h (fun r2 s2 h => ?_)
  refine G_if_eq (tgt := 47) C dX12_buy_10 (by decide) h.1 (fun q => ?_) (fun q => ?_)
  · have h := h.2.1 q
    refine G_iconst C dX12_buy_47 ?_
    exact r _ _ _ _ dX12_buy_48 h
  · have h := h.2.2 q
    refine G_aload_n C dX12_buy_13 rfl ?_
    refine G_iload_n C dX12_buy_14 rfl ?_
    refine G_callVI (K := []) (args := [.inl v2]) (T := TX12) (N := 72) C ly_75 rfl (Nat.le_of_ble_eq_true rfl) mo_X12_isLetterOf wc_X12_406 rfl dX12_buy_15 h (fun r3 s3 h => ?_)
    refine G_if_eq (tgt := 47) C dX12_buy_18 (by decide) h.1 (fun q => ?_) (fun q => ?_)
    · have h := h.2.1 q
      refine G_iconst C dX12_buy_47 ?_
      exact r _ _ _ _ dX12_buy_48 h
    · have h := h.2.2 q
      refine G_iload_n C dX12_buy_21 rfl ?_
      refine G_iload_n C dX12_buy_22 rfl ?_
      refine G_icmp_eq (tgt := 47) C dX12_buy_23 (by decide) ⟨h.1.1, h.1.2⟩ (fun q => ?_) (fun q => ?_)
      · have h := h.2.1 q
        refine G_iconst C dX12_buy_47 ?_
        exact r _ _ _ _ dX12_buy_48 h
      · have h := h.2.2 q
        refine G_aload_n C dX12_buy_26 rfl ?_
        refine G_iload_n C dX12_buy_27 rfl ?_
        refine G_iconst C dX12_buy_28 ?_
        refine G_iconst C dX12_buy_29 ?_
        refine G_callVI (K := []) (args := [.inl v3, .inl 0, .inl 2]) (T := TX12) (N := 72) C ly_75 rfl (Nat.le_of_ble_eq_true rfl) mo_X12_isIn wc_X12_160 rfl dX12_buy_30 h (fun r4 s4 h => ?_)
        refine G_if_eq (tgt := 47) C dX12_buy_33 (by decide) h.1 (fun q => ?_) (fun q => ?_)
        · have h := h.2.1 q
          refine G_iconst C dX12_buy_47 ?_
          exact r _ _ _ _ dX12_buy_48 h
        · have h := h.2.2 q
          refine G_aload_n C dX12_buy_36 rfl ?_
          refine G_iload C dX12_buy_37 rfl ?_
          refine G_iconst C dX12_buy_39 ?_
          refine G_iconst C dX12_buy_40 ?_
          refine G_callVI (K := []) (args := [.inl v4, .inl 0, .inl 1]) (T := TX12) (N := 72) C ly_75 rfl (Nat.le_of_ble_eq_true rfl) mo_X12_isIn wc_X12_160 rfl dX12_buy_41 h (fun r5 s5 h => ?_)
          refine G_if_ne (tgt := 49) C dX12_buy_44 (by decide) h.1 (fun q => ?_) (fun q => ?_)
          · have h := h.2.1 q
            refine G_iconst C dX12_buy_49 ?_
            refine G_istore (L' := [rv 75, iv v1, iv v2, iv v3, iv v4, iv (-1), none, none, none, none]) C dX12_buy_50 (by decide) rfl ?_
            refine G_iconst C dX12_buy_52 ?_
            refine G_istore (L' := [rv 75, iv v1, iv v2, iv v3, iv v4, iv (-1), iv 0, none, none, none]) C dX12_buy_53 (by decide) rfl ?_
            refine G_aload_n C dX12_buy_55 rfl ?_
            refine G_iload_n C dX12_buy_56 rfl ?_
            refine gP_X12_59 C ly_75 rfl wf_X12_385 dX12_buy_57 ?_
            have h := h _ rfl
            obtain ⟨s6, e6⟩ : ∃ z, z = up s5 75 59 v1 := ⟨_, rfl⟩
            rw [← e6] at h ⊢
            refine G_iconst C dX12_buy_60 ?_
            refine G_istore (L' := [rv 75, iv v1, iv v2, iv v3, iv v4, iv (-1), iv 0, iv 0, none, none]) C dX12_buy_61 (by decide) rfl ?_
            exact h
          · have h := h.2.2 q
            refine G_iconst C dX12_buy_47 ?_
            exact r _ _ _ _ dX12_buy_48 h
set_option maxRecDepth 20000 in
theorem kb_X12_buy_63 {X : Cx} {d : Nat} {P : Int → Sto → Prop} (C : Ok LY X RX12 cX12_buy 10 d) (r : RetI LY X cX12_buy P) {v1 v2 v3 v4 v5 v6 v7 : Int} {s : Sto} (h : ((rg v7) ∧ (((xshl 1 (s 75 18)) ≤ v7 → (∀ s1 : Sto, s1 = up s 75 58 0 → ((rg v5) ∧ ((v5 = (-1) → P v5 s1) ∧ (v5 ≠ (-1) → ((rg v4) ∧ ((v4 ≠ 0 → P v6 s1) ∧ (v4 = 0 → P v5 s1)))))))) ∧ (v7 < (xshl 1 (s 75 18)) → G LY X 80 [rv 75, iv v1, iv v2, iv v3, iv v4, iv v5, iv v6, iv v7, iv 0, iv 0] [] s)))) : G LY X 63 [rv 75, iv v1, iv v2, iv v3, iv v4, iv v5, iv v6, iv v7, none, none] [] s := by
  refine G_iload C dX12_buy_63 rfl ?_
  refine G_iconst C dX12_buy_65 ?_
  refine G_aload_n C dX12_buy_66 rfl ?_
  refine gI_X12_18 C ly_75 rfl wf_X12_174 dX12_buy_67 ?_
  refine G_ishl C dX12_buy_70 ?_
  refine G_icmp_ge (tgt := 189) C dX12_buy_71 (by decide) ⟨h.1, (oI_rg _)⟩ (fun q => ?_) (fun q => ?_)
  · have h := h.2.1 q
    refine G_aload_n C dX12_buy_189 rfl ?_
    refine G_iconst C dX12_buy_190 ?_
    refine gP_X12_58 C ly_75 rfl wf_X12_382 dX12_buy_191 ?_
    have h := h _ rfl
    obtain ⟨s1, e1⟩ : ∃ z, z = up s 75 58 0 := ⟨_, rfl⟩
    rw [← e1] at h ⊢
    refine G_iload C dX12_buy_194 rfl ?_
    refine G_iconst C dX12_buy_196 ?_
    refine G_icmp_eq (tgt := 205) C dX12_buy_197 (by decide) ⟨h.1, (by decide)⟩ (fun q => ?_) (fun q => ?_)
    · have h := h.2.1 q
      refine G_iload C dX12_buy_205 rfl ?_
      refine G_goto (tgt := 212) C dX12_buy_207 (by decide) ?_
      exact r _ _ _ _ dX12_buy_212 h
    · have h := h.2.2 q
      refine G_iload C dX12_buy_200 rfl ?_
      refine G_if_ne (tgt := 210) C dX12_buy_202 (by decide) h.1 (fun q => ?_) (fun q => ?_)
      · have h := h.2.1 q
        refine G_iload C dX12_buy_210 rfl ?_
        exact r _ _ _ _ dX12_buy_212 h
      · have h := h.2.2 q
        refine G_iload C dX12_buy_205 rfl ?_
        refine G_goto (tgt := 212) C dX12_buy_207 (by decide) ?_
        exact r _ _ _ _ dX12_buy_212 h
  · have h := h.2.2 q
    refine G_iconst C dX12_buy_74 ?_
    refine G_istore (L' := [rv 75, iv v1, iv v2, iv v3, iv v4, iv v5, iv v6, iv v7, iv 0, none]) C dX12_buy_75 (by decide) rfl ?_
    refine G_iconst C dX12_buy_77 ?_
    refine G_istore (L' := [rv 75, iv v1, iv v2, iv v3, iv v4, iv v5, iv v6, iv v7, iv 0, iv 0]) C dX12_buy_78 (by decide) rfl ?_
    exact h
set_option maxRecDepth 20000 in
theorem kb_X12_buy_80 {X : Cx} {d : Nat} {P : Int → Sto → Prop} (C : Ok LY X RX12 cX12_buy 10 d) (r : RetI LY X cX12_buy P) {v1 v2 v3 v4 v5 v6 v7 v8 v9 : Int} {s : Sto} (h : ((rg v9 ∧ rg (s 75 18)) ∧ (((s 75 18) ≤ v9 → ((rg v5) ∧ ((v5 = (-1) → (∀ s1 : Sto, s1 = up s 75 58 v7 → (CallI LY d MX12_bringsAhead [.inr 75, .inl v1, .inl v2, .inl v3] s1 (fun r2 s2 => ((rg r2) ∧ ((r2 ≠ 0 → G LY X 63 [rv 75, iv v1, iv v2, iv v3, iv v4, iv v7, iv v8, iv (v7 + 1), none, none] [] s2) ∧ (r2 = 0 → G LY X 63 [rv 75, iv v1, iv v2, iv v3, iv v4, iv v5, iv v6, iv (v7 + 1), none, none] [] s2))))))) ∧ (v5 ≠ (-1) → ((rg v8 ∧ rg v6) ∧ ((v6 < v8 → G LY X 63 [rv 75, iv v1, iv v2, iv v3, iv v4, iv v5, iv v6, iv (v7 + 1), none, none] [] s) ∧ (v8 ≤ v6 → ((rg v8 ∧ rg v6) ∧ ((v8 ≠ v6 → (∀ s3 : Sto, s3 = up s 75 58 v7 → (CallI LY d MX12_bringsAhead [.inr 75, .inl v1, .inl v2, .inl v3] s3 (fun r4 s4 => ((rg r4) ∧ ((r4 ≠ 0 → G LY X 63 [rv 75, iv v1, iv v2, iv v3, iv v4, iv v7, iv v8, iv (v7 + 1), none, none] [] s4) ∧ (r4 = 0 → G LY X 63 [rv 75, iv v1, iv v2, iv v3, iv v4, iv v5, iv v6, iv (v7 + 1), none, none] [] s4))))))) ∧ (v8 = v6 → (CallI LY d MX12_ones [.inr 75, .inl v7] s (fun r5 s5 => (CallI LY d MX12_ones [.inr 75, .inl v5] s5 (fun r6 s6 => ((rg r5 ∧ rg r6) ∧ ((r5 < r6 → (∀ s7 : Sto, s7 = up s6 75 58 v7 → (CallI LY d MX12_bringsAhead [.inr 75, .inl v1, .inl v2, .inl v3] s7 (fun r8 s8 => ((rg r8) ∧ ((r8 ≠ 0 → G LY X 63 [rv 75, iv v1, iv v2, iv v3, iv v4, iv v7, iv v8, iv (v7 + 1), none, none] [] s8) ∧ (r8 = 0 → G LY X 63 [rv 75, iv v1, iv v2, iv v3, iv v4, iv v5, iv v6, iv (v7 + 1), none, none] [] s8))))))) ∧ (r6 ≤ r5 → G LY X 63 [rv 75, iv v1, iv v2, iv v3, iv v4, iv v5, iv v6, iv (v7 + 1), none, none] [] s6))))))))))))))))) ∧ (v9 < (s 75 18) → (((xand (xshr v7 v9) 1) ≠ 1 → G LY X 80 [rv 75, iv v1, iv v2, iv v3, iv v4, iv v5, iv v6, iv v7, iv v8, iv (v9 + 1)] [] s) ∧ ((xand (xshr v7 v9) 1) = 1 → ((0 ≤ v9 ∧ v9 < 12) ∧ G LY X 80 [rv 75, iv v1, iv v2, iv v3, iv v4, iv v5, iv v6, iv v7, iv (v8 + (s 90 v9)), iv (v9 + 1)] [] s))))))) : G LY X 80 [rv 75, iv v1, iv v2, iv v3, iv v4, iv v5, iv v6, iv v7, iv v8, iv v9] [] s := by
  refine G_iload C dX12_buy_80 rfl ?_
  refine G_aload_n C dX12_buy_82 rfl ?_
  refine gI_X12_18 C ly_75 rfl wf_X12_174 dX12_buy_83 ?_
  refine G_icmp_ge (tgt := 118) C dX12_buy_86 (by decide) ⟨h.1.1, h.1.2⟩ (fun q => ?_) (fun q => ?_)
  · have h := h.2.1 q
    refine G_iload C dX12_buy_118 rfl ?_
    refine G_iconst C dX12_buy_120 ?_
    refine G_icmp_eq (tgt := 156) C dX12_buy_121 (by decide) ⟨h.1, (by decide)⟩ (fun q => ?_) (fun q => ?_)
    · have h := h.2.1 q
      refine G_aload_n C dX12_buy_156 rfl ?_
      refine G_iload C dX12_buy_157 rfl ?_
      refine gP_X12_58 C ly_75 rfl wf_X12_382 dX12_buy_159 ?_
      have h := h _ rfl
      obtain ⟨s1, e1⟩ : ∃ z, z = up s 75 58 v7 := ⟨_, rfl⟩
      rw [← e1] at h ⊢
      refine G_aload_n C dX12_buy_162 rfl ?_
      refine G_iload_n C dX12_buy_163 rfl ?_
      refine G_iload_n C dX12_buy_164 rfl ?_
      refine G_iload_n C dX12_buy_165 rfl ?_
      refine G_callVI (K := []) (args := [.inl v1, .inl v2, .inl v3]) (T := TX12) (N := 72) C ly_75 rfl (Nat.le_of_ble_eq_true rfl) mo_X12_bringsAhead wc_X12_415 rfl dX12_buy_166 h (fun r2 s2 h => ?_)
      refine G_if_ne (tgt := 175) C dX12_buy_169 (by decide) h.1 (fun q => ?_) (fun q => ?_)
      · have h := h.2.1 q
        refine G_iload C dX12_buy_175 rfl ?_
        refine G_istore (L' := [rv 75, iv v1, iv v2, iv v3, iv v4, iv v7, iv v6, iv v7, iv v8, iv v9]) C dX12_buy_177 (by decide) rfl ?_
        refine G_iload C dX12_buy_179 rfl ?_
        refine G_istore (L' := [rv 75, iv v1, iv v2, iv v3, iv v4, iv v7, iv v8, iv v7, iv v8, iv v9]) C dX12_buy_181 (by decide) rfl ?_
        refine G_iinc (L' := [rv 75, iv v1, iv v2, iv v3, iv v4, iv v7, iv v8, iv (v7 + 1), iv v8, iv v9]) C dX12_buy_183 (by decide) rfl rfl ?_
        refine G_goto (tgt := 63) C dX12_buy_186 (by decide) ?_
        refine G_drop (i := 8) (L' := [rv 75, iv v1, iv v2, iv v3, iv v4, iv v7, iv v8, iv (v7 + 1), none, iv v9]) rfl ?_
        refine G_drop (i := 9) (L' := [rv 75, iv v1, iv v2, iv v3, iv v4, iv v7, iv v8, iv (v7 + 1), none, none]) rfl ?_
        exact h
      · have h := h.2.2 q
        refine G_goto (tgt := 183) C dX12_buy_172 (by decide) ?_
        refine G_iinc (L' := [rv 75, iv v1, iv v2, iv v3, iv v4, iv v5, iv v6, iv (v7 + 1), iv v8, iv v9]) C dX12_buy_183 (by decide) rfl rfl ?_
        refine G_goto (tgt := 63) C dX12_buy_186 (by decide) ?_
        refine G_drop (i := 8) (L' := [rv 75, iv v1, iv v2, iv v3, iv v4, iv v5, iv v6, iv (v7 + 1), none, iv v9]) rfl ?_
        refine G_drop (i := 9) (L' := [rv 75, iv v1, iv v2, iv v3, iv v4, iv v5, iv v6, iv (v7 + 1), none, none]) rfl ?_
        exact h
    · have h := h.2.2 q
      refine G_iload C dX12_buy_124 rfl ?_
      refine G_iload C dX12_buy_126 rfl ?_
      refine G_icmp_gt (tgt := 183) C dX12_buy_128 (by decide) ⟨h.1.1, h.1.2⟩ (fun q => ?_) (fun q => ?_)
      · have h := h.2.1 q
        refine G_iinc (L' := [rv 75, iv v1, iv v2, iv v3, iv v4, iv v5, iv v6, iv (v7 + 1), iv v8, iv v9]) C dX12_buy_183 (by decide) rfl rfl ?_
        refine G_goto (tgt := 63) C dX12_buy_186 (by decide) ?_
        refine G_drop (i := 8) (L' := [rv 75, iv v1, iv v2, iv v3, iv v4, iv v5, iv v6, iv (v7 + 1), none, iv v9]) rfl ?_
        refine G_drop (i := 9) (L' := [rv 75, iv v1, iv v2, iv v3, iv v4, iv v5, iv v6, iv (v7 + 1), none, none]) rfl ?_
        exact h
      · have h := h.2.2 q
        refine G_iload C dX12_buy_131 rfl ?_
        refine G_iload C dX12_buy_133 rfl ?_
        refine G_icmp_ne (tgt := 156) C dX12_buy_135 (by decide) ⟨h.1.1, h.1.2⟩ (fun q => ?_) (fun q => ?_)
        · have h := h.2.1 q
          refine G_aload_n C dX12_buy_156 rfl ?_
          refine G_iload C dX12_buy_157 rfl ?_
          refine gP_X12_58 C ly_75 rfl wf_X12_382 dX12_buy_159 ?_
          have h := h _ rfl
          obtain ⟨s3, e3⟩ : ∃ z, z = up s 75 58 v7 := ⟨_, rfl⟩
          rw [← e3] at h ⊢
          refine G_aload_n C dX12_buy_162 rfl ?_
          refine G_iload_n C dX12_buy_163 rfl ?_
          refine G_iload_n C dX12_buy_164 rfl ?_
          refine G_iload_n C dX12_buy_165 rfl ?_
          refine G_callVI (K := []) (args := [.inl v1, .inl v2, .inl v3]) (T := TX12) (N := 72) C ly_75 rfl (Nat.le_of_ble_eq_true rfl) mo_X12_bringsAhead wc_X12_415 rfl dX12_buy_166 h (fun r4 s4 h => ?_)
          refine G_if_ne (tgt := 175) C dX12_buy_169 (by decide) h.1 (fun q => ?_) (fun q => ?_)
          · have h := h.2.1 q
            refine G_iload C dX12_buy_175 rfl ?_
            refine G_istore (L' := [rv 75, iv v1, iv v2, iv v3, iv v4, iv v7, iv v6, iv v7, iv v8, iv v9]) C dX12_buy_177 (by decide) rfl ?_
            refine G_iload C dX12_buy_179 rfl ?_
            refine G_istore (L' := [rv 75, iv v1, iv v2, iv v3, iv v4, iv v7, iv v8, iv v7, iv v8, iv v9]) C dX12_buy_181 (by decide) rfl ?_
            refine G_iinc (L' := [rv 75, iv v1, iv v2, iv v3, iv v4, iv v7, iv v8, iv (v7 + 1), iv v8, iv v9]) C dX12_buy_183 (by decide) rfl rfl ?_
            refine G_goto (tgt := 63) C dX12_buy_186 (by decide) ?_
            refine G_drop (i := 8) (L' := [rv 75, iv v1, iv v2, iv v3, iv v4, iv v7, iv v8, iv (v7 + 1), none, iv v9]) rfl ?_
            refine G_drop (i := 9) (L' := [rv 75, iv v1, iv v2, iv v3, iv v4, iv v7, iv v8, iv (v7 + 1), none, none]) rfl ?_
            exact h
          · have h := h.2.2 q
            refine G_goto (tgt := 183) C dX12_buy_172 (by decide) ?_
            refine G_iinc (L' := [rv 75, iv v1, iv v2, iv v3, iv v4, iv v5, iv v6, iv (v7 + 1), iv v8, iv v9]) C dX12_buy_183 (by decide) rfl rfl ?_
            refine G_goto (tgt := 63) C dX12_buy_186 (by decide) ?_
            refine G_drop (i := 8) (L' := [rv 75, iv v1, iv v2, iv v3, iv v4, iv v5, iv v6, iv (v7 + 1), none, iv v9]) rfl ?_
            refine G_drop (i := 9) (L' := [rv 75, iv v1, iv v2, iv v3, iv v4, iv v5, iv v6, iv (v7 + 1), none, none]) rfl ?_
            exact h
        · have h := h.2.2 q
          refine G_aload_n C dX12_buy_138 rfl ?_
          refine G_iload C dX12_buy_139 rfl ?_
          refine G_callVI (K := []) (args := [.inl v7]) (T := TX12) (N := 72) C ly_75 rfl (Nat.le_of_ble_eq_true rfl) mo_X12_ones wc_X12_412 rfl dX12_buy_141 h (fun r5 s5 h => ?_)
          refine G_aload_n C dX12_buy_144 rfl ?_
          refine G_iload C dX12_buy_145 rfl ?_
          refine G_callVI (K := [.inl r5]) (args := [.inl v5]) (T := TX12) (N := 72) C ly_75 rfl (Nat.le_of_ble_eq_true rfl) mo_X12_ones wc_X12_412 rfl dX12_buy_147 h (fun r6 s6 h => ?_)
          refine G_icmp_lt (tgt := 156) C dX12_buy_150 (by decide) ⟨h.1.1, h.1.2⟩ (fun q => ?_) (fun q => ?_)
          · have h := h.2.1 q
            refine G_aload_n C dX12_buy_156 rfl ?_
            refine G_iload C dX12_buy_157 rfl ?_
            refine gP_X12_58 C ly_75 rfl wf_X12_382 dX12_buy_159 ?_
            have h := h _ rfl
            obtain ⟨s7, e7⟩ : ∃ z, z = up s6 75 58 v7 := ⟨_, rfl⟩
            rw [← e7] at h ⊢
            refine G_aload_n C dX12_buy_162 rfl ?_
            refine G_iload_n C dX12_buy_163 rfl ?_
            refine G_iload_n C dX12_buy_164 rfl ?_
            refine G_iload_n C dX12_buy_165 rfl ?_
            refine G_callVI (K := []) (args := [.inl v1, .inl v2, .inl v3]) (T := TX12) (N := 72) C ly_75 rfl (Nat.le_of_ble_eq_true rfl) mo_X12_bringsAhead wc_X12_415 rfl dX12_buy_166 h (fun r8 s8 h => ?_)
            refine G_if_ne (tgt := 175) C dX12_buy_169 (by decide) h.1 (fun q => ?_) (fun q => ?_)
            · have h := h.2.1 q
              refine G_iload C dX12_buy_175 rfl ?_
              refine G_istore (L' := [rv 75, iv v1, iv v2, iv v3, iv v4, iv v7, iv v6, iv v7, iv v8, iv v9]) C dX12_buy_177 (by decide) rfl ?_
              refine G_iload C dX12_buy_179 rfl ?_
              refine G_istore (L' := [rv 75, iv v1, iv v2, iv v3, iv v4, iv v7, iv v8, iv v7, iv v8, iv v9]) C dX12_buy_181 (by decide) rfl ?_
              refine G_iinc (L' := [rv 75, iv v1, iv v2, iv v3, iv v4, iv v7, iv v8, iv (v7 + 1), iv v8, iv v9]) C dX12_buy_183 (by decide) rfl rfl ?_
              refine G_goto (tgt := 63) C dX12_buy_186 (by decide) ?_
              refine G_drop (i := 8) (L' := [rv 75, iv v1, iv v2, iv v3, iv v4, iv v7, iv v8, iv (v7 + 1), none, iv v9]) rfl ?_
              refine G_drop (i := 9) (L' := [rv 75, iv v1, iv v2, iv v3, iv v4, iv v7, iv v8, iv (v7 + 1), none, none]) rfl ?_
              exact h
            · have h := h.2.2 q
              refine G_goto (tgt := 183) C dX12_buy_172 (by decide) ?_
              refine G_iinc (L' := [rv 75, iv v1, iv v2, iv v3, iv v4, iv v5, iv v6, iv (v7 + 1), iv v8, iv v9]) C dX12_buy_183 (by decide) rfl rfl ?_
              refine G_goto (tgt := 63) C dX12_buy_186 (by decide) ?_
              refine G_drop (i := 8) (L' := [rv 75, iv v1, iv v2, iv v3, iv v4, iv v5, iv v6, iv (v7 + 1), none, iv v9]) rfl ?_
              refine G_drop (i := 9) (L' := [rv 75, iv v1, iv v2, iv v3, iv v4, iv v5, iv v6, iv (v7 + 1), none, none]) rfl ?_
              exact h
          · have h := h.2.2 q
            refine G_goto (tgt := 183) C dX12_buy_153 (by decide) ?_
            refine G_iinc (L' := [rv 75, iv v1, iv v2, iv v3, iv v4, iv v5, iv v6, iv (v7 + 1), iv v8, iv v9]) C dX12_buy_183 (by decide) rfl rfl ?_
            refine G_goto (tgt := 63) C dX12_buy_186 (by decide) ?_
            refine G_drop (i := 8) (L' := [rv 75, iv v1, iv v2, iv v3, iv v4, iv v5, iv v6, iv (v7 + 1), none, iv v9]) rfl ?_
            refine G_drop (i := 9) (L' := [rv 75, iv v1, iv v2, iv v3, iv v4, iv v5, iv v6, iv (v7 + 1), none, none]) rfl ?_
            exact h
  · have h := h.2.2 q
    refine G_iload C dX12_buy_89 rfl ?_
    refine G_iload C dX12_buy_91 rfl ?_
    refine G_ishr C dX12_buy_93 ?_
    refine G_iconst C dX12_buy_94 ?_
    refine G_iand C dX12_buy_95 ?_
    refine G_iconst C dX12_buy_96 ?_
    refine G_icmp_ne (tgt := 112) C dX12_buy_97 (by decide) ⟨(oI_rg _), (by decide)⟩ (fun q => ?_) (fun q => ?_)
    · have h := h.1 q
      refine G_iinc (L' := [rv 75, iv v1, iv v2, iv v3, iv v4, iv v5, iv v6, iv v7, iv v8, iv (v9 + 1)]) C dX12_buy_112 (by decide) rfl rfl ?_
      refine G_goto (tgt := 80) C dX12_buy_115 (by decide) ?_
      exact h
    · have h := h.2 q
      refine G_iload C dX12_buy_100 rfl ?_
      refine G_aload_n C dX12_buy_102 rfl ?_
      refine gR_X12_20 C ly_75 rfl wf_X12_56 dX12_buy_103 ?_
      refine G_iload C dX12_buy_106 rfl ?_
      refine G_iald C ly_90 (by decide) h.1 dX12_buy_108 ?_
      have h := h.2
      refine G_iadd C dX12_buy_109 ?_
      refine G_istore (L' := [rv 75, iv v1, iv v2, iv v3, iv v4, iv v5, iv v6, iv v7, iv (v8 + (s 90 v9)), iv v9]) C dX12_buy_110 (by decide) rfl ?_
      refine G_iinc (L' := [rv 75, iv v1, iv v2, iv v3, iv v4, iv v5, iv v6, iv v7, iv (v8 + (s 90 v9)), iv (v9 + 1)]) C dX12_buy_112 (by decide) rfl rfl ?_
      refine G_goto (tgt := 80) C dX12_buy_115 (by decide) ?_
      exact h
set_option maxRecDepth 20000 in
theorem kb_X12_harm_0 {X : Cx} {d : Nat} {P : Int → Sto → Prop} (C : Ok LY X RX12 cX12_harm 1 d) (r : RetI LY X cX12_harm P) {s : Sto} (h : (∀ s1 : Sto, s1 = up s 75 0 0 → (CallI LY d MX12_takesOrder [.inr 75] s1 (fun r2 s2 => ((rg r2) ∧ ((r2 = 0 → P (-1) s2) ∧ (r2 ≠ 0 → (CallI LY d MX12_harmOf [.inr 75, .inl 19] s2 (fun r3 s3 => P r3 s3))))))))) : G LY X 0 [rv 75] [] s := by
  refine G_aload_n C dX12_harm_0 rfl ?_
  refine G_iconst C dX12_harm_1 ?_
  refine gP_X12_0 C ly_75 rfl wf_X12_146 dX12_harm_2 ?_
  have h := h _ rfl
  obtain ⟨s1, e1⟩ : ∃ z, z = up s 75 0 0 := ⟨_, rfl⟩
  rw [← e1] at h ⊢
  refine G_aload_n C dX12_harm_5 rfl ?_
  refine G_callVI (K := []) (args := []) (T := TX12) (N := 72) C ly_75 rfl (Nat.le_of_ble_eq_true rfl) mo_X12_takesOrder wc_X12_195 rfl dX12_harm_6 h (fun r2 s2 h => ?_)
  refine G_if_eq (tgt := 21) C dX12_harm_9 (by decide) h.1 (fun q => ?_) (fun q => ?_)
  · have h := h.2.1 q
    refine G_iconst C dX12_harm_21 ?_
    exact r _ _ _ _ dX12_harm_22 h
  · have h := h.2.2 q
    refine G_aload_n C dX12_harm_12 rfl ?_
    refine G_bipush C dX12_harm_13 bi_19 ?_
    refine G_callVI (K := []) (args := [.inl 19]) (T := TX12) (N := 72) C ly_75 rfl (Nat.le_of_ble_eq_true rfl) mo_X12_harmOf wc_X12_418 rfl dX12_harm_15 h (fun r3 s3 h => ?_)
    refine G_goto (tgt := 22) C dX12_harm_18 (by decide) ?_
    exact r _ _ _ _ dX12_harm_22 h
set_option maxRecDepth 20000 in
theorem kb_X12_least_0 {X : Cx} {d : Nat} {P : Int → Sto → Prop} (C : Ok LY X RX12 cX12_least 5 d) (r : RetI LY X cX12_least P) {v1 : Int} {s : Sto} (h : (∀ s1 : Sto, s1 = up s 75 0 0 → (CallV LY d MX12_begins [.inr 75] s1 (fun s2 => ((rg (s2 75 9)) ∧ ((6 < (s2 75 9) → P (-1) s2) ∧ ((s2 75 9) ≤ 6 → ((rg v1) ∧ ((v1 = 0 → G LY X 43 [rv 75, iv v1, iv 0, none, none] [] s2) ∧ (v1 ≠ 0 → (CallI LY d MX12_isIn [.inr 75, .inl v1, .inl 10, .inl (9 + (s2 75 9))] s2 (fun r3 s3 => ((rg r3) ∧ ((r3 ≠ 0 → G LY X 43 [rv 75, iv v1, iv 0, none, none] [] s3) ∧ (r3 = 0 → P (-1) s3))))))))))))))) : G LY X 0 [rv 75, iv v1, none, none, none] [] s := by
  refine G_aload_n C dX12_least_0 rfl ?_
  refine G_iconst C dX12_least_1 ?_
  refine gP_X12_0 C ly_75 rfl wf_X12_146 dX12_least_2 ?_
  have h := h _ rfl
  obtain ⟨s1, e1⟩ : ∃ z, z = up s 75 0 0 := ⟨_, rfl⟩
  rw [← e1] at h ⊢
  refine G_aload_n C dX12_least_5 rfl ?_
  refine G_callVV (K := []) (args := []) (T := TX12) (N := 72) C ly_75 rfl (Nat.le_of_ble_eq_true rfl) mo_X12_begins wc_X12_168 rfl dX12_least_6 h (fun s2 h => ?_)
  refine G_aload_n C dX12_least_9 rfl ?_
  refine gI_X12_9 C ly_75 rfl wf_X12_25 dX12_least_10 ?_
  refine G_bipush C dX12_least_13 bi_6 ?_
  refine G_icmp_gt (tgt := 39) C dX12_least_15 (by decide) ⟨h.1, (by decide)⟩ (fun q => ?_) (fun q => ?_)
  · have h := h.2.1 q
    refine G_iconst C dX12_least_39 ?_
    exact r _ _ _ _ dX12_least_40 h
  · have h := h.2.2 q
    refine G_iload_n C dX12_least_18 rfl ?_
    refine G_if_eq (tgt := 41) C dX12_least_19 (by decide) h.1 (fun q => ?_) (fun q => ?_)
    · have h := h.2.1 q
      refine G_iconst C dX12_least_41 ?_
      refine G_istore_n (L' := [rv 75, iv v1, iv 0, none, none]) C dX12_least_42 (by decide) rfl ?_
      exact h
    · have h := h.2.2 q
      refine G_aload_n C dX12_least_22 rfl ?_
      refine G_iload_n C dX12_least_23 rfl ?_
      refine G_bipush C dX12_least_24 bi_10 ?_
      refine G_bipush C dX12_least_26 bi_9 ?_
      refine G_aload_n C dX12_least_28 rfl ?_
      refine gI_X12_9 C ly_75 rfl wf_X12_25 dX12_least_29 ?_
      refine G_iadd C dX12_least_32 ?_
      refine G_callVI (K := []) (args := [.inl v1, .inl 10, .inl (9 + (s2 75 9))]) (T := TX12) (N := 72) C ly_75 rfl (Nat.le_of_ble_eq_true rfl) mo_X12_isIn wc_X12_160 rfl dX12_least_33 h (fun r3 s3 h => ?_)
      refine G_if_ne (tgt := 41) C dX12_least_36 (by decide) h.1 (fun q => ?_) (fun q => ?_)
      · have h := h.2.1 q
        refine G_iconst C dX12_least_41 ?_
        refine G_istore_n (L' := [rv 75, iv v1, iv 0, none, none]) C dX12_least_42 (by decide) rfl ?_
        exact h
      · have h := h.2.2 q
        refine G_iconst C dX12_least_39 ?_
        exact r _ _ _ _ dX12_least_40 h
set_option maxRecDepth 20000 in
theorem kb_X12_least_43 {X : Cx} {d : Nat} {P : Int → Sto → Prop} (C : Ok LY X RX12 cX12_least 5 d) (r : RetI LY X cX12_least P) {v1 v2 : Int} {s : Sto} (h : ((rg v2 ∧ rg (s 75 9)) ∧ (((s 75 9) ≤ v2 → G LY X 72 [rv 75, iv v1, iv (-1), iv 1, none] [] s) ∧ (v2 < (s 75 9) → ((0 ≤ (152 + v2) ∧ (152 + v2) < 168) ∧ (∀ s1 : Sto, s1 = up s 81 (152 + v2) v2 → G LY X 43 [rv 75, iv v1, iv (v2 + 1), none, none] [] s1)))))) : G LY X 43 [rv 75, iv v1, iv v2, none, none] [] s := by
  refine G_iload_n C dX12_least_43 rfl ?_
  refine G_aload_n C dX12_least_44 rfl ?_
  refine gI_X12_9 C ly_75 rfl wf_X12_25 dX12_least_45 ?_
  refine G_icmp_ge (tgt := 68) C dX12_least_48 (by decide) ⟨h.1.1, h.1.2⟩ (fun q => ?_) (fun q => ?_)
  · have h := h.2.1 q
    refine G_iconst C dX12_least_68 ?_
    refine G_istore_n (L' := [rv 75, iv v1, iv (-1), none, none]) C dX12_least_69 (by decide) rfl ?_
    refine G_iconst C dX12_least_70 ?_
    refine G_istore_n (L' := [rv 75, iv v1, iv (-1), iv 1, none]) C dX12_least_71 (by decide) rfl ?_
    exact h
  · have h := h.2.2 q
    refine G_aload_n C dX12_least_51 rfl ?_
    refine gR_X12_10 C ly_75 rfl wf_X12_29 dX12_least_52 ?_
    refine G_sipush C dX12_least_55 si_152 ?_
    refine G_iload_n C dX12_least_58 rfl ?_
    refine G_iadd C dX12_least_59 ?_
    refine G_iload_n C dX12_least_60 rfl ?_
    refine G_iast C ly_81 (by decide) h.1 dX12_least_61 ?_
    have h := h.2
    have h := h _ rfl
    obtain ⟨s1, e1⟩ : ∃ z, z = up s 81 (152 + v2) v2 := ⟨_, rfl⟩
    rw [← e1] at h ⊢
    refine G_iinc (L' := [rv 75, iv v1, iv (v2 + 1), none, none]) C dX12_least_62 (by decide) rfl rfl ?_
    refine G_goto (tgt := 43) C dX12_least_65 (by decide) ?_
    exact h
set_option maxRecDepth 20000 in
theorem kb_X12_least_72 {X : Cx} {d : Nat} {P : Int → Sto → Prop} (C : Ok LY X RX12 cX12_least 5 d) (r : RetI LY X cX12_least P) {v1 v2 v3 : Int} {s : Sto} (h : ((rg v3) ∧ ((v3 = 0 → ((rg v1) ∧ ((v1 ≠ 0 → ((0 ≤ ((160 + v1) - 10) ∧ ((160 + v1) - 10) < 168) ∧ P (s 81 ((160 + v1) - 10)) s)) ∧ (v1 = 0 → P v2 s)))) ∧ (v3 ≠ 0 → (CallI LY d MX12_isAlphabet [.inr 75, .inl 19] s (fun r1 s1 => ((rg r1) ∧ ((r1 ≠ 0 → (CallI LY d MX12_nextOrder [.inr 75] s1 (fun r2 s2 => G LY X 72 [rv 75, iv v1, iv v2, iv r2, none] [] s2))) ∧ (r1 = 0 → (CallI LY d MX12_harmOf [.inr 75, .inl 19] s1 (fun r3 s3 => ((rg v2) ∧ ((v2 = (-1) → (CallV LY d MX12_movesOrder [.inr 75, .inl 19, .inl 20] s3 (fun s4 => (CallI LY d MX12_nextOrder [.inr 75] s4 (fun r5 s5 => G LY X 72 [rv 75, iv v1, iv r3, iv r5, none] [] s5))))) ∧ (v2 ≠ (-1) → ((rg r3 ∧ rg v2) ∧ ((v2 ≤ r3 → (CallI LY d MX12_nextOrder [.inr 75] s3 (fun r6 s6 => G LY X 72 [rv 75, iv v1, iv v2, iv r6, none] [] s6))) ∧ (r3 < v2 → (CallV LY d MX12_movesOrder [.inr 75, .inl 19, .inl 20] s3 (fun s7 => (CallI LY d MX12_nextOrder [.inr 75] s7 (fun r8 s8 => G LY X 72 [rv 75, iv v1, iv r3, iv r8, none] [] s8))))))))))))))))))))) : G LY X 72 [rv 75, iv v1, iv v2, iv v3, none] [] s := by
  refine G_iload_n C dX12_least_72 rfl ?_
  refine G_if_eq (tgt := 123) C dX12_least_73 (by decide) h.1 (fun q => ?_) (fun q => ?_)
  · have h := h.2.1 q
    refine G_iload_n C dX12_least_123 rfl ?_
    refine G_if_ne (tgt := 131) C dX12_least_124 (by decide) h.1 (fun q => ?_) (fun q => ?_)
    · have h := h.2.1 q
      refine G_aload_n C dX12_least_131 rfl ?_
      refine gR_X12_10 C ly_75 rfl wf_X12_29 dX12_least_132 ?_
      refine G_sipush C dX12_least_135 si_160 ?_
      refine G_iload_n C dX12_least_138 rfl ?_
      refine G_iadd C dX12_least_139 ?_
      refine G_bipush C dX12_least_140 bi_10 ?_
      refine G_isub C dX12_least_142 ?_
      refine G_iald C ly_81 (by decide) h.1 dX12_least_143 ?_
      have h := h.2
      exact r _ _ _ _ dX12_least_144 h
    · have h := h.2.2 q
      refine G_iload_n C dX12_least_127 rfl ?_
      refine G_goto (tgt := 144) C dX12_least_128 (by decide) ?_
      exact r _ _ _ _ dX12_least_144 h
  · have h := h.2.2 q
    refine G_aload_n C dX12_least_76 rfl ?_
    refine G_bipush C dX12_least_77 bi_19 ?_
    refine G_callVI (K := []) (args := [.inl 19]) (T := TX12) (N := 72) C ly_75 rfl (Nat.le_of_ble_eq_true rfl) mo_X12_isAlphabet wc_X12_421 rfl dX12_least_79 h (fun r1 s1 h => ?_)
    refine G_if_ne (tgt := 115) C dX12_least_82 (by decide) h.1 (fun q => ?_) (fun q => ?_)
    · have h := h.2.1 q
      refine G_aload_n C dX12_least_115 rfl ?_
      refine G_callVI (K := []) (args := []) (T := TX12) (N := 72) C ly_75 rfl (Nat.le_of_ble_eq_true rfl) mo_X12_nextOrder wc_X12_424 rfl dX12_least_116 h (fun r2 s2 h => ?_)
      refine G_istore_n (L' := [rv 75, iv v1, iv v2, iv r2, none]) C dX12_least_119 (by decide) rfl ?_
      refine G_goto (tgt := 72) C dX12_least_120 (by decide) ?_
      exact h
    · have h := h.2.2 q
      refine G_aload_n C dX12_least_85 rfl ?_
      refine G_bipush C dX12_least_86 bi_19 ?_
      refine G_callVI (K := []) (args := [.inl 19]) (T := TX12) (N := 72) C ly_75 rfl (Nat.le_of_ble_eq_true rfl) mo_X12_harmOf wc_X12_418 rfl dX12_least_88 h (fun r3 s3 h => ?_)
      refine G_istore (L' := [rv 75, iv v1, iv v2, iv v3, iv r3]) C dX12_least_91 (by decide) rfl ?_
      refine G_iload_n C dX12_least_93 rfl ?_
      refine G_iconst C dX12_least_94 ?_
      refine G_icmp_eq (tgt := 104) C dX12_least_95 (by decide) ⟨h.1, (by decide)⟩ (fun q => ?_) (fun q => ?_)
      · have h := h.2.1 q
        refine G_iload C dX12_least_104 rfl ?_
        refine G_istore_n (L' := [rv 75, iv v1, iv r3, iv v3, iv r3]) C dX12_least_106 (by decide) rfl ?_
        refine G_aload_n C dX12_least_107 rfl ?_
        refine G_bipush C dX12_least_108 bi_19 ?_
        refine G_bipush C dX12_least_110 bi_20 ?_
        refine G_callVV (K := []) (args := [.inl 19, .inl 20]) (T := TX12) (N := 72) C ly_75 rfl (Nat.le_of_ble_eq_true rfl) mo_X12_movesOrder wc_X12_198 rfl dX12_least_112 h (fun s4 h => ?_)
        refine G_aload_n C dX12_least_115 rfl ?_
        refine G_callVI (K := []) (args := []) (T := TX12) (N := 72) C ly_75 rfl (Nat.le_of_ble_eq_true rfl) mo_X12_nextOrder wc_X12_424 rfl dX12_least_116 h (fun r5 s5 h => ?_)
        refine G_istore_n (L' := [rv 75, iv v1, iv r3, iv r5, iv r3]) C dX12_least_119 (by decide) rfl ?_
        refine G_goto (tgt := 72) C dX12_least_120 (by decide) ?_
        refine G_drop (i := 4) (L' := [rv 75, iv v1, iv r3, iv r5, none]) rfl ?_
        exact h
      · have h := h.2.2 q
        refine G_iload C dX12_least_98 rfl ?_
        refine G_iload_n C dX12_least_100 rfl ?_
        refine G_icmp_ge (tgt := 115) C dX12_least_101 (by decide) ⟨h.1.1, h.1.2⟩ (fun q => ?_) (fun q => ?_)
        · have h := h.2.1 q
          refine G_aload_n C dX12_least_115 rfl ?_
          refine G_callVI (K := []) (args := []) (T := TX12) (N := 72) C ly_75 rfl (Nat.le_of_ble_eq_true rfl) mo_X12_nextOrder wc_X12_424 rfl dX12_least_116 h (fun r6 s6 h => ?_)
          refine G_istore_n (L' := [rv 75, iv v1, iv v2, iv r6, iv r3]) C dX12_least_119 (by decide) rfl ?_
          refine G_goto (tgt := 72) C dX12_least_120 (by decide) ?_
          refine G_drop (i := 4) (L' := [rv 75, iv v1, iv v2, iv r6, none]) rfl ?_
          exact h
        · have h := h.2.2 q
          refine G_iload C dX12_least_104 rfl ?_
          refine G_istore_n (L' := [rv 75, iv v1, iv r3, iv v3, iv r3]) C dX12_least_106 (by decide) rfl ?_
          refine G_aload_n C dX12_least_107 rfl ?_
          refine G_bipush C dX12_least_108 bi_19 ?_
          refine G_bipush C dX12_least_110 bi_20 ?_
          refine G_callVV (K := []) (args := [.inl 19, .inl 20]) (T := TX12) (N := 72) C ly_75 rfl (Nat.le_of_ble_eq_true rfl) mo_X12_movesOrder wc_X12_198 rfl dX12_least_112 h (fun s7 h => ?_)
          refine G_aload_n C dX12_least_115 rfl ?_
          refine G_callVI (K := []) (args := []) (T := TX12) (N := 72) C ly_75 rfl (Nat.le_of_ble_eq_true rfl) mo_X12_nextOrder wc_X12_424 rfl dX12_least_116 h (fun r8 s8 h => ?_)
          refine G_istore_n (L' := [rv 75, iv v1, iv r3, iv r8, iv r3]) C dX12_least_119 (by decide) rfl ?_
          refine G_goto (tgt := 72) C dX12_least_120 (by decide) ?_
          refine G_drop (i := 4) (L' := [rv 75, iv v1, iv r3, iv r8, none]) rfl ?_
          exact h
set_option maxRecDepth 20000 in
theorem kb_X12_anew_0 {X : Cx} {d : Nat} {P : Int → Sto → Prop} (C : Ok LY X RX12 cX12_anew 8 d) (r : RetI LY X cX12_anew P) {v1 : Int} {s : Sto} (h : (∀ s1 : Sto, s1 = up s 75 0 0 → (CallI LY d MX12_takesOrder [.inr 75] s1 (fun r2 s2 => ((rg r2) ∧ ((r2 = 0 → P (-1) s2) ∧ (r2 ≠ 0 → (CallI LY d MX12_isIn [.inr 75, .inl v1, .inl 0, .inl 1] s2 (fun r3 s3 => ((rg r3) ∧ ((r3 ≠ 0 → (CallV LY d MX12_queues [.inr 75, .inl 0] s3 (fun s4 => G LY X 33 [rv 75, iv v1, iv r2, iv 0, none, none, none, none] [] s4))) ∧ (r3 = 0 → P (-1) s3)))))))))))) : G LY X 0 [rv 75, iv v1, none, none, none, none, none, none] [] s := by
  refine G_aload_n C dX12_anew_0 rfl ?_
  refine G_iconst C dX12_anew_1 ?_
  refine gP_X12_0 C ly_75 rfl wf_X12_146 dX12_anew_2 ?_
  have h := h _ rfl
  obtain ⟨s1, e1⟩ : ∃ z, z = up s 75 0 0 := ⟨_, rfl⟩
  rw [← e1] at h ⊢
  refine G_aload_n C dX12_anew_5 rfl ?_
  refine G_callVI (K := []) (args := []) (T := TX12) (N := 72) C ly_75 rfl (Nat.le_of_ble_eq_true rfl) mo_X12_takesOrder wc_X12_195 rfl dX12_anew_6 h (fun r2 s2 h => ?_)
  refine G_istore_n (L' := [rv 75, iv v1, iv r2, none, none, none, none, none]) C dX12_anew_9 (by decide) rfl ?_
  refine G_iload_n C dX12_anew_10 rfl ?_
  refine G_if_eq (tgt := 24) C dX12_anew_11 (by decide) h.1 (fun q => ?_) (fun q => ?_)
  · have h := h.2.1 q
    refine G_iconst C dX12_anew_24 ?_
    exact r _ _ _ _ dX12_anew_25 h
  · have h := h.2.2 q
    refine G_aload_n C dX12_anew_14 rfl ?_
    refine G_iload_n C dX12_anew_15 rfl ?_
    refine G_iconst C dX12_anew_16 ?_
    refine G_iconst C dX12_anew_17 ?_
    refine G_callVI (K := []) (args := [.inl v1, .inl 0, .inl 1]) (T := TX12) (N := 72) C ly_75 rfl (Nat.le_of_ble_eq_true rfl) mo_X12_isIn wc_X12_160 rfl dX12_anew_18 h (fun r3 s3 h => ?_)
    refine G_if_ne (tgt := 26) C dX12_anew_21 (by decide) h.1 (fun q => ?_) (fun q => ?_)
    · have h := h.2.1 q
      refine G_aload_n C dX12_anew_26 rfl ?_
      refine G_iconst C dX12_anew_27 ?_
      refine G_callVV (K := []) (args := [.inl 0]) (T := TX12) (N := 72) C ly_75 rfl (Nat.le_of_ble_eq_true rfl) mo_X12_queues wc_X12_318 rfl dX12_anew_28 h (fun s4 h => ?_)
      refine G_iconst C dX12_anew_31 ?_
      refine G_istore_n (L' := [rv 75, iv v1, iv r2, iv 0, none, none, none, none]) C dX12_anew_32 (by decide) rfl ?_
      exact h
    · have h := h.2.2 q
      refine G_iconst C dX12_anew_24 ?_
      exact r _ _ _ _ dX12_anew_25 h
set_option maxRecDepth 20000 in
theorem kb_X12_anew_33 {X : Cx} {d : Nat} {P : Int → Sto → Prop} (C : Ok LY X RX12 cX12_anew 8 d) (r : RetI LY X cX12_anew P) {v1 v2 v3 : Int} {s : Sto} (h : ((rg v3 ∧ rg (s 75 4)) ∧ (((s 75 4) ≤ v3 → (CallV LY d MX12_queues [.inr 75, .inl 19] s (fun s1 => G LY X 73 [rv 75, iv v1, iv v2, iv 0, iv 0, iv 0, none, none] [] s1))) ∧ (v3 < (s 75 4) → ((0 ≤ v3 ∧ v3 < 20) ∧ ((0 ≤ (s 102 v3) ∧ (s 102 v3) < 20) ∧ (∀ s2 : Sto, s2 = up s 115 (s 102 v3) v3 → G LY X 33 [rv 75, iv v1, iv v2, iv (v3 + 1), none, none, none, none] [] s2))))))) : G LY X 33 [rv 75, iv v1, iv v2, iv v3, none, none, none, none] [] s := by
  refine G_iload_n C dX12_anew_33 rfl ?_
  refine G_aload_n C dX12_anew_34 rfl ?_
  refine gI_X12_4 C ly_75 rfl wf_X12_154 dX12_anew_35 ?_
  refine G_icmp_ge (tgt := 59) C dX12_anew_38 (by decide) ⟨h.1.1, h.1.2⟩ (fun q => ?_) (fun q => ?_)
  · have h := h.2.1 q
    refine G_aload_n C dX12_anew_59 rfl ?_
    refine G_bipush C dX12_anew_60 bi_19 ?_
    refine G_callVV (K := []) (args := [.inl 19]) (T := TX12) (N := 72) C ly_75 rfl (Nat.le_of_ble_eq_true rfl) mo_X12_queues wc_X12_318 rfl dX12_anew_62 h (fun s1 h => ?_)
    refine G_iconst C dX12_anew_65 ?_
    refine G_istore_n (L' := [rv 75, iv v1, iv v2, iv 0, none, none, none, none]) C dX12_anew_66 (by decide) rfl ?_
    refine G_iconst C dX12_anew_67 ?_
    refine G_istore (L' := [rv 75, iv v1, iv v2, iv 0, iv 0, none, none, none]) C dX12_anew_68 (by decide) rfl ?_
    refine G_iconst C dX12_anew_70 ?_
    refine G_istore (L' := [rv 75, iv v1, iv v2, iv 0, iv 0, iv 0, none, none]) C dX12_anew_71 (by decide) rfl ?_
    exact h
  · have h := h.2.2 q
    refine G_aload_n C dX12_anew_41 rfl ?_
    refine gR_X12_65 C ly_75 rfl wf_X12_134 dX12_anew_42 ?_
    refine G_aload_n C dX12_anew_45 rfl ?_
    refine gR_X12_47 C ly_75 rfl wf_X12_95 dX12_anew_46 ?_
    refine G_iload_n C dX12_anew_49 rfl ?_
    refine G_iald C ly_102 (by decide) h.1 dX12_anew_50 ?_
    have h := h.2
    refine G_iload_n C dX12_anew_51 rfl ?_
    refine G_iast C ly_115 (by decide) h.1 dX12_anew_52 ?_
    have h := h.2
    have h := h _ rfl
    obtain ⟨s2, e2⟩ : ∃ z, z = up s 115 (s 102 v3) v3 := ⟨_, rfl⟩
    rw [← e2] at h ⊢
    refine G_iinc (L' := [rv 75, iv v1, iv v2, iv (v3 + 1), none, none, none, none]) C dX12_anew_53 (by decide) rfl rfl ?_
    refine G_goto (tgt := 33) C dX12_anew_56 (by decide) ?_
    exact h
set_option maxRecDepth 20000 in
theorem kb_X12_anew_73 {X : Cx} {d : Nat} {P : Int → Sto → Prop} (C : Ok LY X RX12 cX12_anew 8 d) (r : RetI LY X cX12_anew P) {v1 v2 v3 v4 v5 : Int} {s : Sto} (h : ((rg v5 ∧ rg (s 75 4)) ∧ (((s 75 4) ≤ v5 → ((rg v1) ∧ ((v1 ≠ 0 → P v4 s) ∧ (v1 = 0 → P ((s 75 4) - v3) s)))) ∧ (v5 < (s 75 4) → ((0 ≤ v5 ∧ v5 < 20) ∧ ((0 ≤ v5 ∧ v5 < 20) ∧ (∀ s1 : Sto, s1 = up s 116 v5 1 → ((0 ≤ v5 ∧ v5 < 20) ∧ (∀ s2 : Sto, s2 = up s1 117 v5 0 → G LY X 110 [rv 75, iv v1, iv v2, iv v3, iv v4, iv v5, iv (s 102 v5), iv 0] [] s2))))))))) : G LY X 73 [rv 75, iv v1, iv v2, iv v3, iv v4, iv v5, none, none] [] s := by
  refine G_iload C dX12_anew_73 rfl ?_
  refine G_aload_n C dX12_anew_75 rfl ?_
  refine gI_X12_4 C ly_75 rfl wf_X12_154 dX12_anew_76 ?_
  refine G_icmp_ge (tgt := 315) C dX12_anew_79 (by decide) ⟨h.1.1, h.1.2⟩ (fun q => ?_) (fun q => ?_)
  · have h := h.2.1 q
    refine G_iload_n C dX12_anew_315 rfl ?_
    refine G_if_ne (tgt := 328) C dX12_anew_316 (by decide) h.1 (fun q => ?_) (fun q => ?_)
    · have h := h.2.1 q
      refine G_iload C dX12_anew_328 rfl ?_
      exact r _ _ _ _ dX12_anew_330 h
    · have h := h.2.2 q
      refine G_aload_n C dX12_anew_319 rfl ?_
      refine gI_X12_4 C ly_75 rfl wf_X12_154 dX12_anew_320 ?_
      refine G_iload_n C dX12_anew_323 rfl ?_
      refine G_isub C dX12_anew_324 ?_
      refine G_goto (tgt := 330) C dX12_anew_325 (by decide) ?_
      exact r _ _ _ _ dX12_anew_330 h
  · have h := h.2.2 q
    refine G_aload_n C dX12_anew_82 rfl ?_
    refine gR_X12_47 C ly_75 rfl wf_X12_95 dX12_anew_83 ?_
    refine G_iload C dX12_anew_86 rfl ?_
    refine G_iald C ly_102 (by decide) h.1 dX12_anew_88 ?_
    have h := h.2
    refine G_istore (L' := [rv 75, iv v1, iv v2, iv v3, iv v4, iv v5, iv (s 102 v5), none]) C dX12_anew_89 (by decide) rfl ?_
    refine G_aload_n C dX12_anew_91 rfl ?_
    refine gR_X12_66 C ly_75 rfl wf_X12_137 dX12_anew_92 ?_
    refine G_iload C dX12_anew_95 rfl ?_
    refine G_iconst C dX12_anew_97 ?_
    refine G_iast C ly_116 (by decide) h.1 dX12_anew_98 ?_
    have h := h.2
    have h := h _ rfl
    obtain ⟨s1, e1⟩ : ∃ z, z = up s 116 v5 1 := ⟨_, rfl⟩
    rw [← e1] at h ⊢
    refine G_aload_n C dX12_anew_99 rfl ?_
    refine gR_X12_67 C ly_75 rfl wf_X12_140 dX12_anew_100 ?_
    refine G_iload C dX12_anew_103 rfl ?_
    refine G_iconst C dX12_anew_105 ?_
    refine G_iast C ly_117 (by decide) h.1 dX12_anew_106 ?_
    have h := h.2
    have h := h _ rfl
    obtain ⟨s2, e2⟩ : ∃ z, z = up s1 117 v5 0 := ⟨_, rfl⟩
    rw [← e2] at h ⊢
    refine G_iconst C dX12_anew_107 ?_
    refine G_istore (L' := [rv 75, iv v1, iv v2, iv v3, iv v4, iv v5, iv (s 102 v5), iv 0]) C dX12_anew_108 (by decide) rfl ?_
    exact h
set_option maxRecDepth 20000 in
theorem kb_X12_anew_110 {X : Cx} {d : Nat} {P : Int → Sto → Prop} (C : Ok LY X RX12 cX12_anew 8 d) (r : RetI LY X cX12_anew P) {v1 v2 v3 v4 v5 v6 v7 : Int} {s : Sto} (h : ((rg v7 ∧ rg v5) ∧ ((v5 ≤ v7 → ((0 ≤ v5 ∧ v5 < 20) ∧ ((0 ≤ v5 ∧ v5 < 20) ∧ (∀ s1 : Sto, s1 = up s 117 v5 (xor_ (s 117 v5) (xshl 1 v6)) → ((0 ≤ v5 ∧ v5 < 20) ∧ ((rg (s1 116 v5) ∧ rg v3) ∧ (((s1 116 v5) < v3 → G LY X 73 [rv 75, iv v1, iv v2, iv v3, iv v4, iv (v5 + 1), none, none] [] s1) ∧ (v3 ≤ (s1 116 v5) → ((0 ≤ v5 ∧ v5 < 20) ∧ ((rg (s1 116 v5) ∧ rg v3) ∧ (((s1 116 v5) ≠ v3 → ((0 ≤ v5 ∧ v5 < 20) ∧ ((0 ≤ v5 ∧ v5 < 20) ∧ G LY X 73 [rv 75, iv v1, iv v2, iv (s1 116 v5), iv (s1 117 v5), iv (v5 + 1), none, none] [] s1))) ∧ ((s1 116 v5) = v3 → ((0 ≤ v5 ∧ v5 < 20) ∧ ((rg (s1 117 v5) ∧ rg v4) ∧ (((s1 117 v5) < v4 → ((0 ≤ v5 ∧ v5 < 20) ∧ ((0 ≤ v5 ∧ v5 < 20) ∧ G LY X 73 [rv 75, iv v1, iv v2, iv (s1 116 v5), iv (s1 117 v5), iv (v5 + 1), none, none] [] s1))) ∧ (v4 ≤ (s1 117 v5) → G LY X 73 [rv 75, iv v1, iv v2, iv v3, iv v4, iv (v5 + 1), none, none] [] s1)))))))))))))))) ∧ (v7 < v5 → ((0 ≤ v7 ∧ v7 < 20) ∧ ((0 ≤ (s 102 v7) ∧ (s 102 v7) < 20) ∧ ((0 ≤ v6 ∧ v6 < 20) ∧ ((rg (s 115 (s 102 v7)) ∧ rg (s 115 v6)) ∧ (((s 115 v6) < (s 115 (s 102 v7)) → G LY X 110 [rv 75, iv v1, iv v2, iv v3, iv v4, iv v5, iv v6, iv (v7 + 1)] [] s) ∧ ((s 115 (s 102 v7)) ≤ (s 115 v6) → ((0 ≤ v7 ∧ v7 < 20) ∧ ((0 ≤ v5 ∧ v5 < 20) ∧ ((rg ((s 116 v7) + 1) ∧ rg (s 116 v5)) ∧ (((s 116 v5) ≤ ((s 116 v7) + 1) → ((0 ≤ v7 ∧ v7 < 20) ∧ ((0 ≤ v5 ∧ v5 < 20) ∧ ((rg ((s 116 v7) + 1) ∧ rg (s 116 v5)) ∧ ((((s 116 v7) + 1) ≠ (s 116 v5) → ((0 ≤ v7 ∧ v7 < 20) ∧ ((0 ≤ v5 ∧ v5 < 20) ∧ (∀ s2 : Sto, s2 = up s 116 v5 ((s 116 v7) + 1) → ((0 ≤ v7 ∧ v7 < 20) ∧ ((0 ≤ v5 ∧ v5 < 20) ∧ (∀ s3 : Sto, s3 = up s2 117 v5 (s2 117 v7) → G LY X 110 [rv 75, iv v1, iv v2, iv v3, iv v4, iv v5, iv v6, iv (v7 + 1)] [] s3))))))) ∧ (((s 116 v7) + 1) = (s 116 v5) → ((0 ≤ v7 ∧ v7 < 20) ∧ ((0 ≤ v5 ∧ v5 < 20) ∧ ((rg (s 117 v7) ∧ rg (s 117 v5)) ∧ (((s 117 v7) < (s 117 v5) → ((0 ≤ v7 ∧ v7 < 20) ∧ ((0 ≤ v5 ∧ v5 < 20) ∧ (∀ s4 : Sto, s4 = up s 116 v5 ((s 116 v7) + 1) → ((0 ≤ v7 ∧ v7 < 20) ∧ ((0 ≤ v5 ∧ v5 < 20) ∧ (∀ s5 : Sto, s5 = up s4 117 v5 (s4 117 v7) → G LY X 110 [rv 75, iv v1, iv v2, iv v3, iv v4, iv v5, iv v6, iv (v7 + 1)] [] s5))))))) ∧ ((s 117 v5) ≤ (s 117 v7) → G LY X 110 [rv 75, iv v1, iv v2, iv v3, iv v4, iv v5, iv v6, iv (v7 + 1)] [] s))))))))))) ∧ (((s 116 v7) + 1) < (s 116 v5) → G LY X 110 [rv 75, iv v1, iv v2, iv v3, iv v4, iv v5, iv v6, iv (v7 + 1)] [] s))))))))))))))) : G LY X 110 [rv 75, iv v1, iv v2, iv v3, iv v4, iv v5, iv v6, iv v7] [] s := by
  refine G_iload C dX12_anew_110 rfl ?_
  refine G_iload C dX12_anew_112 rfl ?_
  refine G_icmp_ge (tgt := 236) C dX12_anew_114 (by decide) ⟨h.1.1, h.1.2⟩ (fun q => ?_) (fun q => ?_)
  · have h := h.2.1 q
    refine G_aload_n C dX12_anew_236 rfl ?_
    refine gR_X12_67 C ly_75 rfl wf_X12_140 dX12_anew_237 ?_
    refine G_iload C dX12_anew_240 rfl ?_
    refine G_aload_n C dX12_anew_242 rfl ?_
    refine gR_X12_67 C ly_75 rfl wf_X12_140 dX12_anew_243 ?_
    refine G_iload C dX12_anew_246 rfl ?_
    refine G_iald C ly_117 (by decide) h.1 dX12_anew_248 ?_
    have h := h.2
    refine G_iconst C dX12_anew_249 ?_
    refine G_iload C dX12_anew_250 rfl ?_
    refine G_ishl C dX12_anew_252 ?_
    refine G_ior C dX12_anew_253 ?_
    refine G_iast C ly_117 (by decide) h.1 dX12_anew_254 ?_
    have h := h.2
    have h := h _ rfl
    obtain ⟨s1, e1⟩ : ∃ z, z = up s 117 v5 (xor_ (s 117 v5) (xshl 1 v6)) := ⟨_, rfl⟩
    rw [← e1] at h ⊢
    refine G_aload_n C dX12_anew_255 rfl ?_
    refine gR_X12_66 C ly_75 rfl wf_X12_137 dX12_anew_256 ?_
    refine G_iload C dX12_anew_259 rfl ?_
    refine G_iald C ly_116 (by decide) h.1 dX12_anew_261 ?_
    have h := h.2
    refine G_iload_n C dX12_anew_262 rfl ?_
    refine G_icmp_lt (tgt := 309) C dX12_anew_263 (by decide) ⟨h.1.1, h.1.2⟩ (fun q => ?_) (fun q => ?_)
    · have h := h.2.1 q
      refine G_iinc (L' := [rv 75, iv v1, iv v2, iv v3, iv v4, iv (v5 + 1), iv v6, iv v7]) C dX12_anew_309 (by decide) rfl rfl ?_
      refine G_goto (tgt := 73) C dX12_anew_312 (by decide) ?_
      refine G_drop (i := 6) (L' := [rv 75, iv v1, iv v2, iv v3, iv v4, iv (v5 + 1), none, iv v7]) rfl ?_
      refine G_drop (i := 7) (L' := [rv 75, iv v1, iv v2, iv v3, iv v4, iv (v5 + 1), none, none]) rfl ?_
      exact h
    · have h := h.2.2 q
      refine G_aload_n C dX12_anew_266 rfl ?_
      refine gR_X12_66 C ly_75 rfl wf_X12_137 dX12_anew_267 ?_
      refine G_iload C dX12_anew_270 rfl ?_
      refine G_iald C ly_116 (by decide) h.1 dX12_anew_272 ?_
      have h := h.2
      refine G_iload_n C dX12_anew_273 rfl ?_
      refine G_icmp_ne (tgt := 292) C dX12_anew_274 (by decide) ⟨h.1.1, h.1.2⟩ (fun q => ?_) (fun q => ?_)
      · have h := h.2.1 q
        refine G_aload_n C dX12_anew_292 rfl ?_
        refine gR_X12_66 C ly_75 rfl wf_X12_137 dX12_anew_293 ?_
        refine G_iload C dX12_anew_296 rfl ?_
        refine G_iald C ly_116 (by decide) h.1 dX12_anew_298 ?_
        have h := h.2
        refine G_istore_n (L' := [rv 75, iv v1, iv v2, iv (s1 116 v5), iv v4, iv v5, iv v6, iv v7]) C dX12_anew_299 (by decide) rfl ?_
        refine G_aload_n C dX12_anew_300 rfl ?_
        refine gR_X12_67 C ly_75 rfl wf_X12_140 dX12_anew_301 ?_
        refine G_iload C dX12_anew_304 rfl ?_
        refine G_iald C ly_117 (by decide) h.1 dX12_anew_306 ?_
        have h := h.2
        refine G_istore (L' := [rv 75, iv v1, iv v2, iv (s1 116 v5), iv (s1 117 v5), iv v5, iv v6, iv v7]) C dX12_anew_307 (by decide) rfl ?_
        refine G_iinc (L' := [rv 75, iv v1, iv v2, iv (s1 116 v5), iv (s1 117 v5), iv (v5 + 1), iv v6, iv v7]) C dX12_anew_309 (by decide) rfl rfl ?_
        refine G_goto (tgt := 73) C dX12_anew_312 (by decide) ?_
        refine G_drop (i := 6) (L' := [rv 75, iv v1, iv v2, iv (s1 116 v5), iv (s1 117 v5), iv (v5 + 1), none, iv v7]) rfl ?_
        refine G_drop (i := 7) (L' := [rv 75, iv v1, iv v2, iv (s1 116 v5), iv (s1 117 v5), iv (v5 + 1), none, none]) rfl ?_
        exact h
      · have h := h.2.2 q
        refine G_aload_n C dX12_anew_277 rfl ?_
        refine gR_X12_67 C ly_75 rfl wf_X12_140 dX12_anew_278 ?_
        refine G_iload C dX12_anew_281 rfl ?_
        refine G_iald C ly_117 (by decide) h.1 dX12_anew_283 ?_
        have h := h.2
        refine G_iload C dX12_anew_284 rfl ?_
        refine G_icmp_lt (tgt := 292) C dX12_anew_286 (by decide) ⟨h.1.1, h.1.2⟩ (fun q => ?_) (fun q => ?_)
        · have h := h.2.1 q
          refine G_aload_n C dX12_anew_292 rfl ?_
          refine gR_X12_66 C ly_75 rfl wf_X12_137 dX12_anew_293 ?_
          refine G_iload C dX12_anew_296 rfl ?_
          refine G_iald C ly_116 (by decide) h.1 dX12_anew_298 ?_
          have h := h.2
          refine G_istore_n (L' := [rv 75, iv v1, iv v2, iv (s1 116 v5), iv v4, iv v5, iv v6, iv v7]) C dX12_anew_299 (by decide) rfl ?_
          refine G_aload_n C dX12_anew_300 rfl ?_
          refine gR_X12_67 C ly_75 rfl wf_X12_140 dX12_anew_301 ?_
          refine G_iload C dX12_anew_304 rfl ?_
          refine G_iald C ly_117 (by decide) h.1 dX12_anew_306 ?_
          have h := h.2
          refine G_istore (L' := [rv 75, iv v1, iv v2, iv (s1 116 v5), iv (s1 117 v5), iv v5, iv v6, iv v7]) C dX12_anew_307 (by decide) rfl ?_
          refine G_iinc (L' := [rv 75, iv v1, iv v2, iv (s1 116 v5), iv (s1 117 v5), iv (v5 + 1), iv v6, iv v7]) C dX12_anew_309 (by decide) rfl rfl ?_
          refine G_goto (tgt := 73) C dX12_anew_312 (by decide) ?_
          refine G_drop (i := 6) (L' := [rv 75, iv v1, iv v2, iv (s1 116 v5), iv (s1 117 v5), iv (v5 + 1), none, iv v7]) rfl ?_
          refine G_drop (i := 7) (L' := [rv 75, iv v1, iv v2, iv (s1 116 v5), iv (s1 117 v5), iv (v5 + 1), none, none]) rfl ?_
          exact h
        · have h := h.2.2 q
          refine G_goto (tgt := 309) C dX12_anew_289 (by decide) ?_
          refine G_iinc (L' := [rv 75, iv v1, iv v2, iv v3, iv v4, iv (v5 + 1), iv v6, iv v7]) C dX12_anew_309 (by decide) rfl rfl ?_
          refine G_goto (tgt := 73) C dX12_anew_312 (by decide) ?_
          refine G_drop (i := 6) (L' := [rv 75, iv v1, iv v2, iv v3, iv v4, iv (v5 + 1), none, iv v7]) rfl ?_
          refine G_drop (i := 7) (L' := [rv 75, iv v1, iv v2, iv v3, iv v4, iv (v5 + 1), none, none]) rfl ?_
          exact h
  · have h := h.2.2 q
    refine G_aload_n C dX12_anew_117 rfl ?_
    refine gR_X12_65 C ly_75 rfl wf_X12_134 dX12_anew_118 ?_
    refine G_aload_n C dX12_anew_121 rfl ?_
    refine gR_X12_47 C ly_75 rfl wf_X12_95 dX12_anew_122 ?_
    refine G_iload C dX12_anew_125 rfl ?_
    refine G_iald C ly_102 (by decide) h.1 dX12_anew_127 ?_
    have h := h.2
    refine G_iald C ly_115 (by decide) h.1 dX12_anew_128 ?_
    have h := h.2
    refine G_aload_n C dX12_anew_129 rfl ?_
    refine gR_X12_65 C ly_75 rfl wf_X12_134 dX12_anew_130 ?_
    refine G_iload C dX12_anew_133 rfl ?_
    refine G_iald C ly_115 (by decide) h.1 dX12_anew_135 ?_
    have h := h.2
    refine G_icmp_gt (tgt := 230) C dX12_anew_136 (by decide) ⟨h.1.1, h.1.2⟩ (fun q => ?_) (fun q => ?_)
    · have h := h.2.1 q
      refine G_iinc (L' := [rv 75, iv v1, iv v2, iv v3, iv v4, iv v5, iv v6, iv (v7 + 1)]) C dX12_anew_230 (by decide) rfl rfl ?_
      refine G_goto (tgt := 110) C dX12_anew_233 (by decide) ?_
      exact h
    · have h := h.2.2 q
      refine G_aload_n C dX12_anew_139 rfl ?_
      refine gR_X12_66 C ly_75 rfl wf_X12_137 dX12_anew_140 ?_
      refine G_iload C dX12_anew_143 rfl ?_
      refine G_iald C ly_116 (by decide) h.1 dX12_anew_145 ?_
      have h := h.2
      refine G_iconst C dX12_anew_146 ?_
      refine G_iadd C dX12_anew_147 ?_
      refine G_aload_n C dX12_anew_148 rfl ?_
      refine gR_X12_66 C ly_75 rfl wf_X12_137 dX12_anew_149 ?_
      refine G_iload C dX12_anew_152 rfl ?_
      refine G_iald C ly_116 (by decide) h.1 dX12_anew_154 ?_
      have h := h.2
      refine G_icmp_ge (tgt := 161) C dX12_anew_155 (by decide) ⟨h.1.1, h.1.2⟩ (fun q => ?_) (fun q => ?_)
      · have h := h.2.1 q
        refine G_aload_n C dX12_anew_161 rfl ?_
        refine gR_X12_66 C ly_75 rfl wf_X12_137 dX12_anew_162 ?_
        refine G_iload C dX12_anew_165 rfl ?_
        refine G_iald C ly_116 (by decide) h.1 dX12_anew_167 ?_
        have h := h.2
        refine G_iconst C dX12_anew_168 ?_
        refine G_iadd C dX12_anew_169 ?_
        refine G_aload_n C dX12_anew_170 rfl ?_
        refine gR_X12_66 C ly_75 rfl wf_X12_137 dX12_anew_171 ?_
        refine G_iload C dX12_anew_174 rfl ?_
        refine G_iald C ly_116 (by decide) h.1 dX12_anew_176 ?_
        have h := h.2
        refine G_icmp_ne (tgt := 200) C dX12_anew_177 (by decide) ⟨h.1.1, h.1.2⟩ (fun q => ?_) (fun q => ?_)
        · have h := h.2.1 q
          refine G_aload_n C dX12_anew_200 rfl ?_
          refine gR_X12_66 C ly_75 rfl wf_X12_137 dX12_anew_201 ?_
          refine G_iload C dX12_anew_204 rfl ?_
          refine G_aload_n C dX12_anew_206 rfl ?_
          refine gR_X12_66 C ly_75 rfl wf_X12_137 dX12_anew_207 ?_
          refine G_iload C dX12_anew_210 rfl ?_
          refine G_iald C ly_116 (by decide) h.1 dX12_anew_212 ?_
          have h := h.2
          refine G_iconst C dX12_anew_213 ?_
          refine G_iadd C dX12_anew_214 ?_
          refine G_iast C ly_116 (by decide) h.1 dX12_anew_215 ?_
          have h := h.2
          have h := h _ rfl
          obtain ⟨s2, e2⟩ : ∃ z, z = up s 116 v5 ((s 116 v7) + 1) := ⟨_, rfl⟩
          rw [← e2] at h ⊢
          refine G_aload_n C dX12_anew_216 rfl ?_
          refine gR_X12_67 C ly_75 rfl wf_X12_140 dX12_anew_217 ?_
          refine G_iload C dX12_anew_220 rfl ?_
          refine G_aload_n C dX12_anew_222 rfl ?_
          refine gR_X12_67 C ly_75 rfl wf_X12_140 dX12_anew_223 ?_
          refine G_iload C dX12_anew_226 rfl ?_
          refine G_iald C ly_117 (by decide) h.1 dX12_anew_228 ?_
          have h := h.2
          refine G_iast C ly_117 (by decide) h.1 dX12_anew_229 ?_
          have h := h.2
          have h := h _ rfl
          obtain ⟨s3, e3⟩ : ∃ z, z = up s2 117 v5 (s2 117 v7) := ⟨_, rfl⟩
          rw [← e3] at h ⊢
          refine G_iinc (L' := [rv 75, iv v1, iv v2, iv v3, iv v4, iv v5, iv v6, iv (v7 + 1)]) C dX12_anew_230 (by decide) rfl rfl ?_
          refine G_goto (tgt := 110) C dX12_anew_233 (by decide) ?_
          exact h
        · have h := h.2.2 q
          refine G_aload_n C dX12_anew_180 rfl ?_
          refine gR_X12_67 C ly_75 rfl wf_X12_140 dX12_anew_181 ?_
          refine G_iload C dX12_anew_184 rfl ?_
          refine G_iald C ly_117 (by decide) h.1 dX12_anew_186 ?_
          have h := h.2
          refine G_aload_n C dX12_anew_187 rfl ?_
          refine gR_X12_67 C ly_75 rfl wf_X12_140 dX12_anew_188 ?_
          refine G_iload C dX12_anew_191 rfl ?_
          refine G_iald C ly_117 (by decide) h.1 dX12_anew_193 ?_
          have h := h.2
          refine G_icmp_lt (tgt := 200) C dX12_anew_194 (by decide) ⟨h.1.1, h.1.2⟩ (fun q => ?_) (fun q => ?_)
          · have h := h.2.1 q
            refine G_aload_n C dX12_anew_200 rfl ?_
            refine gR_X12_66 C ly_75 rfl wf_X12_137 dX12_anew_201 ?_
            refine G_iload C dX12_anew_204 rfl ?_
            refine G_aload_n C dX12_anew_206 rfl ?_
            refine gR_X12_66 C ly_75 rfl wf_X12_137 dX12_anew_207 ?_
            refine G_iload C dX12_anew_210 rfl ?_
            refine G_iald C ly_116 (by decide) h.1 dX12_anew_212 ?_
            have h := h.2
            refine G_iconst C dX12_anew_213 ?_
            refine G_iadd C dX12_anew_214 ?_
            refine G_iast C ly_116 (by decide) h.1 dX12_anew_215 ?_
            have h := h.2
            have h := h _ rfl
            obtain ⟨s4, e4⟩ : ∃ z, z = up s 116 v5 ((s 116 v7) + 1) := ⟨_, rfl⟩
            rw [← e4] at h ⊢
            refine G_aload_n C dX12_anew_216 rfl ?_
            refine gR_X12_67 C ly_75 rfl wf_X12_140 dX12_anew_217 ?_
            refine G_iload C dX12_anew_220 rfl ?_
            refine G_aload_n C dX12_anew_222 rfl ?_
            refine gR_X12_67 C ly_75 rfl wf_X12_140 dX12_anew_223 ?_
            refine G_iload C dX12_anew_226 rfl ?_
            refine G_iald C ly_117 (by decide) h.1 dX12_anew_228 ?_
            have h := h.2
            refine G_iast C ly_117 (by decide) h.1 dX12_anew_229 ?_
            have h := h.2
            have h := h _ rfl
            obtain ⟨s5, e5⟩ : ∃ z, z = up s4 117 v5 (s4 117 v7) := ⟨_, rfl⟩
            rw [← e5] at h ⊢
            refine G_iinc (L' := [rv 75, iv v1, iv v2, iv v3, iv v4, iv v5, iv v6, iv (v7 + 1)]) C dX12_anew_230 (by decide) rfl rfl ?_
            refine G_goto (tgt := 110) C dX12_anew_233 (by decide) ?_
            exact h
          · have h := h.2.2 q
            refine G_goto (tgt := 230) C dX12_anew_197 (by decide) ?_
            refine G_iinc (L' := [rv 75, iv v1, iv v2, iv v3, iv v4, iv v5, iv v6, iv (v7 + 1)]) C dX12_anew_230 (by decide) rfl rfl ?_
            refine G_goto (tgt := 110) C dX12_anew_233 (by decide) ?_
            exact h
      · have h := h.2.2 q
        refine G_goto (tgt := 230) C dX12_anew_158 (by decide) ?_
        refine G_iinc (L' := [rv 75, iv v1, iv v2, iv v3, iv v4, iv v5, iv v6, iv (v7 + 1)]) C dX12_anew_230 (by decide) rfl rfl ?_
        refine G_goto (tgt := 110) C dX12_anew_233 (by decide) ?_
        exact h
set_option maxRecDepth 20000 in
theorem kb_X12_years_0 {X : Cx} {d : Nat} {P : Int → Sto → Prop} (C : Ok LY X RX12 cX12_years 3 d) (r : RetI LY X cX12_years P) {v1 : Int} {s : Sto} (h : (∀ s1 : Sto, s1 = up s 75 0 0 → (CallI LY d MX12_isIn [.inr 75, .inl v1, .inl 1, .inl 60] s1 (fun r2 s2 => ((rg r2) ∧ ((r2 ≠ 0 → G LY X 20 [rv 75, iv v1, iv 0] [] s2) ∧ (r2 = 0 → P (-1) s2))))))) : G LY X 0 [rv 75, iv v1, none] [] s := by
  refine G_aload_n C dX12_years_0 rfl ?_
  refine G_iconst C dX12_years_1 ?_
  refine gP_X12_0 C ly_75 rfl wf_X12_146 dX12_years_2 ?_
  have h := h _ rfl
  obtain ⟨s1, e1⟩ : ∃ z, z = up s 75 0 0 := ⟨_, rfl⟩
  rw [← e1] at h ⊢
  refine G_aload_n C dX12_years_5 rfl ?_
  refine G_iload_n C dX12_years_6 rfl ?_
  refine G_iconst C dX12_years_7 ?_
  refine G_bipush C dX12_years_8 bi_60 ?_
  refine G_callVI (K := []) (args := [.inl v1, .inl 1, .inl 60]) (T := TX12) (N := 72) C ly_75 rfl (Nat.le_of_ble_eq_true rfl) mo_X12_isIn wc_X12_160 rfl dX12_years_10 h (fun r2 s2 h => ?_)
  refine G_if_ne (tgt := 18) C dX12_years_13 (by decide) h.1 (fun q => ?_) (fun q => ?_)
  · have h := h.2.1 q
    refine G_iconst C dX12_years_18 ?_
    refine G_istore_n (L' := [rv 75, iv v1, iv 0]) C dX12_years_19 (by decide) rfl ?_
    exact h
  · have h := h.2.2 q
    refine G_iconst C dX12_years_16 ?_
    exact r _ _ _ _ dX12_years_17 h
set_option maxRecDepth 20000 in
theorem kb_X12_years_20 {X : Cx} {d : Nat} {P : Int → Sto → Prop} (C : Ok LY X RX12 cX12_years 3 d) (r : RetI LY X cX12_years P) {v1 v2 : Int} {s : Sto} (h : ((rg v2 ∧ rg v1) ∧ ((v1 ≤ v2 → P (s 75 21) s) ∧ (v2 < v1 → (CallV LY d MX12_yearGoes [.inr 75] s (fun s1 => G LY X 20 [rv 75, iv v1, iv (v2 + 1)] [] s1)))))) : G LY X 20 [rv 75, iv v1, iv v2] [] s := by
  refine G_iload_n C dX12_years_20 rfl ?_
  refine G_iload_n C dX12_years_21 rfl ?_
  refine G_icmp_ge (tgt := 35) C dX12_years_22 (by decide) ⟨h.1.1, h.1.2⟩ (fun q => ?_) (fun q => ?_)
  · have h := h.2.1 q
    refine G_aload_n C dX12_years_35 rfl ?_
    refine gI_X12_21 C ly_75 rfl wf_X12_177 dX12_years_36 ?_
    exact r _ _ _ _ dX12_years_39 h
  · have h := h.2.2 q
    refine G_aload_n C dX12_years_25 rfl ?_
    refine G_callVV (K := []) (args := []) (T := TX12) (N := 72) C ly_75 rfl (Nat.le_of_ble_eq_true rfl) mo_X12_yearGoes wc_X12_430 rfl dX12_years_26 h (fun s1 h => ?_)
    refine G_iinc (L' := [rv 75, iv v1, iv (v2 + 1)]) C dX12_years_29 (by decide) rfl rfl ?_
    refine G_goto (tgt := 20) C dX12_years_32 (by decide) ?_
    exact h
set_option maxRecDepth 20000 in
theorem kb_X12_image_0 {X : Cx} {d : Nat} {P : Int → Sto → Prop} (C : Ok LY X RX12 cX12_image 3 d) (r : RetZ LY X cX12_image P) {v1 : Int} {s : Sto} (h : (∀ s1 : Sto, s1 = up s 75 0 0 → (CallV LY d MX12_begins [.inr 75] s1 (fun s2 => ((rg v1) ∧ ((v1 ≠ 0 → ((v1 = 0 ∨ v1 = 1) ∧ (∀ s3 : Sto, s3 = up s2 75 68 v1 → (∀ s4 : Sto, s4 = up s3 75 69 1 → (∀ s5 : Sto, s5 = up s4 75 70 0 → (CallI LY d MX12_kept [.inr 75, .inl (s5 75 1)] s5 (fun r6 s6 => (∀ s7 : Sto, s7 = up s6 75 1 r6 → (CallI LY d MX12_kept [.inr 75, .inl (s7 75 9)] s7 (fun r8 s8 => (∀ s9 : Sto, s9 = up s8 75 9 r8 → (CallI LY d MX12_kept [.inr 75, .inl (s9 75 21)] s9 (fun r10 s10 => (∀ s11 : Sto, s11 = up s10 75 21 r10 → (CallI LY d MX12_kept [.inr 75, .inl (s11 75 18)] s11 (fun r12 s12 => (∀ s13 : Sto, s13 = up s12 75 18 r12 → G LY X 87 [rv 75, iv v1, iv 0] [] s13))))))))))))))))) ∧ (v1 = 0 → ((rg (s2 75 69)) ∧ (((s2 75 69) ≠ 0 → ((v1 = 0 ∨ v1 = 1) ∧ (∀ s14 : Sto, s14 = up s2 75 68 v1 → (∀ s15 : Sto, s15 = up s14 75 69 1 → (∀ s16 : Sto, s16 = up s15 75 70 0 → (CallI LY d MX12_kept [.inr 75, .inl (s16 75 1)] s16 (fun r17 s17 => (∀ s18 : Sto, s18 = up s17 75 1 r17 → (CallI LY d MX12_kept [.inr 75, .inl (s18 75 9)] s18 (fun r19 s19 => (∀ s20 : Sto, s20 = up s19 75 9 r19 → (CallI LY d MX12_kept [.inr 75, .inl (s20 75 21)] s20 (fun r21 s21 => (∀ s22 : Sto, s22 = up s21 75 21 r21 → (CallI LY d MX12_kept [.inr 75, .inl (s22 75 18)] s22 (fun r23 s23 => (∀ s24 : Sto, s24 = up s23 75 18 r23 → G LY X 87 [rv 75, iv v1, iv 0] [] s24))))))))))))))))) ∧ ((s2 75 69) = 0 → P 0 s2)))))))))) : G LY X 0 [rv 75, iv v1, none] [] s := by
  refine G_aload_n C dX12_image_0 rfl ?_
  refine G_iconst C dX12_image_1 ?_
  refine gP_X12_0 C ly_75 rfl wf_X12_146 dX12_image_2 ?_
  have h := h _ rfl
  obtain ⟨s1, e1⟩ : ∃ z, z = up s 75 0 0 := ⟨_, rfl⟩
  rw [← e1] at h ⊢
  refine G_aload_n C dX12_image_5 rfl ?_
  refine G_callVV (K := []) (args := []) (T := TX12) (N := 72) C ly_75 rfl (Nat.le_of_ble_eq_true rfl) mo_X12_begins wc_X12_168 rfl dX12_image_6 h (fun s2 h => ?_)
  refine G_iload_n C dX12_image_9 rfl ?_
  refine G_if_ne (tgt := 22) C dX12_image_10 (by decide) h.1 (fun q => ?_) (fun q => ?_)
  · have h := h.2.1 q
    refine G_aload_n C dX12_image_22 rfl ?_
    refine G_iload_n C dX12_image_23 rfl ?_
    refine gP_X12_68 C ly_75 rfl wf_X12_436 h.1 dX12_image_24 ?_
    have h := h.2
    have h := h _ rfl
    obtain ⟨s3, e3⟩ : ∃ z, z = up s2 75 68 v1 := ⟨_, rfl⟩
    rw [← e3] at h ⊢
    refine G_aload_n C dX12_image_27 rfl ?_
    refine G_iconst C dX12_image_28 ?_
    refine gP_X12_69 C ly_75 rfl wf_X12_442 (by decide) dX12_image_29 ?_
    have h := h _ rfl
    obtain ⟨s4, e4⟩ : ∃ z, z = up s3 75 69 1 := ⟨_, rfl⟩
    rw [← e4] at h ⊢
    refine G_aload_n C dX12_image_32 rfl ?_
    refine G_iconst C dX12_image_33 ?_
    refine gP_X12_70 C ly_75 rfl wf_X12_433 dX12_image_34 ?_
    have h := h _ rfl
    obtain ⟨s5, e5⟩ : ∃ z, z = up s4 75 70 0 := ⟨_, rfl⟩
    rw [← e5] at h ⊢
    refine G_aload_n C dX12_image_37 rfl ?_
    refine G_aload_n C dX12_image_38 rfl ?_
    refine G_aload_n C dX12_image_39 rfl ?_
    refine gI_X12_1 C ly_75 rfl wf_X12_149 dX12_image_40 ?_
    refine G_callVI (K := [.inr 75]) (args := [.inl (s5 75 1)]) (T := TX12) (N := 72) C ly_75 rfl (Nat.le_of_ble_eq_true rfl) mo_X12_kept wc_X12_439 rfl dX12_image_43 h (fun r6 s6 h => ?_)
    refine gP_X12_1 C ly_75 rfl wf_X12_149 dX12_image_46 ?_
    have h := h _ rfl
    obtain ⟨s7, e7⟩ : ∃ z, z = up s6 75 1 r6 := ⟨_, rfl⟩
    rw [← e7] at h ⊢
    refine G_aload_n C dX12_image_49 rfl ?_
    refine G_aload_n C dX12_image_50 rfl ?_
    refine G_aload_n C dX12_image_51 rfl ?_
    refine gI_X12_9 C ly_75 rfl wf_X12_25 dX12_image_52 ?_
    refine G_callVI (K := [.inr 75]) (args := [.inl (s7 75 9)]) (T := TX12) (N := 72) C ly_75 rfl (Nat.le_of_ble_eq_true rfl) mo_X12_kept wc_X12_439 rfl dX12_image_55 h (fun r8 s8 h => ?_)
    refine gP_X12_9 C ly_75 rfl wf_X12_25 dX12_image_58 ?_
    have h := h _ rfl
    obtain ⟨s9, e9⟩ : ∃ z, z = up s8 75 9 r8 := ⟨_, rfl⟩
    rw [← e9] at h ⊢
    refine G_aload_n C dX12_image_61 rfl ?_
    refine G_aload_n C dX12_image_62 rfl ?_
    refine G_aload_n C dX12_image_63 rfl ?_
    refine gI_X12_21 C ly_75 rfl wf_X12_177 dX12_image_64 ?_
    refine G_callVI (K := [.inr 75]) (args := [.inl (s9 75 21)]) (T := TX12) (N := 72) C ly_75 rfl (Nat.le_of_ble_eq_true rfl) mo_X12_kept wc_X12_439 rfl dX12_image_67 h (fun r10 s10 h => ?_)
    refine gP_X12_21 C ly_75 rfl wf_X12_177 dX12_image_70 ?_
    have h := h _ rfl
    obtain ⟨s11, e11⟩ : ∃ z, z = up s10 75 21 r10 := ⟨_, rfl⟩
    rw [← e11] at h ⊢
    refine G_aload_n C dX12_image_73 rfl ?_
    refine G_aload_n C dX12_image_74 rfl ?_
    refine G_aload_n C dX12_image_75 rfl ?_
    refine gI_X12_18 C ly_75 rfl wf_X12_174 dX12_image_76 ?_
    refine G_callVI (K := [.inr 75]) (args := [.inl (s11 75 18)]) (T := TX12) (N := 72) C ly_75 rfl (Nat.le_of_ble_eq_true rfl) mo_X12_kept wc_X12_439 rfl dX12_image_79 h (fun r12 s12 h => ?_)
    refine gP_X12_18 C ly_75 rfl wf_X12_174 dX12_image_82 ?_
    have h := h _ rfl
    obtain ⟨s13, e13⟩ : ∃ z, z = up s12 75 18 r12 := ⟨_, rfl⟩
    rw [← e13] at h ⊢
    refine G_iconst C dX12_image_85 ?_
    refine G_istore_n (L' := [rv 75, iv v1, iv 0]) C dX12_image_86 (by decide) rfl ?_
    exact h
  · have h := h.2.2 q
    refine G_aload_n C dX12_image_13 rfl ?_
    refine gI_X12_69 C ly_75 rfl wf_X12_442 dX12_image_14 ?_
    refine G_if_ne (tgt := 22) C dX12_image_17 (by decide) h.1 (fun q => ?_) (fun q => ?_)
    · have h := h.2.1 q
      refine G_aload_n C dX12_image_22 rfl ?_
      refine G_iload_n C dX12_image_23 rfl ?_
      refine gP_X12_68 C ly_75 rfl wf_X12_436 h.1 dX12_image_24 ?_
      have h := h.2
      have h := h _ rfl
      obtain ⟨s14, e14⟩ : ∃ z, z = up s2 75 68 v1 := ⟨_, rfl⟩
      rw [← e14] at h ⊢
      refine G_aload_n C dX12_image_27 rfl ?_
      refine G_iconst C dX12_image_28 ?_
      refine gP_X12_69 C ly_75 rfl wf_X12_442 (by decide) dX12_image_29 ?_
      have h := h _ rfl
      obtain ⟨s15, e15⟩ : ∃ z, z = up s14 75 69 1 := ⟨_, rfl⟩
      rw [← e15] at h ⊢
      refine G_aload_n C dX12_image_32 rfl ?_
      refine G_iconst C dX12_image_33 ?_
      refine gP_X12_70 C ly_75 rfl wf_X12_433 dX12_image_34 ?_
      have h := h _ rfl
      obtain ⟨s16, e16⟩ : ∃ z, z = up s15 75 70 0 := ⟨_, rfl⟩
      rw [← e16] at h ⊢
      refine G_aload_n C dX12_image_37 rfl ?_
      refine G_aload_n C dX12_image_38 rfl ?_
      refine G_aload_n C dX12_image_39 rfl ?_
      refine gI_X12_1 C ly_75 rfl wf_X12_149 dX12_image_40 ?_
      refine G_callVI (K := [.inr 75]) (args := [.inl (s16 75 1)]) (T := TX12) (N := 72) C ly_75 rfl (Nat.le_of_ble_eq_true rfl) mo_X12_kept wc_X12_439 rfl dX12_image_43 h (fun r17 s17 h => ?_)
      refine gP_X12_1 C ly_75 rfl wf_X12_149 dX12_image_46 ?_
      have h := h _ rfl
      obtain ⟨s18, e18⟩ : ∃ z, z = up s17 75 1 r17 := ⟨_, rfl⟩
      rw [← e18] at h ⊢
      refine G_aload_n C dX12_image_49 rfl ?_
      refine G_aload_n C dX12_image_50 rfl ?_
      refine G_aload_n C dX12_image_51 rfl ?_
      refine gI_X12_9 C ly_75 rfl wf_X12_25 dX12_image_52 ?_
      refine G_callVI (K := [.inr 75]) (args := [.inl (s18 75 9)]) (T := TX12) (N := 72) C ly_75 rfl (Nat.le_of_ble_eq_true rfl) mo_X12_kept wc_X12_439 rfl dX12_image_55 h (fun r19 s19 h => ?_)
      refine gP_X12_9 C ly_75 rfl wf_X12_25 dX12_image_58 ?_
      have h := h _ rfl
      obtain ⟨s20, e20⟩ : ∃ z, z = up s19 75 9 r19 := ⟨_, rfl⟩
      rw [← e20] at h ⊢
      refine G_aload_n C dX12_image_61 rfl ?_
      refine G_aload_n C dX12_image_62 rfl ?_
      refine G_aload_n C dX12_image_63 rfl ?_
      refine gI_X12_21 C ly_75 rfl wf_X12_177 dX12_image_64 ?_
      refine G_callVI (K := [.inr 75]) (args := [.inl (s20 75 21)]) (T := TX12) (N := 72) C ly_75 rfl (Nat.le_of_ble_eq_true rfl) mo_X12_kept wc_X12_439 rfl dX12_image_67 h (fun r21 s21 h => ?_)
      refine gP_X12_21 C ly_75 rfl wf_X12_177 dX12_image_70 ?_
      have h := h _ rfl
      obtain ⟨s22, e22⟩ : ∃ z, z = up s21 75 21 r21 := ⟨_, rfl⟩
      rw [← e22] at h ⊢
      refine G_aload_n C dX12_image_73 rfl ?_
      refine G_aload_n C dX12_image_74 rfl ?_
      refine G_aload_n C dX12_image_75 rfl ?_
      refine gI_X12_18 C ly_75 rfl wf_X12_174 dX12_image_76 ?_
      refine G_callVI (K := [.inr 75]) (args := [.inl (s22 75 18)]) (T := TX12) (N := 72) C ly_75 rfl (Nat.le_of_ble_eq_true rfl) mo_X12_kept wc_X12_439 rfl dX12_image_79 h (fun r23 s23 h => ?_)
      refine gP_X12_18 C ly_75 rfl wf_X12_174 dX12_image_82 ?_
      have h := h _ rfl
      obtain ⟨s24, e24⟩ : ∃ z, z = up s23 75 18 r23 := ⟨_, rfl⟩
      rw [← e24] at h ⊢
      refine G_iconst C dX12_image_85 ?_
      refine G_istore_n (L' := [rv 75, iv v1, iv 0]) C dX12_image_86 (by decide) rfl ?_
      exact h
    · have h := h.2.2 q
      refine G_iconst C dX12_image_20 ?_
      exact r _ _ _ _ dX12_image_21 (by decide) h
set_option maxRecDepth 20000 in
theorem kb_X12_image_87 {X : Cx} {d : Nat} {P : Int → Sto → Prop} (C : Ok LY X RX12 cX12_image 3 d) (r : RetZ LY X cX12_image P) {v1 v2 : Int} {s : Sto} (h : ((rg v2) ∧ ((152 ≤ v2 → G LY X 118 [rv 75, iv v1, iv 0] [] s) ∧ (v2 < 152 → ((0 ≤ v2 ∧ v2 < 168) ∧ (CallI LY d MX12_kept [.inr 75, .inl (s 81 v2)] s (fun r1 s1 => ((0 ≤ v2 ∧ v2 < 168) ∧ (∀ s2 : Sto, s2 = up s1 81 v2 r1 → G LY X 87 [rv 75, iv v1, iv (v2 + 1)] [] s2))))))))) : G LY X 87 [rv 75, iv v1, iv v2] [] s := by
  refine G_iload_n C dX12_image_87 rfl ?_
  refine G_sipush C dX12_image_88 si_152 ?_
  refine G_icmp_ge (tgt := 116) C dX12_image_91 (by decide) ⟨h.1, (by decide)⟩ (fun q => ?_) (fun q => ?_)
  · have h := h.2.1 q
    refine G_iconst C dX12_image_116 ?_
    refine G_istore_n (L' := [rv 75, iv v1, iv 0]) C dX12_image_117 (by decide) rfl ?_
    exact h
  · have h := h.2.2 q
    refine G_aload_n C dX12_image_94 rfl ?_
    refine gR_X12_10 C ly_75 rfl wf_X12_29 dX12_image_95 ?_
    refine G_iload_n C dX12_image_98 rfl ?_
    refine G_aload_n C dX12_image_99 rfl ?_
    refine G_aload_n C dX12_image_100 rfl ?_
    refine gR_X12_10 C ly_75 rfl wf_X12_29 dX12_image_101 ?_
    refine G_iload_n C dX12_image_104 rfl ?_
    refine G_iald C ly_81 (by decide) h.1 dX12_image_105 ?_
    have h := h.2
    refine G_callVI (K := [.inl v2, .inr 81]) (args := [.inl (s 81 v2)]) (T := TX12) (N := 72) C ly_75 rfl (Nat.le_of_ble_eq_true rfl) mo_X12_kept wc_X12_439 rfl dX12_image_106 h (fun r1 s1 h => ?_)
    refine G_iast C ly_81 (by decide) h.1 dX12_image_109 ?_
    have h := h.2
    have h := h _ rfl
    obtain ⟨s2, e2⟩ : ∃ z, z = up s1 81 v2 r1 := ⟨_, rfl⟩
    rw [← e2] at h ⊢
    refine G_iinc (L' := [rv 75, iv v1, iv (v2 + 1)]) C dX12_image_110 (by decide) rfl rfl ?_
    refine G_goto (tgt := 87) C dX12_image_113 (by decide) ?_
    exact h
set_option maxRecDepth 20000 in
theorem kb_X12_image_118 {X : Cx} {d : Nat} {P : Int → Sto → Prop} (C : Ok LY X RX12 cX12_image 3 d) (r : RetZ LY X cX12_image P) {v1 v2 : Int} {s : Sto} (h : ((rg v2) ∧ ((7 ≤ v2 → G LY X 148 [rv 75, iv v1, iv 0] [] s) ∧ (v2 < 7 → ((0 ≤ v2 ∧ v2 < 7) ∧ (CallI LY d MX12_kept [.inr 75, .inl (s 82 v2)] s (fun r1 s1 => ((0 ≤ v2 ∧ v2 < 7) ∧ (∀ s2 : Sto, s2 = up s1 82 v2 r1 → G LY X 118 [rv 75, iv v1, iv (v2 + 1)] [] s2))))))))) : G LY X 118 [rv 75, iv v1, iv v2] [] s := by
  refine G_iload_n C dX12_image_118 rfl ?_
  refine G_bipush C dX12_image_119 bi_7 ?_
  refine G_icmp_ge (tgt := 146) C dX12_image_121 (by decide) ⟨h.1, (by decide)⟩ (fun q => ?_) (fun q => ?_)
  · have h := h.2.1 q
    refine G_iconst C dX12_image_146 ?_
    refine G_istore_n (L' := [rv 75, iv v1, iv 0]) C dX12_image_147 (by decide) rfl ?_
    exact h
  · have h := h.2.2 q
    refine G_aload_n C dX12_image_124 rfl ?_
    refine gR_X12_11 C ly_75 rfl wf_X12_32 dX12_image_125 ?_
    refine G_iload_n C dX12_image_128 rfl ?_
    refine G_aload_n C dX12_image_129 rfl ?_
    refine G_aload_n C dX12_image_130 rfl ?_
    refine gR_X12_11 C ly_75 rfl wf_X12_32 dX12_image_131 ?_
    refine G_iload_n C dX12_image_134 rfl ?_
    refine G_iald C ly_82 (by decide) h.1 dX12_image_135 ?_
    have h := h.2
    refine G_callVI (K := [.inl v2, .inr 82]) (args := [.inl (s 82 v2)]) (T := TX12) (N := 72) C ly_75 rfl (Nat.le_of_ble_eq_true rfl) mo_X12_kept wc_X12_439 rfl dX12_image_136 h (fun r1 s1 h => ?_)
    refine G_iast C ly_82 (by decide) h.1 dX12_image_139 ?_
    have h := h.2
    have h := h _ rfl
    obtain ⟨s2, e2⟩ : ∃ z, z = up s1 82 v2 r1 := ⟨_, rfl⟩
    rw [← e2] at h ⊢
    refine G_iinc (L' := [rv 75, iv v1, iv (v2 + 1)]) C dX12_image_140 (by decide) rfl rfl ?_
    refine G_goto (tgt := 118) C dX12_image_143 (by decide) ?_
    exact h
set_option maxRecDepth 20000 in
theorem kb_X12_image_148 {X : Cx} {d : Nat} {P : Int → Sto → Prop} (C : Ok LY X RX12 cX12_image 3 d) (r : RetZ LY X cX12_image P) {v1 v2 : Int} {s : Sto} (h : ((rg v2) ∧ ((6 ≤ v2 → G LY X 258 [rv 75, iv v1, iv 0] [] s) ∧ (v2 < 6 → ((0 ≤ v2 ∧ v2 < 6) ∧ (CallI LY d MX12_kept [.inr 75, .inl (s 83 v2)] s (fun r1 s1 => ((0 ≤ v2 ∧ v2 < 6) ∧ (∀ s2 : Sto, s2 = up s1 83 v2 r1 → ((0 ≤ v2 ∧ v2 < 6) ∧ (CallI LY d MX12_kept [.inr 75, .inl (s2 84 v2)] s2 (fun r3 s3 => ((0 ≤ v2 ∧ v2 < 6) ∧ (∀ s4 : Sto, s4 = up s3 84 v2 r3 → ((0 ≤ v2 ∧ v2 < 6) ∧ (CallI LY d MX12_kept [.inr 75, .inl (s4 85 v2)] s4 (fun r5 s5 => ((0 ≤ v2 ∧ v2 < 6) ∧ (∀ s6 : Sto, s6 = up s5 85 v2 r5 → ((0 ≤ v2 ∧ v2 < 6) ∧ (CallI LY d MX12_kept [.inr 75, .inl (s6 86 v2)] s6 (fun r7 s7 => ((0 ≤ v2 ∧ v2 < 6) ∧ (∀ s8 : Sto, s8 = up s7 86 v2 r7 → ((0 ≤ v2 ∧ v2 < 6) ∧ (CallI LY d MX12_kept [.inr 75, .inl (s8 87 v2)] s8 (fun r9 s9 => ((0 ≤ v2 ∧ v2 < 6) ∧ (∀ s10 : Sto, s10 = up s9 87 v2 r9 → ((0 ≤ v2 ∧ v2 < 6) ∧ (CallI LY d MX12_kept [.inr 75, .inl (s10 88 v2)] s10 (fun r11 s11 => ((0 ≤ v2 ∧ v2 < 6) ∧ (∀ s12 : Sto, s12 = up s11 88 v2 r11 → G LY X 148 [rv 75, iv v1, iv (v2 + 1)] [] s12)))))))))))))))))))))))))))))))))) : G LY X 148 [rv 75, iv v1, iv v2] [] s := by
  refine G_iload_n C dX12_image_148 rfl ?_
  refine G_bipush C dX12_image_149 bi_6 ?_
  refine G_icmp_ge (tgt := 256) C dX12_image_151 (by decide) ⟨h.1, (by decide)⟩ (fun q => ?_) (fun q => ?_)
  · have h := h.2.1 q
    refine G_iconst C dX12_image_256 ?_
    refine G_istore_n (L' := [rv 75, iv v1, iv 0]) C dX12_image_257 (by decide) rfl ?_
    exact h
  · have h := h.2.2 q
    refine G_aload_n C dX12_image_154 rfl ?_
    refine gR_X12_12 C ly_75 rfl wf_X12_35 dX12_image_155 ?_
    refine G_iload_n C dX12_image_158 rfl ?_
    refine G_aload_n C dX12_image_159 rfl ?_
    refine G_aload_n C dX12_image_160 rfl ?_
    refine gR_X12_12 C ly_75 rfl wf_X12_35 dX12_image_161 ?_
    refine G_iload_n C dX12_image_164 rfl ?_
    refine G_iald C ly_83 (by decide) h.1 dX12_image_165 ?_
    have h := h.2
    refine G_callVI (K := [.inl v2, .inr 83]) (args := [.inl (s 83 v2)]) (T := TX12) (N := 72) C ly_75 rfl (Nat.le_of_ble_eq_true rfl) mo_X12_kept wc_X12_439 rfl dX12_image_166 h (fun r1 s1 h => ?_)
    refine G_iast C ly_83 (by decide) h.1 dX12_image_169 ?_
    have h := h.2
    have h := h _ rfl
    obtain ⟨s2, e2⟩ : ∃ z, z = up s1 83 v2 r1 := ⟨_, rfl⟩
    rw [← e2] at h ⊢
    refine G_aload_n C dX12_image_170 rfl ?_
    refine gR_X12_13 C ly_75 rfl wf_X12_38 dX12_image_171 ?_
    refine G_iload_n C dX12_image_174 rfl ?_
    refine G_aload_n C dX12_image_175 rfl ?_
    refine G_aload_n C dX12_image_176 rfl ?_
    refine gR_X12_13 C ly_75 rfl wf_X12_38 dX12_image_177 ?_
    refine G_iload_n C dX12_image_180 rfl ?_
    refine G_iald C ly_84 (by decide) h.1 dX12_image_181 ?_
    have h := h.2
    refine G_callVI (K := [.inl v2, .inr 84]) (args := [.inl (s2 84 v2)]) (T := TX12) (N := 72) C ly_75 rfl (Nat.le_of_ble_eq_true rfl) mo_X12_kept wc_X12_439 rfl dX12_image_182 h (fun r3 s3 h => ?_)
    refine G_iast C ly_84 (by decide) h.1 dX12_image_185 ?_
    have h := h.2
    have h := h _ rfl
    obtain ⟨s4, e4⟩ : ∃ z, z = up s3 84 v2 r3 := ⟨_, rfl⟩
    rw [← e4] at h ⊢
    refine G_aload_n C dX12_image_186 rfl ?_
    refine gR_X12_14 C ly_75 rfl wf_X12_41 dX12_image_187 ?_
    refine G_iload_n C dX12_image_190 rfl ?_
    refine G_aload_n C dX12_image_191 rfl ?_
    refine G_aload_n C dX12_image_192 rfl ?_
    refine gR_X12_14 C ly_75 rfl wf_X12_41 dX12_image_193 ?_
    refine G_iload_n C dX12_image_196 rfl ?_
    refine G_iald C ly_85 (by decide) h.1 dX12_image_197 ?_
    have h := h.2
    refine G_callVI (K := [.inl v2, .inr 85]) (args := [.inl (s4 85 v2)]) (T := TX12) (N := 72) C ly_75 rfl (Nat.le_of_ble_eq_true rfl) mo_X12_kept wc_X12_439 rfl dX12_image_198 h (fun r5 s5 h => ?_)
    refine G_iast C ly_85 (by decide) h.1 dX12_image_201 ?_
    have h := h.2
    have h := h _ rfl
    obtain ⟨s6, e6⟩ : ∃ z, z = up s5 85 v2 r5 := ⟨_, rfl⟩
    rw [← e6] at h ⊢
    refine G_aload_n C dX12_image_202 rfl ?_
    refine gR_X12_15 C ly_75 rfl wf_X12_44 dX12_image_203 ?_
    refine G_iload_n C dX12_image_206 rfl ?_
    refine G_aload_n C dX12_image_207 rfl ?_
    refine G_aload_n C dX12_image_208 rfl ?_
    refine gR_X12_15 C ly_75 rfl wf_X12_44 dX12_image_209 ?_
    refine G_iload_n C dX12_image_212 rfl ?_
    refine G_iald C ly_86 (by decide) h.1 dX12_image_213 ?_
    have h := h.2
    refine G_callVI (K := [.inl v2, .inr 86]) (args := [.inl (s6 86 v2)]) (T := TX12) (N := 72) C ly_75 rfl (Nat.le_of_ble_eq_true rfl) mo_X12_kept wc_X12_439 rfl dX12_image_214 h (fun r7 s7 h => ?_)
    refine G_iast C ly_86 (by decide) h.1 dX12_image_217 ?_
    have h := h.2
    have h := h _ rfl
    obtain ⟨s8, e8⟩ : ∃ z, z = up s7 86 v2 r7 := ⟨_, rfl⟩
    rw [← e8] at h ⊢
    refine G_aload_n C dX12_image_218 rfl ?_
    refine gR_X12_16 C ly_75 rfl wf_X12_47 dX12_image_219 ?_
    refine G_iload_n C dX12_image_222 rfl ?_
    refine G_aload_n C dX12_image_223 rfl ?_
    refine G_aload_n C dX12_image_224 rfl ?_
    refine gR_X12_16 C ly_75 rfl wf_X12_47 dX12_image_225 ?_
    refine G_iload_n C dX12_image_228 rfl ?_
    refine G_iald C ly_87 (by decide) h.1 dX12_image_229 ?_
    have h := h.2
    refine G_callVI (K := [.inl v2, .inr 87]) (args := [.inl (s8 87 v2)]) (T := TX12) (N := 72) C ly_75 rfl (Nat.le_of_ble_eq_true rfl) mo_X12_kept wc_X12_439 rfl dX12_image_230 h (fun r9 s9 h => ?_)
    refine G_iast C ly_87 (by decide) h.1 dX12_image_233 ?_
    have h := h.2
    have h := h _ rfl
    obtain ⟨s10, e10⟩ : ∃ z, z = up s9 87 v2 r9 := ⟨_, rfl⟩
    rw [← e10] at h ⊢
    refine G_aload_n C dX12_image_234 rfl ?_
    refine gR_X12_17 C ly_75 rfl wf_X12_50 dX12_image_235 ?_
    refine G_iload_n C dX12_image_238 rfl ?_
    refine G_aload_n C dX12_image_239 rfl ?_
    refine G_aload_n C dX12_image_240 rfl ?_
    refine gR_X12_17 C ly_75 rfl wf_X12_50 dX12_image_241 ?_
    refine G_iload_n C dX12_image_244 rfl ?_
    refine G_iald C ly_88 (by decide) h.1 dX12_image_245 ?_
    have h := h.2
    refine G_callVI (K := [.inl v2, .inr 88]) (args := [.inl (s10 88 v2)]) (T := TX12) (N := 72) C ly_75 rfl (Nat.le_of_ble_eq_true rfl) mo_X12_kept wc_X12_439 rfl dX12_image_246 h (fun r11 s11 h => ?_)
    refine G_iast C ly_88 (by decide) h.1 dX12_image_249 ?_
    have h := h.2
    have h := h _ rfl
    obtain ⟨s12, e12⟩ : ∃ z, z = up s11 88 v2 r11 := ⟨_, rfl⟩
    rw [← e12] at h ⊢
    refine G_iinc (L' := [rv 75, iv v1, iv (v2 + 1)]) C dX12_image_250 (by decide) rfl rfl ?_
    refine G_goto (tgt := 148) C dX12_image_253 (by decide) ?_
    exact h
set_option maxRecDepth 20000 in
theorem kb_X12_image_258 {X : Cx} {d : Nat} {P : Int → Sto → Prop} (C : Ok LY X RX12 cX12_image 3 d) (r : RetZ LY X cX12_image P) {v1 v2 : Int} {s : Sto} (h : ((rg v2) ∧ ((12 ≤ v2 → (CallV LY d MX12_keepsPeople [.inr 75] s (fun s1 => (CallV LY d MX12_keepsNaming [.inr 75] s1 (fun s2 => P 1 s2))))) ∧ (v2 < 12 → ((0 ≤ v2 ∧ v2 < 12) ∧ (CallI LY d MX12_kept [.inr 75, .inl (s 89 v2)] s (fun r3 s3 => ((0 ≤ v2 ∧ v2 < 12) ∧ (∀ s4 : Sto, s4 = up s3 89 v2 r3 → ((0 ≤ v2 ∧ v2 < 12) ∧ (CallI LY d MX12_kept [.inr 75, .inl (s4 90 v2)] s4 (fun r5 s5 => ((0 ≤ v2 ∧ v2 < 12) ∧ (∀ s6 : Sto, s6 = up s5 90 v2 r5 → G LY X 258 [rv 75, iv v1, iv (v2 + 1)] [] s6)))))))))))))) : G LY X 258 [rv 75, iv v1, iv v2] [] s := by
  refine G_iload_n C dX12_image_258 rfl ?_
  refine G_bipush C dX12_image_259 bi_12 ?_
  refine G_icmp_ge (tgt := 302) C dX12_image_261 (by decide) ⟨h.1, (by decide)⟩ (fun q => ?_) (fun q => ?_)
  · have h := h.2.1 q
    refine G_aload_n C dX12_image_302 rfl ?_
    refine G_callVV (K := []) (args := []) (T := TX12) (N := 72) C ly_75 rfl (Nat.le_of_ble_eq_true rfl) mo_X12_keepsPeople wc_X12_445 rfl dX12_image_303 h (fun s1 h => ?_)
    refine G_aload_n C dX12_image_306 rfl ?_
    refine G_callVV (K := []) (args := []) (T := TX12) (N := 72) C ly_75 rfl (Nat.le_of_ble_eq_true rfl) mo_X12_keepsNaming wc_X12_448 rfl dX12_image_307 h (fun s2 h => ?_)
    refine G_iconst C dX12_image_310 ?_
    exact r _ _ _ _ dX12_image_311 (by decide) h
  · have h := h.2.2 q
    refine G_aload_n C dX12_image_264 rfl ?_
    refine gR_X12_19 C ly_75 rfl wf_X12_53 dX12_image_265 ?_
    refine G_iload_n C dX12_image_268 rfl ?_
    refine G_aload_n C dX12_image_269 rfl ?_
    refine G_aload_n C dX12_image_270 rfl ?_
    refine gR_X12_19 C ly_75 rfl wf_X12_53 dX12_image_271 ?_
    refine G_iload_n C dX12_image_274 rfl ?_
    refine G_iald C ly_89 (by decide) h.1 dX12_image_275 ?_
    have h := h.2
    refine G_callVI (K := [.inl v2, .inr 89]) (args := [.inl (s 89 v2)]) (T := TX12) (N := 72) C ly_75 rfl (Nat.le_of_ble_eq_true rfl) mo_X12_kept wc_X12_439 rfl dX12_image_276 h (fun r3 s3 h => ?_)
    refine G_iast C ly_89 (by decide) h.1 dX12_image_279 ?_
    have h := h.2
    have h := h _ rfl
    obtain ⟨s4, e4⟩ : ∃ z, z = up s3 89 v2 r3 := ⟨_, rfl⟩
    rw [← e4] at h ⊢
    refine G_aload_n C dX12_image_280 rfl ?_
    refine gR_X12_20 C ly_75 rfl wf_X12_56 dX12_image_281 ?_
    refine G_iload_n C dX12_image_284 rfl ?_
    refine G_aload_n C dX12_image_285 rfl ?_
    refine G_aload_n C dX12_image_286 rfl ?_
    refine gR_X12_20 C ly_75 rfl wf_X12_56 dX12_image_287 ?_
    refine G_iload_n C dX12_image_290 rfl ?_
    refine G_iald C ly_90 (by decide) h.1 dX12_image_291 ?_
    have h := h.2
    refine G_callVI (K := [.inl v2, .inr 90]) (args := [.inl (s4 90 v2)]) (T := TX12) (N := 72) C ly_75 rfl (Nat.le_of_ble_eq_true rfl) mo_X12_kept wc_X12_439 rfl dX12_image_292 h (fun r5 s5 h => ?_)
    refine G_iast C ly_90 (by decide) h.1 dX12_image_295 ?_
    have h := h.2
    have h := h _ rfl
    obtain ⟨s6, e6⟩ : ∃ z, z = up s5 90 v2 r5 := ⟨_, rfl⟩
    rw [← e6] at h ⊢
    refine G_iinc (L' := [rv 75, iv v1, iv (v2 + 1)]) C dX12_image_296 (by decide) rfl rfl ?_
    refine G_goto (tgt := 258) C dX12_image_299 (by decide) ?_
    exact h
set_option maxRecDepth 20000 in
theorem kb_X12_look_0 {X : Cx} {d : Nat} {P : Int → Sto → Prop} (C : Ok LY X RX12 cX12_look 2 d) (r : RetI LY X cX12_look P) {v1 : Int} {s : Sto} (h : (∀ s1 : Sto, s1 = up s 75 0 0 → (CallV LY d MX12_begins [.inr 75] s1 (fun s2 => ((rg v1) ∧ ((v1 ≠ 0 → ((rg v1) ∧ ((v1 ≠ 1 → ((rg v1) ∧ ((v1 ≠ 2 → ((rg v1) ∧ ((v1 ≠ 3 → ((rg v1) ∧ ((v1 ≠ 4 → ((rg v1) ∧ ((v1 ≠ 5 → ((rg v1) ∧ ((v1 ≠ 6 → (CallI LY d MX12_isIn [.inr 75, .inl v1, .inl 10, .inl (9 + (s2 75 9))] s2 (fun r3 s3 => ((rg r3) ∧ ((r3 = 0 → (CallI LY d MX12_isIn [.inr 75, .inl v1, .inl 20, .inl 26] s3 (fun r4 s4 => ((rg r4) ∧ ((r4 = 0 → P (-1) s4) ∧ (r4 ≠ 0 → ((0 ≤ (v1 - 20) ∧ (v1 - 20) < 7) ∧ P (s4 82 (v1 - 20)) s4))))))) ∧ (r3 ≠ 0 → ((0 ≤ (v1 - 10) ∧ (v1 - 10) < 168) ∧ P (s3 81 (v1 - 10)) s3))))))) ∧ (v1 = 6 → P (s2 75 1) s2)))) ∧ (v1 = 5 → P (s2 75 21) s2)))) ∧ (v1 = 4 → P (s2 75 30) s2)))) ∧ (v1 = 3 → P (s2 75 18) s2)))) ∧ (v1 = 2 → P (s2 75 8) s2)))) ∧ (v1 = 1 → P (s2 75 4) s2)))) ∧ (v1 = 0 → P (s2 75 9) s2))))))) : G LY X 0 [rv 75, iv v1] [] s := by
  refine G_aload_n C dX12_look_0 rfl ?_
  refine G_iconst C dX12_look_1 ?_
  refine gP_X12_0 C ly_75 rfl wf_X12_146 dX12_look_2 ?_
  have h := h _ rfl
  obtain ⟨s1, e1⟩ : ∃ z, z = up s 75 0 0 := ⟨_, rfl⟩
  rw [← e1] at h ⊢
  refine G_aload_n C dX12_look_5 rfl ?_
  refine G_callVV (K := []) (args := []) (T := TX12) (N := 72) C ly_75 rfl (Nat.le_of_ble_eq_true rfl) mo_X12_begins wc_X12_168 rfl dX12_look_6 h (fun s2 h => ?_)
  refine G_iload_n C dX12_look_9 rfl ?_
  refine G_if_ne (tgt := 18) C dX12_look_10 (by decide) h.1 (fun q => ?_) (fun q => ?_)
  · have h := h.2.1 q
    refine G_iload_n C dX12_look_18 rfl ?_
    refine G_iconst C dX12_look_19 ?_
    refine G_icmp_ne (tgt := 28) C dX12_look_20 (by decide) ⟨h.1, (by decide)⟩ (fun q => ?_) (fun q => ?_)
    · have h := h.2.1 q
      refine G_iload_n C dX12_look_28 rfl ?_
      refine G_iconst C dX12_look_29 ?_
      refine G_icmp_ne (tgt := 38) C dX12_look_30 (by decide) ⟨h.1, (by decide)⟩ (fun q => ?_) (fun q => ?_)
      · have h := h.2.1 q
        refine G_iload_n C dX12_look_38 rfl ?_
        refine G_iconst C dX12_look_39 ?_
        refine G_icmp_ne (tgt := 48) C dX12_look_40 (by decide) ⟨h.1, (by decide)⟩ (fun q => ?_) (fun q => ?_)
        · have h := h.2.1 q
          refine G_iload_n C dX12_look_48 rfl ?_
          refine G_iconst C dX12_look_49 ?_
          refine G_icmp_ne (tgt := 58) C dX12_look_50 (by decide) ⟨h.1, (by decide)⟩ (fun q => ?_) (fun q => ?_)
          · have h := h.2.1 q
            refine G_iload_n C dX12_look_58 rfl ?_
            refine G_iconst C dX12_look_59 ?_
            refine G_icmp_ne (tgt := 68) C dX12_look_60 (by decide) ⟨h.1, (by decide)⟩ (fun q => ?_) (fun q => ?_)
            · have h := h.2.1 q
              refine G_iload_n C dX12_look_68 rfl ?_
              refine G_bipush C dX12_look_69 bi_6 ?_
              refine G_icmp_ne (tgt := 79) C dX12_look_71 (by decide) ⟨h.1, (by decide)⟩ (fun q => ?_) (fun q => ?_)
              · have h := h.2.1 q
                refine G_aload_n C dX12_look_79 rfl ?_
                refine G_iload_n C dX12_look_80 rfl ?_
                refine G_bipush C dX12_look_81 bi_10 ?_
                refine G_bipush C dX12_look_83 bi_9 ?_
                refine G_aload_n C dX12_look_85 rfl ?_
                refine gI_X12_9 C ly_75 rfl wf_X12_25 dX12_look_86 ?_
                refine G_iadd C dX12_look_89 ?_
                refine G_callVI (K := []) (args := [.inl v1, .inl 10, .inl (9 + (s2 75 9))]) (T := TX12) (N := 72) C ly_75 rfl (Nat.le_of_ble_eq_true rfl) mo_X12_isIn wc_X12_160 rfl dX12_look_90 h (fun r3 s3 h => ?_)
                refine G_if_eq (tgt := 106) C dX12_look_93 (by decide) h.1 (fun q => ?_) (fun q => ?_)
                · have h := h.2.1 q
                  refine G_aload_n C dX12_look_106 rfl ?_
                  refine G_iload_n C dX12_look_107 rfl ?_
                  refine G_bipush C dX12_look_108 bi_20 ?_
                  refine G_bipush C dX12_look_110 bi_26 ?_
                  refine G_callVI (K := []) (args := [.inl v1, .inl 20, .inl 26]) (T := TX12) (N := 72) C ly_75 rfl (Nat.le_of_ble_eq_true rfl) mo_X12_isIn wc_X12_160 rfl dX12_look_112 h (fun r4 s4 h => ?_)
                  refine G_if_eq (tgt := 130) C dX12_look_115 (by decide) h.1 (fun q => ?_) (fun q => ?_)
                  · have h := h.2.1 q
                    refine G_iconst C dX12_look_130 ?_
                    exact r _ _ _ _ dX12_look_131 h
                  · have h := h.2.2 q
                    refine G_aload_n C dX12_look_118 rfl ?_
                    refine gR_X12_11 C ly_75 rfl wf_X12_32 dX12_look_119 ?_
                    refine G_iload_n C dX12_look_122 rfl ?_
                    refine G_bipush C dX12_look_123 bi_20 ?_
                    refine G_isub C dX12_look_125 ?_
                    refine G_iald C ly_82 (by decide) h.1 dX12_look_126 ?_
                    have h := h.2
                    refine G_goto (tgt := 131) C dX12_look_127 (by decide) ?_
                    exact r _ _ _ _ dX12_look_131 h
                · have h := h.2.2 q
                  refine G_aload_n C dX12_look_96 rfl ?_
                  refine gR_X12_10 C ly_75 rfl wf_X12_29 dX12_look_97 ?_
                  refine G_iload_n C dX12_look_100 rfl ?_
                  refine G_bipush C dX12_look_101 bi_10 ?_
                  refine G_isub C dX12_look_103 ?_
                  refine G_iald C ly_81 (by decide) h.1 dX12_look_104 ?_
                  have h := h.2
                  exact r _ _ _ _ dX12_look_105 h
              · have h := h.2.2 q
                refine G_aload_n C dX12_look_74 rfl ?_
                refine gI_X12_1 C ly_75 rfl wf_X12_149 dX12_look_75 ?_
                exact r _ _ _ _ dX12_look_78 h
            · have h := h.2.2 q
              refine G_aload_n C dX12_look_63 rfl ?_
              refine gI_X12_21 C ly_75 rfl wf_X12_177 dX12_look_64 ?_
              exact r _ _ _ _ dX12_look_67 h
          · have h := h.2.2 q
            refine G_aload_n C dX12_look_53 rfl ?_
            refine gI_X12_30 C ly_75 rfl wf_X12_180 dX12_look_54 ?_
            exact r _ _ _ _ dX12_look_57 h
        · have h := h.2.2 q
          refine G_aload_n C dX12_look_43 rfl ?_
          refine gI_X12_18 C ly_75 rfl wf_X12_174 dX12_look_44 ?_
          exact r _ _ _ _ dX12_look_47 h
      · have h := h.2.2 q
        refine G_aload_n C dX12_look_33 rfl ?_
        refine gI_X12_8 C ly_75 rfl wf_X12_171 dX12_look_34 ?_
        exact r _ _ _ _ dX12_look_37 h
    · have h := h.2.2 q
      refine G_aload_n C dX12_look_23 rfl ?_
      refine gI_X12_4 C ly_75 rfl wf_X12_154 dX12_look_24 ?_
      exact r _ _ _ _ dX12_look_27 h
  · have h := h.2.2 q
    refine G_aload_n C dX12_look_13 rfl ?_
    refine gI_X12_9 C ly_75 rfl wf_X12_25 dX12_look_14 ?_
    exact r _ _ _ _ dX12_look_17 h
set_option maxRecDepth 20000 in
theorem kb_X2_beginAnew_0 {X : Cx} {d : Nat} {P : Sto → Prop} (C : Ok LY X RX2 cX2_beginAnew 3 d) (r : RetV LY X cX2_beginAnew P) (h1d : 1 ≤ d) {v1 : Int} {s : Sto} (h : (∀ s1 : Sto, s1 = up s 3 0 v1 → (CallI LY d MX5_plainOrder [.inl v1] s1 (fun r2 s2 => (∀ s3 : Sto, s3 = up s2 3 2 r2 → (∀ s4 : Sto, s4 = up s3 3 3 0 → (∀ s5 : Sto, s5 = up s4 5 0 0 → (∀ s6 : Sto, s6 = up s5 3 9 0 → (∀ s7 : Sto, s7 = up s6 3 11 0 → (CallV LY d MX4_clear [.inr 17] s7 (fun s8 => (∀ s9 : Sto, s9 = cpyF s8 4 → G LY X 59 [rv 3, iv v1, iv 0] [] s9)))))))))))) : G LY X 0 [rv 3, iv v1, none] [] s := by
  refine G_aload_n C dX2_beginAnew_0 rfl ?_
  refine G_iload_n C dX2_beginAnew_1 rfl ?_
  refine gP_X2_0 C ly_3 rfl wf_X2_58 dX2_beginAnew_2 ?_
  have h := h _ rfl
  obtain ⟨s1, e1⟩ : ∃ z, z = up s 3 0 v1 := ⟨_, rfl⟩
  rw [← e1] at h ⊢
  refine G_aload_n C dX2_beginAnew_5 rfl ?_
  refine G_iload_n C dX2_beginAnew_6 rfl ?_
  refine G_callSI (K := [.inr 3]) (args := [.inl v1]) C (Nat.le_of_ble_eq_true rfl) mo_X5_plainOrder wc_X2_61 rfl dX2_beginAnew_7 h (fun r2 s2 h => ?_)
  refine gP_X2_2 C ly_3 rfl wf_X2_67 dX2_beginAnew_10 ?_
  have h := h _ rfl
  obtain ⟨s3, e3⟩ : ∃ z, z = up s2 3 2 r2 := ⟨_, rfl⟩
  rw [← e3] at h ⊢
  refine G_aload_n C dX2_beginAnew_13 rfl ?_
  refine G_iconst C dX2_beginAnew_14 ?_
  refine gP_X2_3 C ly_3 rfl wf_X2_70 dX2_beginAnew_15 ?_
  have h := h _ rfl
  obtain ⟨s4, e4⟩ : ∃ z, z = up s3 3 3 0 := ⟨_, rfl⟩
  rw [← e4] at h ⊢
  refine G_aload_n C dX2_beginAnew_18 rfl ?_
  refine gR_X2_5 C ly_3 rfl wf_X2_18 dX2_beginAnew_19 ?_
  refine G_iconst C dX2_beginAnew_22 ?_
  refine gP_X6_0 C ly_5 rfl wf_X2_73 dX2_beginAnew_23 ?_
  have h := h _ rfl
  obtain ⟨s5, e5⟩ : ∃ z, z = up s4 5 0 0 := ⟨_, rfl⟩
  rw [← e5] at h ⊢
  refine G_aload_n C dX2_beginAnew_26 rfl ?_
  refine G_iconst C dX2_beginAnew_27 ?_
  refine gP_X2_9 C ly_3 rfl wf_X2_76 dX2_beginAnew_28 ?_
  have h := h _ rfl
  obtain ⟨s6, e6⟩ : ∃ z, z = up s5 3 9 0 := ⟨_, rfl⟩
  rw [← e6] at h ⊢
  refine G_aload_n C dX2_beginAnew_31 rfl ?_
  refine G_iconst C dX2_beginAnew_32 ?_
  refine gP_X2_11 C ly_3 rfl wf_X2_79 dX2_beginAnew_33 ?_
  have h := h _ rfl
  obtain ⟨s7, e7⟩ : ∃ z, z = up s6 3 11 0 := ⟨_, rfl⟩
  rw [← e7] at h ⊢
  refine G_aload_n C dX2_beginAnew_36 rfl ?_
  refine gR_X2_15 C ly_3 rfl wf_X2_46 dX2_beginAnew_37 ?_
  refine G_callVV (K := []) (args := []) (T := TX4) (N := 5) C ly_17 rfl (Nat.le_of_ble_eq_true rfl) mo_X4_clear wc_X2_82 rfl dX2_beginAnew_40 h (fun s8 h => ?_)
  refine G_getsF C dX2_beginAnew_43 ?_
  refine G_iconst C dX2_beginAnew_46 ?_
  refine G_aload_n C dX2_beginAnew_47 rfl ?_
  refine gR_X2_4 C ly_3 rfl wf_X2_9 dX2_beginAnew_48 ?_
  refine G_iconst C dX2_beginAnew_51 ?_
  refine G_bipush C dX2_beginAnew_52 bi_7 ?_
  refine G_copyF C ly_4 (by decide) h1d (Nat.le_of_ble_eq_true rfl) ws_244 arw dX2_beginAnew_54 ?_
  have h := h _ rfl
  obtain ⟨s9, e9⟩ : ∃ z, z = cpyF s8 4 := ⟨_, rfl⟩
  rw [← e9] at h ⊢
  refine G_iconst C dX2_beginAnew_57 ?_
  refine G_istore_n (L' := [rv 3, iv v1, iv 0]) C dX2_beginAnew_58 (by decide) rfl ?_
  exact h
set_option maxRecDepth 20000 in
theorem kb_X2_beginAnew_59 {X : Cx} {d : Nat} {P : Sto → Prop} (C : Ok LY X RX2 cX2_beginAnew 3 d) (r : RetV LY X cX2_beginAnew P) {v1 v2 : Int} {s : Sto} (h : ((rg v2) ∧ ((24 ≤ v2 → G LY X 83 [rv 3, iv v1, iv 0] [] s) ∧ (v2 < 24 → ((0 ≤ v2 ∧ v2 < 24) ∧ (∀ s1 : Sto, s1 = up s 10 v2 0 → G LY X 59 [rv 3, iv v1, iv (v2 + 1)] [] s1)))))) : G LY X 59 [rv 3, iv v1, iv v2] [] s := by
  refine G_iload_n C dX2_beginAnew_59 rfl ?_
  refine G_aload_n C dX2_beginAnew_60 rfl ?_
  refine gR_X2_6 C ly_3 rfl wf_X2_22 dX2_beginAnew_61 ?_
  refine G_alen C ly_10 dX2_beginAnew_64 ?_
  refine G_top (b := 24) rfl ?_
  refine G_icmp_ge (tgt := 81) C dX2_beginAnew_65 (by decide) ⟨h.1, (by decide)⟩ (fun q => ?_) (fun q => ?_)
  · have h := h.2.1 q
    refine G_iconst C dX2_beginAnew_81 ?_
    refine G_istore_n (L' := [rv 3, iv v1, iv 0]) C dX2_beginAnew_82 (by decide) rfl ?_
    exact h
  · have h := h.2.2 q
    refine G_aload_n C dX2_beginAnew_68 rfl ?_
    refine gR_X2_6 C ly_3 rfl wf_X2_22 dX2_beginAnew_69 ?_
    refine G_iload_n C dX2_beginAnew_72 rfl ?_
    refine G_iconst C dX2_beginAnew_73 ?_
    refine G_iast C ly_10 (by decide) h.1 dX2_beginAnew_74 ?_
    have h := h.2
    have h := h _ rfl
    obtain ⟨s1, e1⟩ : ∃ z, z = up s 10 v2 0 := ⟨_, rfl⟩
    rw [← e1] at h ⊢
    refine G_iinc (L' := [rv 3, iv v1, iv (v2 + 1)]) C dX2_beginAnew_75 (by decide) rfl rfl ?_
    refine G_goto (tgt := 59) C dX2_beginAnew_78 (by decide) ?_
    exact h
set_option maxRecDepth 20000 in
theorem kb_X2_beginAnew_83 {X : Cx} {d : Nat} {P : Sto → Prop} (C : Ok LY X RX2 cX2_beginAnew 3 d) (r : RetV LY X cX2_beginAnew P) {v1 v2 : Int} {s : Sto} (h : ((rg v2) ∧ ((6 ≤ v2 → P s) ∧ (v2 < 6 → ((0 ≤ v2 ∧ v2 < 6) ∧ (∀ s1 : Sto, s1 = up s 11 v2 (-1) → ((0 ≤ v2 ∧ v2 < 6) ∧ (∀ s2 : Sto, s2 = up s1 12 v2 0 → G LY X 83 [rv 3, iv v1, iv (v2 + 1)] [] s2)))))))) : G LY X 83 [rv 3, iv v1, iv v2] [] s := by
  refine G_iload_n C dX2_beginAnew_83 rfl ?_
  refine G_bipush C dX2_beginAnew_84 bi_6 ?_
  refine G_icmp_ge (tgt := 109) C dX2_beginAnew_86 (by decide) ⟨h.1, (by decide)⟩ (fun q => ?_) (fun q => ?_)
  · have h := h.2.1 q
    exact r _ _ _ dX2_beginAnew_109 h
  · have h := h.2.2 q
    refine G_aload_n C dX2_beginAnew_89 rfl ?_
    refine gR_X2_7 C ly_3 rfl wf_X2_25 dX2_beginAnew_90 ?_
    refine G_iload_n C dX2_beginAnew_93 rfl ?_
    refine G_iconst C dX2_beginAnew_94 ?_
    refine G_iast C ly_11 (by decide) h.1 dX2_beginAnew_95 ?_
    have h := h.2
    have h := h _ rfl
    obtain ⟨s1, e1⟩ : ∃ z, z = up s 11 v2 (-1) := ⟨_, rfl⟩
    rw [← e1] at h ⊢
    refine G_aload_n C dX2_beginAnew_96 rfl ?_
    refine gR_X2_8 C ly_3 rfl wf_X2_28 dX2_beginAnew_97 ?_
    refine G_iload_n C dX2_beginAnew_100 rfl ?_
    refine G_iconst C dX2_beginAnew_101 ?_
    refine G_iast C ly_12 (by decide) h.1 dX2_beginAnew_102 ?_
    have h := h.2
    have h := h _ rfl
    obtain ⟨s2, e2⟩ : ∃ z, z = up s1 12 v2 0 := ⟨_, rfl⟩
    rw [← e2] at h ⊢
    refine G_iinc (L' := [rv 3, iv v1, iv (v2 + 1)]) C dX2_beginAnew_103 (by decide) rfl rfl ?_
    refine G_goto (tgt := 83) C dX2_beginAnew_106 (by decide) ?_
    exact h
set_option maxRecDepth 20000 in
theorem kb_X9_add_0 {X : Cx} {d : Nat} {P : Sto → Prop} (C : Ok LY X RX9 cX9_add 3 d) (r : RetV LY X cX9_add P) {v1 : Int} {s : Sto} (h : G LY X 3 [rv 1, iv v1, iv 24] [] s) : G LY X 0 [rv 1, iv v1, none] [] s := by
  refine G_bipush C dX9_add_0 bi_24 ?_
  refine G_istore_n (L' := [rv 1, iv v1, iv 24]) C dX9_add_2 (by decide) rfl ?_
  exact h
set_option maxRecDepth 20000 in
theorem kb_X9_add_3 {X : Cx} {d : Nat} {P : Sto → Prop} (C : Ok LY X RX9 cX9_add 3 d) (r : RetV LY X cX9_add P) {v1 v2 : Int} {s : Sto} (h : ((rg v2) ∧ ((v2 < 0 → P s) ∧ (0 ≤ v2 → ((rg (s 1 1)) ∧ ((400 ≤ (s 1 1) → P s) ∧ ((s 1 1) < 400 → ((0 ≤ (s 1 1) ∧ (s 1 1) < 400) ∧ (∀ s1 : Sto, s1 = up s 2 (s 1 1) (xand (xushr v1 v2) 255) → (∀ s2 : Sto, s2 = up s1 1 1 ((s1 1 1) + 1) → G LY X 3 [rv 1, iv v1, iv (v2 + (-8))] [] s2)))))))))) : G LY X 3 [rv 1, iv v1, iv v2] [] s := by
  refine G_iload_n C dX9_add_3 rfl ?_
  refine G_if_lt (tgt := 49) C dX9_add_4 (by decide) h.1 (fun q => ?_) (fun q => ?_)
  · have h := h.2.1 q
    exact r _ _ _ dX9_add_49 h
  · have h := h.2.2 q
    refine G_aload_n C dX9_add_7 rfl ?_
    refine gI_X9_1 C ly_1 rfl wf_X9_15 dX9_add_8 ?_
    refine G_sipush C dX9_add_11 si_400 ?_
    refine G_icmp_ge (tgt := 49) C dX9_add_14 (by decide) ⟨h.1, (by decide)⟩ (fun q => ?_) (fun q => ?_)
    · have h := h.2.1 q
      exact r _ _ _ dX9_add_49 h
    · have h := h.2.2 q
      refine G_aload_n C dX9_add_17 rfl ?_
      refine gR_X9_0 C ly_1 rfl wf_X9_9 dX9_add_18 ?_
      refine G_aload_n C dX9_add_21 rfl ?_
      refine gI_X9_1 C ly_1 rfl wf_X9_15 dX9_add_22 ?_
      refine G_iload_n C dX9_add_25 rfl ?_
      refine G_iload_n C dX9_add_26 rfl ?_
      refine G_iushr C dX9_add_27 ?_
      refine G_sipush C dX9_add_28 si_255 ?_
      refine G_iand C dX9_add_31 ?_
      refine G_iast C ly_2 (by decide) h.1 dX9_add_32 ?_
      have h := h.2
      have h := h _ rfl
      obtain ⟨s1, e1⟩ : ∃ z, z = up s 2 (s 1 1) (xand (xushr v1 v2) 255) := ⟨_, rfl⟩
      rw [← e1] at h ⊢
      refine G_aload_n C dX9_add_33 rfl ?_
      refine G_dup C dX9_add_34 ?_
      refine gI_X9_1 C ly_1 rfl wf_X9_15 dX9_add_35 ?_
      refine G_iconst C dX9_add_38 ?_
      refine G_iadd C dX9_add_39 ?_
      refine gP_X9_1 C ly_1 rfl wf_X9_15 dX9_add_40 ?_
      have h := h _ rfl
      obtain ⟨s2, e2⟩ : ∃ z, z = up s1 1 1 ((s1 1 1) + 1) := ⟨_, rfl⟩
      rw [← e2] at h ⊢
      refine G_iinc (L' := [rv 1, iv v1, iv (v2 + (-8))]) C dX9_add_43 (by decide) rfl rfl ?_
      refine G_goto (tgt := 3) C dX9_add_46 (by decide) ?_
      exact h
set_option maxRecDepth 20000 in
theorem kb_X8_read_0 {X : Cx} {d : Nat} {P : Int → Sto → Prop} (C : Ok LY X RX8 cX8_read 3 d) (r : RetZ LY X cX8_read P) {s : Sto} (h : (CallV LY d MX8_split [.inr 39, .inr 1] s (fun s1 => (CallV LY d MX4_clear [.inr 42] s1 (fun s2 => (∀ s3 : Sto, s3 = up s2 39 3 0 → (∀ s4 : Sto, s4 = up s3 39 4 0 → (∀ s5 : Sto, s5 = up s4 39 5 (-1) → G LY X 29 [rv 39, rv 1, iv 0] [] s5)))))))) : G LY X 0 [rv 39, rv 1, none] [] s := by
  refine G_aload_n C dX8_read_0 rfl ?_
  refine G_aload_n C dX8_read_1 rfl ?_
  refine G_callVV (K := []) (args := [.inr 1]) (T := TX8) (N := 6) C ly_39 rfl (Nat.le_of_ble_eq_true rfl) mo_X8_split wc_X8_35 rfl dX8_read_2 h (fun s1 h => ?_)
  refine G_aload_n C dX8_read_5 rfl ?_
  refine gR_X8_2 C ly_39 rfl wf_X8_21 dX8_read_6 ?_
  refine G_callVV (K := []) (args := []) (T := TX4) (N := 5) C ly_42 rfl (Nat.le_of_ble_eq_true rfl) mo_X4_clear wc_X8_39 rfl dX8_read_9 h (fun s2 h => ?_)
  refine G_aload_n C dX8_read_12 rfl ?_
  refine G_iconst C dX8_read_13 ?_
  refine gP_X8_3 C ly_39 rfl wf_X8_25 dX8_read_14 ?_
  have h := h _ rfl
  obtain ⟨s3, e3⟩ : ∃ z, z = up s2 39 3 0 := ⟨_, rfl⟩
  rw [← e3] at h ⊢
  refine G_aload_n C dX8_read_17 rfl ?_
  refine G_iconst C dX8_read_18 ?_
  refine gP_X8_4 C ly_39 rfl wf_X8_29 dX8_read_19 ?_
  have h := h _ rfl
  obtain ⟨s4, e4⟩ : ∃ z, z = up s3 39 4 0 := ⟨_, rfl⟩
  rw [← e4] at h ⊢
  refine G_aload_n C dX8_read_22 rfl ?_
  refine G_iconst C dX8_read_23 ?_
  refine gP_X8_5 C ly_39 rfl wf_X8_32 dX8_read_24 ?_
  have h := h _ rfl
  obtain ⟨s5, e5⟩ : ∃ z, z = up s4 39 5 (-1) := ⟨_, rfl⟩
  rw [← e5] at h ⊢
  refine G_iconst C dX8_read_27 ?_
  refine G_istore_n (L' := [rv 39, rv 1, iv 0]) C dX8_read_28 (by decide) rfl ?_
  exact h
set_option maxRecDepth 20000 in
theorem kb_X8_read_29 {X : Cx} {d : Nat} {P : Int → Sto → Prop} (C : Ok LY X RX8 cX8_read 3 d) (r : RetZ LY X cX8_read P) {v2 : Int} {s : Sto} (h : ((rg v2) ∧ ((400 ≤ v2 → P 1 s) ∧ (v2 < 400 → ((0 ≤ (s 39 3) ∧ (s 39 3) < 401) ∧ ((rg (s 40 (s 39 3))) ∧ (((s 40 (s 39 3)) = 10200 → P 1 s) ∧ ((s 40 (s 39 3)) ≠ 10200 → (CallI LY d MX8_readLine [.inr 39] s (fun r1 s1 => ((rg r1) ∧ ((r1 ≠ 0 → G LY X 29 [rv 39, rv 1, iv (v2 + 1)] [] s1) ∧ (r1 = 0 → P 0 s1))))))))))))) : G LY X 29 [rv 39, rv 1, iv v2] [] s := by
  refine G_iload_n C dX8_read_29 rfl ?_
  refine G_sipush C dX8_read_30 si_400 ?_
  refine G_icmp_ge (tgt := 66) C dX8_read_33 (by decide) ⟨h.1, (by decide)⟩ (fun q => ?_) (fun q => ?_)
  · have h := h.2.1 q
    refine G_iconst C dX8_read_66 ?_
    exact r _ _ _ _ dX8_read_67 (by decide) h
  · have h := h.2.2 q
    refine G_aload_n C dX8_read_36 rfl ?_
    refine gR_X8_0 C ly_39 rfl wf_X8_9 dX8_read_37 ?_
    refine G_aload_n C dX8_read_40 rfl ?_
    refine gI_X8_3 C ly_39 rfl wf_X8_25 dX8_read_41 ?_
    refine G_iald C ly_40 (by decide) h.1 dX8_read_44 ?_
    have h := h.2
    refine G_sipush C dX8_read_45 si_10200 ?_
    refine G_icmp_eq (tgt := 66) C dX8_read_48 (by decide) ⟨h.1, (by decide)⟩ (fun q => ?_) (fun q => ?_)
    · have h := h.2.1 q
      refine G_iconst C dX8_read_66 ?_
      exact r _ _ _ _ dX8_read_67 (by decide) h
    · have h := h.2.2 q
      refine G_aload_n C dX8_read_51 rfl ?_
      refine G_callVI (K := []) (args := []) (T := TX8) (N := 6) C ly_39 rfl (Nat.le_of_ble_eq_true rfl) mo_X8_readLine wc_X8_42 rfl dX8_read_52 h (fun r1 s1 h => ?_)
      refine G_if_ne (tgt := 60) C dX8_read_55 (by decide) h.1 (fun q => ?_) (fun q => ?_)
      · have h := h.2.1 q
        refine G_iinc (L' := [rv 39, rv 1, iv (v2 + 1)]) C dX8_read_60 (by decide) rfl rfl ?_
        refine G_goto (tgt := 29) C dX8_read_63 (by decide) ?_
        exact h
      · have h := h.2.2 q
        refine G_iconst C dX8_read_58 ?_
        exact r _ _ _ _ dX8_read_59 (by decide) h
set_option maxRecDepth 20000 in
theorem kb_X4_copyFrom_0 {X : Cx} {d : Nat} {P : Sto → Prop} (C : Ok LY X RX4 cX4_copyFrom 2 d) (r : RetV LY X cX4_copyFrom P) (h1d : 1 ≤ d) {s : Sto} (h : (∀ s1 : Sto, s1 = up s 17 0 (s 42 0) → (∀ s2 : Sto, s2 = up s1 17 1 (s1 42 1) → (∀ s3 : Sto, s3 = cpy s2 43 18 0 0 16 → (∀ s4 : Sto, s4 = cpy s3 44 19 0 0 16 → ((((0 : Int) ≤ 0 ∧ (0 : Int) ≤ 0 ∧ (0 : Int) ≤ (s4 17 1)) ∧ 0 + (s4 17 1) ≤ ((400 : Nat) : Int) ∧ 0 + (s4 17 1) ≤ ((400 : Nat) : Int)) ∧ (∀ s5 : Sto, s5 = cpy s4 45 20 0 0 (s4 17 1) → P s5))))))) : G LY X 0 [rv 17, rv 42] [] s := by
  refine G_aload_n C dX4_copyFrom_0 rfl ?_
  refine G_aload_n C dX4_copyFrom_1 rfl ?_
  refine gI_X4_0 C ly_42 rfl wf_X4_9 dX4_copyFrom_2 ?_
  refine gP_X4_0 C ly_17 rfl wf_X4_9 dX4_copyFrom_5 ?_
  have h := h _ rfl
  obtain ⟨s1, e1⟩ : ∃ z, z = up s 17 0 (s 42 0) := ⟨_, rfl⟩
  rw [← e1] at h ⊢
  refine G_aload_n C dX4_copyFrom_8 rfl ?_
  refine G_aload_n C dX4_copyFrom_9 rfl ?_
  refine gI_X4_1 C ly_42 rfl wf_X4_15 dX4_copyFrom_10 ?_
  refine gP_X4_1 C ly_17 rfl wf_X4_15 dX4_copyFrom_13 ?_
  have h := h _ rfl
  obtain ⟨s2, e2⟩ : ∃ z, z = up s1 17 1 (s1 42 1) := ⟨_, rfl⟩
  rw [← e2] at h ⊢
  refine G_aload_n C dX4_copyFrom_16 rfl ?_
  refine gR_X4_2 C ly_42 rfl wf_X4_18 dX4_copyFrom_17 ?_
  refine G_iconst C dX4_copyFrom_20 ?_
  refine G_aload_n C dX4_copyFrom_21 rfl ?_
  refine gR_X4_2 C ly_17 rfl wf_X4_18 dX4_copyFrom_22 ?_
  refine G_iconst C dX4_copyFrom_25 ?_
  refine G_bipush C dX4_copyFrom_26 bi_16 ?_
  refine G_copy C ly_43 ly_18 (by decide) (by decide) h1d (Nat.le_of_ble_eq_true rfl) ws_751 arw dX4_copyFrom_28 ?_
  have h := h _ rfl
  obtain ⟨s3, e3⟩ : ∃ z, z = cpy s2 43 18 0 0 16 := ⟨_, rfl⟩
  rw [← e3] at h ⊢
  refine G_aload_n C dX4_copyFrom_31 rfl ?_
  refine gR_X4_3 C ly_42 rfl wf_X4_22 dX4_copyFrom_32 ?_
  refine G_iconst C dX4_copyFrom_35 ?_
  refine G_aload_n C dX4_copyFrom_36 rfl ?_
  refine gR_X4_3 C ly_17 rfl wf_X4_22 dX4_copyFrom_37 ?_
  refine G_iconst C dX4_copyFrom_40 ?_
  refine G_bipush C dX4_copyFrom_41 bi_16 ?_
  refine G_copy C ly_44 ly_19 (by decide) (by decide) h1d (Nat.le_of_ble_eq_true rfl) ws_751 arw dX4_copyFrom_43 ?_
  have h := h _ rfl
  obtain ⟨s4, e4⟩ : ∃ z, z = cpy s3 44 19 0 0 16 := ⟨_, rfl⟩
  rw [← e4] at h ⊢
  refine G_aload_n C dX4_copyFrom_46 rfl ?_
  refine gR_X4_4 C ly_42 rfl wf_X4_25 dX4_copyFrom_47 ?_
  refine G_iconst C dX4_copyFrom_50 ?_
  refine G_aload_n C dX4_copyFrom_51 rfl ?_
  refine gR_X4_4 C ly_17 rfl wf_X4_25 dX4_copyFrom_52 ?_
  refine G_iconst C dX4_copyFrom_55 ?_
  refine G_aload_n C dX4_copyFrom_56 rfl ?_
  refine gI_X4_1 C ly_17 rfl wf_X4_15 dX4_copyFrom_57 ?_
  refine G_copy C ly_45 ly_20 (by decide) h.1 h1d (Nat.le_of_ble_eq_true rfl) ws_751 arw dX4_copyFrom_60 ?_
  have h := h.2
  have h := h _ rfl
  obtain ⟨s5, e5⟩ : ∃ z, z = cpy s4 45 20 0 0 (s4 17 1) := ⟨_, rfl⟩
  rw [← e5] at h ⊢
  exact r _ _ _ dX4_copyFrom_63 h
set_option maxRecDepth 20000 in
theorem kb_X9_nameOnce_0 {X : Cx} {d : Nat} {P : Int → Sto → Prop} (C : Ok LY X RX9 cX9_nameOnce 4 d) (r : RetI LY X cX9_nameOnce P) {s : Sto} (h : (∀ s1 : Sto, s1 = up s 1 1 0 → ((rg (s 1 1)) ∧ (((s 1 1) ≤ 6 → G LY X 22 [rv 1, iv (s 1 1), iv 0, iv 0] [] s1) ∧ (6 < (s 1 1) → P (-1) s1))))) : G LY X 0 [rv 1, none, none, none] [] s := by
  refine G_aload_n C dX9_nameOnce_0 rfl ?_
  refine gI_X9_1 C ly_1 rfl wf_X9_15 dX9_nameOnce_1 ?_
  refine G_istore_n (L' := [rv 1, iv (s 1 1), none, none]) C dX9_nameOnce_4 (by decide) rfl ?_
  refine G_aload_n C dX9_nameOnce_5 rfl ?_
  refine G_iconst C dX9_nameOnce_6 ?_
  refine gP_X9_1 C ly_1 rfl wf_X9_15 dX9_nameOnce_7 ?_
  have h := h _ rfl
  obtain ⟨s1, e1⟩ : ∃ z, z = up s 1 1 0 := ⟨_, rfl⟩
  rw [← e1] at h ⊢
  refine G_iload_n C dX9_nameOnce_10 rfl ?_
  refine G_bipush C dX9_nameOnce_11 bi_6 ?_
  refine G_icmp_le (tgt := 18) C dX9_nameOnce_13 (by decide) ⟨h.1, (by decide)⟩ (fun q => ?_) (fun q => ?_)
  · have h := h.2.1 q
    refine G_iconst C dX9_nameOnce_18 ?_
    refine G_istore_n (L' := [rv 1, iv (s 1 1), iv 0, none]) C dX9_nameOnce_19 (by decide) rfl ?_
    refine G_iconst C dX9_nameOnce_20 ?_
    refine G_istore_n (L' := [rv 1, iv (s 1 1), iv 0, iv 0]) C dX9_nameOnce_21 (by decide) rfl ?_
    exact h
  · have h := h.2.2 q
    refine G_iconst C dX9_nameOnce_16 ?_
    exact r _ _ _ _ dX9_nameOnce_17 h
set_option maxRecDepth 20000 in
theorem kb_X9_nameOnce_22 {X : Cx} {d : Nat} {P : Int → Sto → Prop} (C : Ok LY X RX9 cX9_nameOnce 4 d) (r : RetI LY X cX9_nameOnce P) {v1 v2 v3 : Int} {s : Sto} (h : ((rg v3 ∧ rg v1) ∧ ((v1 ≤ v3 → P v2 s) ∧ (v3 < v1 → ((0 ≤ v3 ∧ v3 < 400) ∧ (CallI LY d MX9_isSmallLetter [.inl (s 2 v3)] s (fun r1 s1 => ((rg r1) ∧ ((r1 ≠ 0 → ((0 ≤ v3 ∧ v3 < 400) ∧ (CallI LY d MX5_nameGroup [.inl (((s1 2 v3) - 97) + 1), .inl v3] s1 (fun r2 s2 => G LY X 22 [rv 1, iv v1, iv (xor_ v2 r2), iv (v3 + 1)] [] s2)))) ∧ (r1 = 0 → P (-1) s1)))))))))) : G LY X 22 [rv 1, iv v1, iv v2, iv v3] [] s := by
  refine G_iload_n C dX9_nameOnce_22 rfl ?_
  refine G_iload_n C dX9_nameOnce_23 rfl ?_
  refine G_icmp_ge (tgt := 65) C dX9_nameOnce_24 (by decide) ⟨h.1.1, h.1.2⟩ (fun q => ?_) (fun q => ?_)
  · have h := h.2.1 q
    refine G_iload_n C dX9_nameOnce_65 rfl ?_
    exact r _ _ _ _ dX9_nameOnce_66 h
  · have h := h.2.2 q
    refine G_aload_n C dX9_nameOnce_27 rfl ?_
    refine gR_X9_0 C ly_1 rfl wf_X9_9 dX9_nameOnce_28 ?_
    refine G_iload_n C dX9_nameOnce_31 rfl ?_
    refine G_iald C ly_2 (by decide) h.1 dX9_nameOnce_32 ?_
    have h := h.2
    refine G_callSI (K := []) (args := [.inl (s 2 v3)]) C (Nat.le_of_ble_eq_true rfl) mo_X9_isSmallLetter wc_X9_19 rfl dX9_nameOnce_33 h (fun r1 s1 h => ?_)
    refine G_if_ne (tgt := 41) C dX9_nameOnce_36 (by decide) h.1 (fun q => ?_) (fun q => ?_)
    · have h := h.2.1 q
      refine G_iload_n C dX9_nameOnce_41 rfl ?_
      refine G_aload_n C dX9_nameOnce_42 rfl ?_
      refine gR_X9_0 C ly_1 rfl wf_X9_9 dX9_nameOnce_43 ?_
      refine G_iload_n C dX9_nameOnce_46 rfl ?_
      refine G_iald C ly_2 (by decide) h.1 dX9_nameOnce_47 ?_
      have h := h.2
      refine G_bipush C dX9_nameOnce_48 bi_97 ?_
      refine G_isub C dX9_nameOnce_50 ?_
      refine G_iconst C dX9_nameOnce_51 ?_
      refine G_iadd C dX9_nameOnce_52 ?_
      refine G_iload_n C dX9_nameOnce_53 rfl ?_
      refine G_callSI (K := [.inl v2]) (args := [.inl (((s1 2 v3) - 97) + 1), .inl v3]) C (Nat.le_of_ble_eq_true rfl) mo_X5_nameGroup wc_X9_23 rfl dX9_nameOnce_54 h (fun r2 s2 h => ?_)
      refine G_ior C dX9_nameOnce_57 ?_
      refine G_istore_n (L' := [rv 1, iv v1, iv (xor_ v2 r2), iv v3]) C dX9_nameOnce_58 (by decide) rfl ?_
      refine G_iinc (L' := [rv 1, iv v1, iv (xor_ v2 r2), iv (v3 + 1)]) C dX9_nameOnce_59 (by decide) rfl rfl ?_
      refine G_goto (tgt := 22) C dX9_nameOnce_62 (by decide) ?_
      exact h
    · have h := h.2.2 q
      refine G_iconst C dX9_nameOnce_39 ?_
      exact r _ _ _ _ dX9_nameOnce_40 h
set_option maxRecDepth 20000 in
theorem kb_X6_add_0 {X : Cx} {d : Nat} {P : Int → Sto → Prop} (C : Ok LY X RX6 cX6_add 5 d) (r : RetI LY X cX6_add P) {v1 v2 v3 v4 : Int} {s : Sto} (h : ((rg (s 5 0)) ∧ (((s 5 0) < 20 → ((0 ≤ (s 5 0) ∧ (s 5 0) < 20) ∧ (∀ s1 : Sto, s1 = up s 6 (s 5 0) v1 → ((0 ≤ (s1 5 0) ∧ (s1 5 0) < 20) ∧ (∀ s2 : Sto, s2 = up s1 7 (s1 5 0) v2 → ((0 ≤ (s2 5 0) ∧ (s2 5 0) < 20) ∧ (∀ s3 : Sto, s3 = up s2 8 (s2 5 0) v3 → ((0 ≤ (s3 5 0) ∧ (s3 5 0) < 20) ∧ (∀ s4 : Sto, s4 = up s3 9 (s3 5 0) v4 → (∀ s5 : Sto, s5 = up s4 5 0 ((s4 5 0) + 1) → P ((s5 5 0) - 1) s5)))))))))) ∧ (20 ≤ (s 5 0) → P (-1) s)))) : G LY X 0 [rv 5, iv v1, iv v2, iv v3, iv v4] [] s := by
  refine G_aload_n C dX6_add_0 rfl ?_
  refine gI_X6_0 C ly_5 rfl wf_X6_9 dX6_add_1 ?_
  refine G_bipush C dX6_add_4 bi_20 ?_
  refine G_icmp_lt (tgt := 11) C dX6_add_6 (by decide) ⟨h.1, (by decide)⟩ (fun q => ?_) (fun q => ?_)
  · have h := h.2.1 q
    refine G_aload_n C dX6_add_11 rfl ?_
    refine gR_X6_1 C ly_5 rfl wf_X6_15 dX6_add_12 ?_
    refine G_aload_n C dX6_add_15 rfl ?_
    refine gI_X6_0 C ly_5 rfl wf_X6_9 dX6_add_16 ?_
    refine G_iload_n C dX6_add_19 rfl ?_
    refine G_iast C ly_6 (by decide) h.1 dX6_add_20 ?_
    have h := h.2
    have h := h _ rfl
    obtain ⟨s1, e1⟩ : ∃ z, z = up s 6 (s 5 0) v1 := ⟨_, rfl⟩
    rw [← e1] at h ⊢
    refine G_aload_n C dX6_add_21 rfl ?_
    refine gR_X6_2 C ly_5 rfl wf_X6_19 dX6_add_22 ?_
    refine G_aload_n C dX6_add_25 rfl ?_
    refine gI_X6_0 C ly_5 rfl wf_X6_9 dX6_add_26 ?_
    refine G_iload_n C dX6_add_29 rfl ?_
    refine G_iast C ly_7 (by decide) h.1 dX6_add_30 ?_
    have h := h.2
    have h := h _ rfl
    obtain ⟨s2, e2⟩ : ∃ z, z = up s1 7 (s1 5 0) v2 := ⟨_, rfl⟩
    rw [← e2] at h ⊢
    refine G_aload_n C dX6_add_31 rfl ?_
    refine gR_X6_3 C ly_5 rfl wf_X6_22 dX6_add_32 ?_
    refine G_aload_n C dX6_add_35 rfl ?_
    refine gI_X6_0 C ly_5 rfl wf_X6_9 dX6_add_36 ?_
    refine G_iload_n C dX6_add_39 rfl ?_
    refine G_iast C ly_8 (by decide) h.1 dX6_add_40 ?_
    have h := h.2
    have h := h _ rfl
    obtain ⟨s3, e3⟩ : ∃ z, z = up s2 8 (s2 5 0) v3 := ⟨_, rfl⟩
    rw [← e3] at h ⊢
    refine G_aload_n C dX6_add_41 rfl ?_
    refine gR_X6_4 C ly_5 rfl wf_X6_25 dX6_add_42 ?_
    refine G_aload_n C dX6_add_45 rfl ?_
    refine gI_X6_0 C ly_5 rfl wf_X6_9 dX6_add_46 ?_
    refine G_iload C dX6_add_49 rfl ?_
    refine G_iast C ly_9 (by decide) h.1 dX6_add_51 ?_
    have h := h.2
    have h := h _ rfl
    obtain ⟨s4, e4⟩ : ∃ z, z = up s3 9 (s3 5 0) v4 := ⟨_, rfl⟩
    rw [← e4] at h ⊢
    refine G_aload_n C dX6_add_52 rfl ?_
    refine G_dup C dX6_add_53 ?_
    refine gI_X6_0 C ly_5 rfl wf_X6_9 dX6_add_54 ?_
    refine G_iconst C dX6_add_57 ?_
    refine G_iadd C dX6_add_58 ?_
    refine gP_X6_0 C ly_5 rfl wf_X6_9 dX6_add_59 ?_
    have h := h _ rfl
    obtain ⟨s5, e5⟩ : ∃ z, z = up s4 5 0 ((s4 5 0) + 1) := ⟨_, rfl⟩
    rw [← e5] at h ⊢
    refine G_aload_n C dX6_add_62 rfl ?_
    refine gI_X6_0 C ly_5 rfl wf_X6_9 dX6_add_63 ?_
    refine G_iconst C dX6_add_66 ?_
    refine G_isub C dX6_add_67 ?_
    exact r _ _ _ _ dX6_add_68 h
  · have h := h.2.2 q
    refine G_iconst C dX6_add_9 ?_
    exact r _ _ _ _ dX6_add_10 h
set_option maxRecDepth 20000 in
theorem kb_X6_has_0 {X : Cx} {d : Nat} {P : Int → Sto → Prop} (C : Ok LY X RX6 cX6_has 2 d) (r : RetZ LY X cX6_has P) {v1 : Int} {s : Sto} (h : ((rg v1) ∧ ((v1 < 0 → P 0 s) ∧ (0 ≤ v1 → ((rg v1 ∧ rg (s 5 0)) ∧ (((s 5 0) ≤ v1 → P 0 s) ∧ (v1 < (s 5 0) → P 1 s))))))) : G LY X 0 [rv 5, iv v1] [] s := by
  refine G_iload_n C dX6_has_0 rfl ?_
  refine G_if_lt (tgt := 16) C dX6_has_1 (by decide) h.1 (fun q => ?_) (fun q => ?_)
  · have h := h.2.1 q
    refine G_iconst C dX6_has_16 ?_
    exact r _ _ _ _ dX6_has_17 (by decide) h
  · have h := h.2.2 q
    refine G_iload_n C dX6_has_4 rfl ?_
    refine G_aload_n C dX6_has_5 rfl ?_
    refine gI_X6_0 C ly_5 rfl wf_X6_9 dX6_has_6 ?_
    refine G_icmp_ge (tgt := 16) C dX6_has_9 (by decide) ⟨h.1.1, h.1.2⟩ (fun q => ?_) (fun q => ?_)
    · have h := h.2.1 q
      refine G_iconst C dX6_has_16 ?_
      exact r _ _ _ _ dX6_has_17 (by decide) h
    · have h := h.2.2 q
      refine G_iconst C dX6_has_12 ?_
      refine G_goto (tgt := 17) C dX6_has_13 (by decide) ?_
      exact r _ _ _ _ dX6_has_17 (by decide) h
