set_option maxRecDepth 20000 in
theorem kb_X3_nextRow_0 {X : Cx} {d : Nat} {P : Int → Sto → Prop} (C : Ok LY X RX3 cX3_nextRow 6 d) (r : RetZ LY X cX3_nextRow P) {v1 : Int} {s : Sto} (h : G LY X 4 [rv 69, iv v1, iv (v1 - 2), none, none, none] [] s) : G LY X 0 [rv 69, iv v1, none, none, none, none] [] s := by
  refine G_iload_n C dX3_nextRow_0 rfl ?_
  refine G_iconst C dX3_nextRow_1 ?_
  refine G_isub C dX3_nextRow_2 ?_
  refine G_istore_n (L' := [rv 69, iv v1, iv (v1 - 2), none, none, none]) C dX3_nextRow_3 (by decide) rfl ?_
  exact h
set_option maxRecDepth 20000 in
theorem kb_X3_nextRow_4 {X : Cx} {d : Nat} {P : Int → Sto → Prop} (C : Ok LY X RX3 cX3_nextRow 6 d) (r : RetZ LY X cX3_nextRow P) {v1 v2 : Int} {s : Sto} (h : ((rg v2) ∧ ((v2 < 0 → ((rg v2) ∧ ((0 ≤ v2 → G LY X 41 [rv 69, iv v1, iv v2, iv (v1 - 1), none, none] [] s) ∧ (v2 < 0 → P 0 s)))) ∧ (0 ≤ v2 → ((0 ≤ v2 ∧ v2 < 8) ∧ ((0 ≤ (v2 + 1) ∧ (v2 + 1) < 8) ∧ ((rg (s 72 v2) ∧ rg (s 72 (v2 + 1))) ∧ (((s 72 v2) ≤ (s 72 (v2 + 1)) → ((rg v2) ∧ ((0 ≤ v2 → G LY X 41 [rv 69, iv v1, iv v2, iv (v1 - 1), none, none] [] s) ∧ (v2 < 0 → P 0 s)))) ∧ ((s 72 (v2 + 1)) < (s 72 v2) → G LY X 4 [rv 69, iv v1, iv (v2 + (-1)), none, none, none] [] s))))))))) : G LY X 4 [rv 69, iv v1, iv v2, none, none, none] [] s := by
  refine G_iload_n C dX3_nextRow_4 rfl ?_
  refine G_if_lt (tgt := 31) C dX3_nextRow_5 (by decide) h.1 (fun q => ?_) (fun q => ?_)
  · have h := h.2.1 q
    refine G_iload_n C dX3_nextRow_31 rfl ?_
    refine G_if_ge (tgt := 37) C dX3_nextRow_32 (by decide) h.1 (fun q => ?_) (fun q => ?_)
    · have h := h.2.1 q
      refine G_iload_n C dX3_nextRow_37 rfl ?_
      refine G_iconst C dX3_nextRow_38 ?_
      refine G_isub C dX3_nextRow_39 ?_
      refine G_istore_n (L' := [rv 69, iv v1, iv v2, iv (v1 - 1), none, none]) C dX3_nextRow_40 (by decide) rfl ?_
      exact h
    · have h := h.2.2 q
      refine G_iconst C dX3_nextRow_35 ?_
      exact r _ _ _ _ dX3_nextRow_36 (by decide) h
  · have h := h.2.2 q
    refine G_aload_n C dX3_nextRow_8 rfl ?_
    refine gR_X3_2 C ly_69 rfl wf_X3_18 dX3_nextRow_9 ?_
    refine G_iload_n C dX3_nextRow_12 rfl ?_
    refine G_iald C ly_72 (by decide) h.1 dX3_nextRow_13 ?_
    have h := h.2
    refine G_aload_n C dX3_nextRow_14 rfl ?_
    refine gR_X3_2 C ly_69 rfl wf_X3_18 dX3_nextRow_15 ?_
    refine G_iload_n C dX3_nextRow_18 rfl ?_
    refine G_iconst C dX3_nextRow_19 ?_
    refine G_iadd C dX3_nextRow_20 ?_
    refine G_iald C ly_72 (by decide) h.1 dX3_nextRow_21 ?_
    have h := h.2
    refine G_icmp_le (tgt := 31) C dX3_nextRow_22 (by decide) ⟨h.1.1, h.1.2⟩ (fun q => ?_) (fun q => ?_)
    · have h := h.2.1 q
      refine G_iload_n C dX3_nextRow_31 rfl ?_
      refine G_if_ge (tgt := 37) C dX3_nextRow_32 (by decide) h.1 (fun q => ?_) (fun q => ?_)
      · have h := h.2.1 q
        refine G_iload_n C dX3_nextRow_37 rfl ?_
        refine G_iconst C dX3_nextRow_38 ?_
        refine G_isub C dX3_nextRow_39 ?_
        refine G_istore_n (L' := [rv 69, iv v1, iv v2, iv (v1 - 1), none, none]) C dX3_nextRow_40 (by decide) rfl ?_
        exact h
      · have h := h.2.2 q
        refine G_iconst C dX3_nextRow_35 ?_
        exact r _ _ _ _ dX3_nextRow_36 (by decide) h
    · have h := h.2.2 q
      refine G_iinc (L' := [rv 69, iv v1, iv (v2 + (-1)), none, none, none]) C dX3_nextRow_25 (by decide) rfl rfl ?_
      refine G_goto (tgt := 4) C dX3_nextRow_28 (by decide) ?_
      exact h
set_option maxRecDepth 20000 in
theorem kb_X3_nextRow_41 {X : Cx} {d : Nat} {P : Int → Sto → Prop} (C : Ok LY X RX3 cX3_nextRow 6 d) (r : RetZ LY X cX3_nextRow P) {v1 v2 v3 : Int} {s : Sto} (h : ((rg v3 ∧ rg v2) ∧ ((v3 ≤ v2 → (CallV LY d MX3_swap [.inr 69, .inl v2, .inl v3] s (fun s1 => G LY X 83 [rv 69, iv v1, iv v2, iv v3, iv (v2 + 1), iv (v1 - 1)] [] s1))) ∧ (v2 < v3 → ((0 ≤ v3 ∧ v3 < 8) ∧ ((0 ≤ v2 ∧ v2 < 8) ∧ ((rg (s 72 v3) ∧ rg (s 72 v2)) ∧ (((s 72 v2) ≤ (s 72 v3) → (CallV LY d MX3_swap [.inr 69, .inl v2, .inl v3] s (fun s2 => G LY X 83 [rv 69, iv v1, iv v2, iv v3, iv (v2 + 1), iv (v1 - 1)] [] s2))) ∧ ((s 72 v3) < (s 72 v2) → G LY X 41 [rv 69, iv v1, iv v2, iv (v3 + (-1)), none, none] [] s))))))))) : G LY X 41 [rv 69, iv v1, iv v2, iv v3, none, none] [] s := by
  refine G_iload_n C dX3_nextRow_41 rfl ?_
  refine G_iload_n C dX3_nextRow_42 rfl ?_
  refine G_icmp_le (tgt := 67) C dX3_nextRow_43 (by decide) ⟨h.1.1, h.1.2⟩ (fun q => ?_) (fun q => ?_)
  · have h := h.2.1 q
    refine G_aload_n C dX3_nextRow_67 rfl ?_
    refine G_iload_n C dX3_nextRow_68 rfl ?_
    refine G_iload_n C dX3_nextRow_69 rfl ?_
    refine G_callVV (K := []) (args := [.inl v2, .inl v3]) (T := TX3) (N := 7) C ly_69 rfl (Nat.le_of_ble_eq_true rfl) mo_X3_swap wc_X3_86 rfl dX3_nextRow_70 h (fun s1 h => ?_)
    refine G_iload_n C dX3_nextRow_73 rfl ?_
    refine G_iconst C dX3_nextRow_74 ?_
    refine G_iadd C dX3_nextRow_75 ?_
    refine G_istore (L' := [rv 69, iv v1, iv v2, iv v3, iv (v2 + 1), none]) C dX3_nextRow_76 (by decide) rfl ?_
    refine G_iload_n C dX3_nextRow_78 rfl ?_
    refine G_iconst C dX3_nextRow_79 ?_
    refine G_isub C dX3_nextRow_80 ?_
    refine G_istore (L' := [rv 69, iv v1, iv v2, iv v3, iv (v2 + 1), iv (v1 - 1)]) C dX3_nextRow_81 (by decide) rfl ?_
    exact h
  · have h := h.2.2 q
    refine G_aload_n C dX3_nextRow_46 rfl ?_
    refine gR_X3_2 C ly_69 rfl wf_X3_18 dX3_nextRow_47 ?_
    refine G_iload_n C dX3_nextRow_50 rfl ?_
    refine G_iald C ly_72 (by decide) h.1 dX3_nextRow_51 ?_
    have h := h.2
    refine G_aload_n C dX3_nextRow_52 rfl ?_
    refine gR_X3_2 C ly_69 rfl wf_X3_18 dX3_nextRow_53 ?_
    refine G_iload_n C dX3_nextRow_56 rfl ?_
    refine G_iald C ly_72 (by decide) h.1 dX3_nextRow_57 ?_
    have h := h.2
    refine G_icmp_ge (tgt := 67) C dX3_nextRow_58 (by decide) ⟨h.1.1, h.1.2⟩ (fun q => ?_) (fun q => ?_)
    · have h := h.2.1 q
      refine G_aload_n C dX3_nextRow_67 rfl ?_
      refine G_iload_n C dX3_nextRow_68 rfl ?_
      refine G_iload_n C dX3_nextRow_69 rfl ?_
      refine G_callVV (K := []) (args := [.inl v2, .inl v3]) (T := TX3) (N := 7) C ly_69 rfl (Nat.le_of_ble_eq_true rfl) mo_X3_swap wc_X3_86 rfl dX3_nextRow_70 h (fun s2 h => ?_)
      refine G_iload_n C dX3_nextRow_73 rfl ?_
      refine G_iconst C dX3_nextRow_74 ?_
      refine G_iadd C dX3_nextRow_75 ?_
      refine G_istore (L' := [rv 69, iv v1, iv v2, iv v3, iv (v2 + 1), none]) C dX3_nextRow_76 (by decide) rfl ?_
      refine G_iload_n C dX3_nextRow_78 rfl ?_
      refine G_iconst C dX3_nextRow_79 ?_
      refine G_isub C dX3_nextRow_80 ?_
      refine G_istore (L' := [rv 69, iv v1, iv v2, iv v3, iv (v2 + 1), iv (v1 - 1)]) C dX3_nextRow_81 (by decide) rfl ?_
      exact h
    · have h := h.2.2 q
      refine G_iinc (L' := [rv 69, iv v1, iv v2, iv (v3 + (-1)), none, none]) C dX3_nextRow_61 (by decide) rfl rfl ?_
      refine G_goto (tgt := 41) C dX3_nextRow_64 (by decide) ?_
      exact h
set_option maxRecDepth 20000 in
theorem kb_X3_nextRow_83 {X : Cx} {d : Nat} {P : Int → Sto → Prop} (C : Ok LY X RX3 cX3_nextRow 6 d) (r : RetZ LY X cX3_nextRow P) {v1 v2 v3 v4 v5 : Int} {s : Sto} (h : ((rg v4 ∧ rg v5) ∧ ((v5 ≤ v4 → P 1 s) ∧ (v4 < v5 → (CallV LY d MX3_swap [.inr 69, .inl v4, .inl v5] s (fun s1 => G LY X 83 [rv 69, iv v1, iv v2, iv v3, iv (v4 + 1), iv (v5 + (-1))] [] s1)))))) : G LY X 83 [rv 69, iv v1, iv v2, iv v3, iv v4, iv v5] [] s := by
  refine G_iload C dX3_nextRow_83 rfl ?_
  refine G_iload C dX3_nextRow_85 rfl ?_
  refine G_icmp_ge (tgt := 107) C dX3_nextRow_87 (by decide) ⟨h.1.1, h.1.2⟩ (fun q => ?_) (fun q => ?_)
  · have h := h.2.1 q
    refine G_iconst C dX3_nextRow_107 ?_
    exact r _ _ _ _ dX3_nextRow_108 (by decide) h
  · have h := h.2.2 q
    refine G_aload_n C dX3_nextRow_90 rfl ?_
    refine G_iload C dX3_nextRow_91 rfl ?_
    refine G_iload C dX3_nextRow_93 rfl ?_
    refine G_callVV (K := []) (args := [.inl v4, .inl v5]) (T := TX3) (N := 7) C ly_69 rfl (Nat.le_of_ble_eq_true rfl) mo_X3_swap wc_X3_86 rfl dX3_nextRow_95 h (fun s1 h => ?_)
    refine G_iinc (L' := [rv 69, iv v1, iv v2, iv v3, iv (v4 + 1), iv v5]) C dX3_nextRow_98 (by decide) rfl rfl ?_
    refine G_iinc (L' := [rv 69, iv v1, iv v2, iv v3, iv (v4 + 1), iv (v5 + (-1))]) C dX3_nextRow_101 (by decide) rfl rfl ?_
    refine G_goto (tgt := 83) C dX3_nextRow_104 (by decide) ?_
    exact h
set_option maxRecDepth 20000 in
theorem kb_X3_mostInOrder_0 {X : Cx} {d : Nat} {P : Int → Sto → Prop} (C : Ok LY X RX3 cX3_mostInOrder 7 d) (r : RetI LY X cX3_mostInOrder P) {v2 v3 : Int} {s : Sto} (h : G LY X 6 [rv 69, rv 46, iv v2, iv v3, iv 0, iv 0, none] [] s) : G LY X 0 [rv 69, rv 46, iv v2, iv v3, none, none, none] [] s := by
  refine G_iconst C dX3_mostInOrder_0 ?_
  refine G_istore (L' := [rv 69, rv 46, iv v2, iv v3, iv 0, none, none]) C dX3_mostInOrder_1 (by decide) rfl ?_
  refine G_iconst C dX3_mostInOrder_3 ?_
  refine G_istore (L' := [rv 69, rv 46, iv v2, iv v3, iv 0, iv 0, none]) C dX3_mostInOrder_4 (by decide) rfl ?_
  exact h
set_option maxRecDepth 20000 in
theorem kb_X3_mostInOrder_6 {X : Cx} {d : Nat} {P : Int → Sto → Prop} (C : Ok LY X RX3 cX3_mostInOrder 7 d) (r : RetI LY X cX3_mostInOrder P) {v2 v3 v4 v5 : Int} {s : Sto} (h : ((rg v5 ∧ rg v2) ∧ ((v2 ≤ v5 → P v4 s) ∧ (v5 < v2 → ((0 ≤ v5 ∧ v5 < 20) ∧ (∀ s1 : Sto, s1 = up s 74 v5 0 → ((0 ≤ v5 ∧ v5 < 20) ∧ (((xand (xshr v3 (s1 73 v5)) 1) ≠ 1 → G LY X 6 [rv 69, rv 46, iv v2, iv v3, iv v4, iv (v5 + 1), none] [] s1) ∧ ((xand (xshr v3 (s1 73 v5)) 1) = 1 → G LY X 38 [rv 69, rv 46, iv v2, iv v3, iv v4, iv v5, iv 0] [] s1))))))))) : G LY X 6 [rv 69, rv 46, iv v2, iv v3, iv v4, iv v5, none] [] s := by
  refine G_iload C dX3_mostInOrder_6 rfl ?_
  refine G_iload_n C dX3_mostInOrder_8 rfl ?_
  refine G_icmp_ge (tgt := 133) C dX3_mostInOrder_9 (by decide) ⟨h.1.1, h.1.2⟩ (fun q => ?_) (fun q => ?_)
  · have h := h.2.1 q
    refine G_iload C dX3_mostInOrder_133 rfl ?_
    exact r _ _ _ _ dX3_mostInOrder_135 h
  · have h := h.2.2 q
    refine G_aload_n C dX3_mostInOrder_12 rfl ?_
    refine gR_X3_4 C ly_69 rfl wf_X3_24 dX3_mostInOrder_13 ?_
    refine G_iload C dX3_mostInOrder_16 rfl ?_
    refine G_iconst C dX3_mostInOrder_18 ?_
    refine G_iast C ly_74 (by decide) h.1 dX3_mostInOrder_19 ?_
    have h := h.2
    have h := h _ rfl
    obtain ⟨s1, e1⟩ : ∃ z, z = up s 74 v5 0 := ⟨_, rfl⟩
    rw [← e1] at h ⊢
    refine G_iload_n C dX3_mostInOrder_20 rfl ?_
    refine G_aload_n C dX3_mostInOrder_21 rfl ?_
    refine gR_X3_3 C ly_69 rfl wf_X3_21 dX3_mostInOrder_22 ?_
    refine G_iload C dX3_mostInOrder_25 rfl ?_
    refine G_iald C ly_73 (by decide) h.1 dX3_mostInOrder_27 ?_
    have h := h.2
    refine G_ishr C dX3_mostInOrder_28 ?_
    refine G_iconst C dX3_mostInOrder_29 ?_
    refine G_iand C dX3_mostInOrder_30 ?_
    refine G_iconst C dX3_mostInOrder_31 ?_
    refine G_icmp_ne (tgt := 127) C dX3_mostInOrder_32 (by decide) ⟨(oI_rg _), (by decide)⟩ (fun q => ?_) (fun q => ?_)
    · have h := h.1 q
      refine G_iinc (L' := [rv 69, rv 46, iv v2, iv v3, iv v4, iv (v5 + 1), none]) C dX3_mostInOrder_127 (by decide) rfl rfl ?_
      refine G_goto (tgt := 6) C dX3_mostInOrder_130 (by decide) ?_
      exact h
    · have h := h.2 q
      refine G_iconst C dX3_mostInOrder_35 ?_
      refine G_istore (L' := [rv 69, rv 46, iv v2, iv v3, iv v4, iv v5, iv 0]) C dX3_mostInOrder_36 (by decide) rfl ?_
      exact h
set_option maxRecDepth 20000 in
theorem kb_X3_mostInOrder_38 {X : Cx} {d : Nat} {P : Int → Sto → Prop} (C : Ok LY X RX3 cX3_mostInOrder 7 d) (r : RetI LY X cX3_mostInOrder P) (h1d : 1 ≤ d) {v2 v3 v4 v5 v6 : Int} {s : Sto} (h : ((rg v6 ∧ rg v5) ∧ ((v5 ≤ v6 → ((0 ≤ v5 ∧ v5 < 20) ∧ ((0 ≤ v5 ∧ v5 < 20) ∧ (∀ s1 : Sto, s1 = up s 74 v5 ((s 74 v5) + 1) → ((0 ≤ v5 ∧ v5 < 20) ∧ ((rg v4 ∧ rg (s1 74 v5)) ∧ G LY X 6 [rv 69, rv 46, iv v2, iv v3, iv (max v4 (s1 74 v5)), iv (v5 + 1), none] [] s1)))))) ∧ (v6 < v5 → ((0 ≤ v6 ∧ v6 < 20) ∧ ((0 ≤ (s 73 v6) ∧ (s 73 v6) < 20) ∧ ((0 ≤ v5 ∧ v5 < 20) ∧ ((0 ≤ (s 73 v5) ∧ (s 73 v5) < 20) ∧ ((rg (s 50 (s 73 v6)) ∧ rg (s 50 (s 73 v5))) ∧ (((s 50 (s 73 v5)) ≤ (s 50 (s 73 v6)) → G LY X 38 [rv 69, rv 46, iv v2, iv v3, iv v4, iv v5, iv (v6 + 1)] [] s) ∧ ((s 50 (s 73 v6)) < (s 50 (s 73 v5)) → ((0 ≤ v5 ∧ v5 < 20) ∧ ((0 ≤ v6 ∧ v6 < 20) ∧ ((rg (s 74 v5) ∧ rg (s 74 v6)) ∧ ((0 ≤ v5 ∧ v5 < 20) ∧ (∀ s2 : Sto, s2 = up s 74 v5 (max (s 74 v5) (s 74 v6)) → G LY X 38 [rv 69, rv 46, iv v2, iv v3, iv v4, iv v5, iv (v6 + 1)] [] s2)))))))))))))))) : G LY X 38 [rv 69, rv 46, iv v2, iv v3, iv v4, iv v5, iv v6] [] s := by
  refine G_iload C dX3_mostInOrder_38 rfl ?_
  refine G_iload C dX3_mostInOrder_40 rfl ?_
  refine G_icmp_ge (tgt := 102) C dX3_mostInOrder_42 (by decide) ⟨h.1.1, h.1.2⟩ (fun q => ?_) (fun q => ?_)
  · have h := h.2.1 q
    refine G_aload_n C dX3_mostInOrder_102 rfl ?_
    refine gR_X3_4 C ly_69 rfl wf_X3_24 dX3_mostInOrder_103 ?_
    refine G_iload C dX3_mostInOrder_106 rfl ?_
    refine G_dup2 C dX3_mostInOrder_108 ?_
    refine G_iald C ly_74 (by decide) h.1 dX3_mostInOrder_109 ?_
    have h := h.2
    refine G_iconst C dX3_mostInOrder_110 ?_
    refine G_iadd C dX3_mostInOrder_111 ?_
    refine G_iast C ly_74 (by decide) h.1 dX3_mostInOrder_112 ?_
    have h := h.2
    have h := h _ rfl
    obtain ⟨s1, e1⟩ : ∃ z, z = up s 74 v5 ((s 74 v5) + 1) := ⟨_, rfl⟩
    rw [← e1] at h ⊢
    refine G_iload C dX3_mostInOrder_113 rfl ?_
    refine G_aload_n C dX3_mostInOrder_115 rfl ?_
    refine gR_X3_4 C ly_69 rfl wf_X3_24 dX3_mostInOrder_116 ?_
    refine G_iload C dX3_mostInOrder_119 rfl ?_
    refine G_iald C ly_74 (by decide) h.1 dX3_mostInOrder_121 ?_
    have h := h.2
    refine G_max C ⟨h.1.1, h.1.2⟩ h1d (Nat.le_of_ble_eq_true rfl) ws_1089 mmaxw dX3_mostInOrder_122 ?_
    have h := h.2
    refine G_istore (L' := [rv 69, rv 46, iv v2, iv v3, iv (max v4 (s1 74 v5)), iv v5, iv v6]) C dX3_mostInOrder_125 (by decide) rfl ?_
    refine G_iinc (L' := [rv 69, rv 46, iv v2, iv v3, iv (max v4 (s1 74 v5)), iv (v5 + 1), iv v6]) C dX3_mostInOrder_127 (by decide) rfl rfl ?_
    refine G_goto (tgt := 6) C dX3_mostInOrder_130 (by decide) ?_
    refine G_drop (i := 6) (L' := [rv 69, rv 46, iv v2, iv v3, iv (max v4 (s1 74 v5)), iv (v5 + 1), none]) rfl ?_
    exact h
  · have h := h.2.2 q
    refine G_aload_n C dX3_mostInOrder_45 rfl ?_
    refine gR_X7_3 C ly_46 rfl wf_X3_103 dX3_mostInOrder_46 ?_
    refine G_aload_n C dX3_mostInOrder_49 rfl ?_
    refine gR_X3_3 C ly_69 rfl wf_X3_21 dX3_mostInOrder_50 ?_
    refine G_iload C dX3_mostInOrder_53 rfl ?_
    refine G_iald C ly_73 (by decide) h.1 dX3_mostInOrder_55 ?_
    have h := h.2
    refine G_iald C ly_50 (by decide) h.1 dX3_mostInOrder_56 ?_
    have h := h.2
    refine G_aload_n C dX3_mostInOrder_57 rfl ?_
    refine gR_X7_3 C ly_46 rfl wf_X3_103 dX3_mostInOrder_58 ?_
    refine G_aload_n C dX3_mostInOrder_61 rfl ?_
    refine gR_X3_3 C ly_69 rfl wf_X3_21 dX3_mostInOrder_62 ?_
    refine G_iload C dX3_mostInOrder_65 rfl ?_
    refine G_iald C ly_73 (by decide) h.1 dX3_mostInOrder_67 ?_
    have h := h.2
    refine G_iald C ly_50 (by decide) h.1 dX3_mostInOrder_68 ?_
    have h := h.2
    refine G_icmp_ge (tgt := 96) C dX3_mostInOrder_69 (by decide) ⟨h.1.1, h.1.2⟩ (fun q => ?_) (fun q => ?_)
    · have h := h.2.1 q
      refine G_iinc (L' := [rv 69, rv 46, iv v2, iv v3, iv v4, iv v5, iv (v6 + 1)]) C dX3_mostInOrder_96 (by decide) rfl rfl ?_
      refine G_goto (tgt := 38) C dX3_mostInOrder_99 (by decide) ?_
      exact h
    · have h := h.2.2 q
      refine G_aload_n C dX3_mostInOrder_72 rfl ?_
      refine gR_X3_4 C ly_69 rfl wf_X3_24 dX3_mostInOrder_73 ?_
      refine G_iload C dX3_mostInOrder_76 rfl ?_
      refine G_aload_n C dX3_mostInOrder_78 rfl ?_
      refine gR_X3_4 C ly_69 rfl wf_X3_24 dX3_mostInOrder_79 ?_
      refine G_iload C dX3_mostInOrder_82 rfl ?_
      refine G_iald C ly_74 (by decide) h.1 dX3_mostInOrder_84 ?_
      have h := h.2
      refine G_aload_n C dX3_mostInOrder_85 rfl ?_
      refine gR_X3_4 C ly_69 rfl wf_X3_24 dX3_mostInOrder_86 ?_
      refine G_iload C dX3_mostInOrder_89 rfl ?_
      refine G_iald C ly_74 (by decide) h.1 dX3_mostInOrder_91 ?_
      have h := h.2
      refine G_max C ⟨h.1.1, h.1.2⟩ h1d (Nat.le_of_ble_eq_true rfl) ws_1089 mmaxw dX3_mostInOrder_92 ?_
      have h := h.2
      refine G_iast C ly_74 (by decide) h.1 dX3_mostInOrder_95 ?_
      have h := h.2
      have h := h _ rfl
      obtain ⟨s2, e2⟩ : ∃ z, z = up s 74 v5 (max (s 74 v5) (s 74 v6)) := ⟨_, rfl⟩
      rw [← e2] at h ⊢
      refine G_iinc (L' := [rv 69, rv 46, iv v2, iv v3, iv v4, iv v5, iv (v6 + 1)]) C dX3_mostInOrder_96 (by decide) rfl rfl ?_
      refine G_goto (tgt := 38) C dX3_mostInOrder_99 (by decide) ?_
      exact h
set_option maxRecDepth 20000 in
theorem kb_X11_beBornAnew_0 {X : Cx} {d : Nat} {P : Sto → Prop} (C : Ok LY X RX11 cX11_beBornAnew 2 d) (r : RetV LY X cX11_beBornAnew P) {v1 : Int} {s : Sto} (h : ((0 ≤ v1 ∧ v1 < 20) ∧ (∀ s1 : Sto, s1 = up s 8 v1 0 → ((rg (s1 3 9)) ∧ (((s1 3 9) ≤ 0 → P s1) ∧ (0 < (s1 3 9) → (CallI LY d MX2_draw [.inr 3, .inl (s1 3 9)] s1 (fun r2 s2 => ((0 ≤ r2 ∧ r2 < 10) ∧ ((0 ≤ v1 ∧ v1 < 20) ∧ (∀ s3 : Sto, s3 = up s2 6 v1 (s2 13 r2) → P s3))))))))))) : G LY X 0 [rv 0, iv v1] [] s := by
  refine G_aload_n C dX11_beBornAnew_0 rfl ?_
  refine gR_X11_1 C ly_0 rfl wf_X11_19 dX11_beBornAnew_1 ?_
  refine gR_X2_5 C ly_3 rfl wf_X11_116 dX11_beBornAnew_4 ?_
  refine gR_X6_3 C ly_5 rfl wf_X11_165 dX11_beBornAnew_7 ?_
  refine G_iload_n C dX11_beBornAnew_10 rfl ?_
  refine G_iconst C dX11_beBornAnew_11 ?_
  refine G_iast C ly_8 (by decide) h.1 dX11_beBornAnew_12 ?_
  have h := h.2
  have h := h _ rfl
  obtain ⟨s1, e1⟩ : ∃ z, z = up s 8 v1 0 := ⟨_, rfl⟩
  rw [← e1] at h ⊢
  refine G_aload_n C dX11_beBornAnew_13 rfl ?_
  refine gR_X11_1 C ly_0 rfl wf_X11_19 dX11_beBornAnew_14 ?_
  refine gI_X2_9 C ly_3 rfl wf_X11_220 dX11_beBornAnew_17 ?_
  refine G_if_le (tgt := 57) C dX11_beBornAnew_20 (by decide) h.1 (fun q => ?_) (fun q => ?_)
  · have h := h.2.1 q
    exact r _ _ _ dX11_beBornAnew_57 h
  · have h := h.2.2 q
    refine G_aload_n C dX11_beBornAnew_23 rfl ?_
    refine gR_X11_1 C ly_0 rfl wf_X11_19 dX11_beBornAnew_24 ?_
    refine gR_X2_5 C ly_3 rfl wf_X11_116 dX11_beBornAnew_27 ?_
    refine gR_X6_1 C ly_5 rfl wf_X11_129 dX11_beBornAnew_30 ?_
    refine G_iload_n C dX11_beBornAnew_33 rfl ?_
    refine G_aload_n C dX11_beBornAnew_34 rfl ?_
    refine gR_X11_1 C ly_0 rfl wf_X11_19 dX11_beBornAnew_35 ?_
    refine gR_X2_10 C ly_3 rfl wf_X11_223 dX11_beBornAnew_38 ?_
    refine G_aload_n C dX11_beBornAnew_41 rfl ?_
    refine gR_X11_1 C ly_0 rfl wf_X11_19 dX11_beBornAnew_42 ?_
    refine G_aload_n C dX11_beBornAnew_45 rfl ?_
    refine gR_X11_1 C ly_0 rfl wf_X11_19 dX11_beBornAnew_46 ?_
    refine gI_X2_9 C ly_3 rfl wf_X11_220 dX11_beBornAnew_49 ?_
    refine G_callVI (K := [.inr 13, .inl v1, .inr 6]) (args := [.inl (s1 3 9)]) (T := TX2) (N := 16) C ly_3 rfl (Nat.le_of_ble_eq_true rfl) mo_X2_draw wc_X11_315 rfl dX11_beBornAnew_52 h (fun r2 s2 h => ?_)
    refine G_iald C ly_13 (by decide) h.1 dX11_beBornAnew_55 ?_
    have h := h.2
    refine G_iast C ly_6 (by decide) h.1 dX11_beBornAnew_56 ?_
    have h := h.2
    have h := h _ rfl
    obtain ⟨s3, e3⟩ : ∃ z, z = up s2 6 v1 (s2 13 r2) := ⟨_, rfl⟩
    rw [← e3] at h ⊢
    exact r _ _ _ dX11_beBornAnew_57 h
set_option maxRecDepth 20000 in
theorem kb_X6_copyFrom_0 {X : Cx} {d : Nat} {P : Sto → Prop} (C : Ok LY X RX6 cX6_copyFrom 2 d) (r : RetV LY X cX6_copyFrom P) (h1d : 1 ≤ d) {s : Sto} (h : (∀ s1 : Sto, s1 = up s 5 0 (s 23 0) → (∀ s2 : Sto, s2 = cpy s1 24 6 0 0 20 → (∀ s3 : Sto, s3 = cpy s2 25 7 0 0 20 → (∀ s4 : Sto, s4 = cpy s3 26 8 0 0 20 → (∀ s5 : Sto, s5 = cpy s4 27 9 0 0 20 → P s5)))))) : G LY X 0 [rv 5, rv 23] [] s := by
  refine G_aload_n C dX6_copyFrom_0 rfl ?_
  refine G_aload_n C dX6_copyFrom_1 rfl ?_
  refine gI_X6_0 C ly_23 rfl wf_X6_9 dX6_copyFrom_2 ?_
  refine gP_X6_0 C ly_5 rfl wf_X6_9 dX6_copyFrom_5 ?_
  have h := h _ rfl
  obtain ⟨s1, e1⟩ : ∃ z, z = up s 5 0 (s 23 0) := ⟨_, rfl⟩
  rw [← e1] at h ⊢
  refine G_aload_n C dX6_copyFrom_8 rfl ?_
  refine gR_X6_1 C ly_23 rfl wf_X6_15 dX6_copyFrom_9 ?_
  refine G_iconst C dX6_copyFrom_12 ?_
  refine G_aload_n C dX6_copyFrom_13 rfl ?_
  refine gR_X6_1 C ly_5 rfl wf_X6_15 dX6_copyFrom_14 ?_
  refine G_iconst C dX6_copyFrom_17 ?_
  refine G_bipush C dX6_copyFrom_18 bi_20 ?_
  refine G_copy C ly_24 ly_6 (by decide) (by decide) h1d (Nat.le_of_ble_eq_true rfl) ws_1156 arw dX6_copyFrom_20 ?_
  have h := h _ rfl
  obtain ⟨s2, e2⟩ : ∃ z, z = cpy s1 24 6 0 0 20 := ⟨_, rfl⟩
  rw [← e2] at h ⊢
  refine G_aload_n C dX6_copyFrom_23 rfl ?_
  refine gR_X6_2 C ly_23 rfl wf_X6_19 dX6_copyFrom_24 ?_
  refine G_iconst C dX6_copyFrom_27 ?_
  refine G_aload_n C dX6_copyFrom_28 rfl ?_
  refine gR_X6_2 C ly_5 rfl wf_X6_19 dX6_copyFrom_29 ?_
  refine G_iconst C dX6_copyFrom_32 ?_
  refine G_bipush C dX6_copyFrom_33 bi_20 ?_
  refine G_copy C ly_25 ly_7 (by decide) (by decide) h1d (Nat.le_of_ble_eq_true rfl) ws_1156 arw dX6_copyFrom_35 ?_
  have h := h _ rfl
  obtain ⟨s3, e3⟩ : ∃ z, z = cpy s2 25 7 0 0 20 := ⟨_, rfl⟩
  rw [← e3] at h ⊢
  refine G_aload_n C dX6_copyFrom_38 rfl ?_
  refine gR_X6_3 C ly_23 rfl wf_X6_22 dX6_copyFrom_39 ?_
  refine G_iconst C dX6_copyFrom_42 ?_
  refine G_aload_n C dX6_copyFrom_43 rfl ?_
  refine gR_X6_3 C ly_5 rfl wf_X6_22 dX6_copyFrom_44 ?_
  refine G_iconst C dX6_copyFrom_47 ?_
  refine G_bipush C dX6_copyFrom_48 bi_20 ?_
  refine G_copy C ly_26 ly_8 (by decide) (by decide) h1d (Nat.le_of_ble_eq_true rfl) ws_1156 arw dX6_copyFrom_50 ?_
  have h := h _ rfl
  obtain ⟨s4, e4⟩ : ∃ z, z = cpy s3 26 8 0 0 20 := ⟨_, rfl⟩
  rw [← e4] at h ⊢
  refine G_aload_n C dX6_copyFrom_53 rfl ?_
  refine gR_X6_4 C ly_23 rfl wf_X6_25 dX6_copyFrom_54 ?_
  refine G_iconst C dX6_copyFrom_57 ?_
  refine G_aload_n C dX6_copyFrom_58 rfl ?_
  refine gR_X6_4 C ly_5 rfl wf_X6_25 dX6_copyFrom_59 ?_
  refine G_iconst C dX6_copyFrom_62 ?_
  refine G_bipush C dX6_copyFrom_63 bi_20 ?_
  refine G_copy C ly_27 ly_9 (by decide) (by decide) h1d (Nat.le_of_ble_eq_true rfl) ws_1156 arw dX6_copyFrom_65 ?_
  have h := h _ rfl
  obtain ⟨s5, e5⟩ : ∃ z, z = cpy s4 27 9 0 0 20 := ⟨_, rfl⟩
  rw [← e5] at h ⊢
  exact r _ _ _ dX6_copyFrom_68 h
set_option maxRecDepth 20000 in
theorem kb_X4_copyFromv1_0 {X : Cx} {d : Nat} {P : Sto → Prop} (C : Ok LY X RX4 cX4_copyFrom 2 d) (r : RetV LY X cX4_copyFrom P) (h1d : 1 ≤ d) {s : Sto} (h : (∀ s1 : Sto, s1 = up s 17 0 (s 35 0) → (∀ s2 : Sto, s2 = up s1 17 1 (s1 35 1) → (∀ s3 : Sto, s3 = cpy s2 36 18 0 0 16 → (∀ s4 : Sto, s4 = cpy s3 37 19 0 0 16 → ((((0 : Int) ≤ 0 ∧ (0 : Int) ≤ 0 ∧ (0 : Int) ≤ (s4 17 1)) ∧ 0 + (s4 17 1) ≤ ((400 : Nat) : Int) ∧ 0 + (s4 17 1) ≤ ((400 : Nat) : Int)) ∧ (∀ s5 : Sto, s5 = cpy s4 38 20 0 0 (s4 17 1) → P s5))))))) : G LY X 0 [rv 17, rv 35] [] s := by
  refine G_aload_n C dX4_copyFrom_0 rfl ?_
  refine G_aload_n C dX4_copyFrom_1 rfl ?_
  refine gI_X4_0 C ly_35 rfl wf_X4_9 dX4_copyFrom_2 ?_
  refine gP_X4_0 C ly_17 rfl wf_X4_9 dX4_copyFrom_5 ?_
  have h := h _ rfl
  obtain ⟨s1, e1⟩ : ∃ z, z = up s 17 0 (s 35 0) := ⟨_, rfl⟩
  rw [← e1] at h ⊢
  refine G_aload_n C dX4_copyFrom_8 rfl ?_
  refine G_aload_n C dX4_copyFrom_9 rfl ?_
  refine gI_X4_1 C ly_35 rfl wf_X4_15 dX4_copyFrom_10 ?_
  refine gP_X4_1 C ly_17 rfl wf_X4_15 dX4_copyFrom_13 ?_
  have h := h _ rfl
  obtain ⟨s2, e2⟩ : ∃ z, z = up s1 17 1 (s1 35 1) := ⟨_, rfl⟩
  rw [← e2] at h ⊢
  refine G_aload_n C dX4_copyFrom_16 rfl ?_
  refine gR_X4_2 C ly_35 rfl wf_X4_18 dX4_copyFrom_17 ?_
  refine G_iconst C dX4_copyFrom_20 ?_
  refine G_aload_n C dX4_copyFrom_21 rfl ?_
  refine gR_X4_2 C ly_17 rfl wf_X4_18 dX4_copyFrom_22 ?_
  refine G_iconst C dX4_copyFrom_25 ?_
  refine G_bipush C dX4_copyFrom_26 bi_16 ?_
  refine G_copy C ly_36 ly_18 (by decide) (by decide) h1d (Nat.le_of_ble_eq_true rfl) ws_751 arw dX4_copyFrom_28 ?_
  have h := h _ rfl
  obtain ⟨s3, e3⟩ : ∃ z, z = cpy s2 36 18 0 0 16 := ⟨_, rfl⟩
  rw [← e3] at h ⊢
  refine G_aload_n C dX4_copyFrom_31 rfl ?_
  refine gR_X4_3 C ly_35 rfl wf_X4_22 dX4_copyFrom_32 ?_
  refine G_iconst C dX4_copyFrom_35 ?_
  refine G_aload_n C dX4_copyFrom_36 rfl ?_
  refine gR_X4_3 C ly_17 rfl wf_X4_22 dX4_copyFrom_37 ?_
  refine G_iconst C dX4_copyFrom_40 ?_
  refine G_bipush C dX4_copyFrom_41 bi_16 ?_
  refine G_copy C ly_37 ly_19 (by decide) (by decide) h1d (Nat.le_of_ble_eq_true rfl) ws_751 arw dX4_copyFrom_43 ?_
  have h := h _ rfl
  obtain ⟨s4, e4⟩ : ∃ z, z = cpy s3 37 19 0 0 16 := ⟨_, rfl⟩
  rw [← e4] at h ⊢
  refine G_aload_n C dX4_copyFrom_46 rfl ?_
  refine gR_X4_4 C ly_35 rfl wf_X4_25 dX4_copyFrom_47 ?_
  refine G_iconst C dX4_copyFrom_50 ?_
  refine G_aload_n C dX4_copyFrom_51 rfl ?_
  refine gR_X4_4 C ly_17 rfl wf_X4_25 dX4_copyFrom_52 ?_
  refine G_iconst C dX4_copyFrom_55 ?_
  refine G_aload_n C dX4_copyFrom_56 rfl ?_
  refine gI_X4_1 C ly_17 rfl wf_X4_15 dX4_copyFrom_57 ?_
  refine G_copy C ly_38 ly_20 (by decide) h.1 h1d (Nat.le_of_ble_eq_true rfl) ws_751 arw dX4_copyFrom_60 ?_
  have h := h.2
  have h := h _ rfl
  obtain ⟨s5, e5⟩ : ∃ z, z = cpy s4 38 20 0 0 (s4 17 1) := ⟨_, rfl⟩
  rw [← e5] at h ⊢
  exact r _ _ _ dX4_copyFrom_63 h
set_option maxRecDepth 20000 in
theorem kb_X6_copyFromv1_0 {X : Cx} {d : Nat} {P : Sto → Prop} (C : Ok LY X RX6 cX6_copyFrom 2 d) (r : RetV LY X cX6_copyFrom P) (h1d : 1 ≤ d) {s : Sto} (h : (∀ s1 : Sto, s1 = up s 23 0 (s 5 0) → (∀ s2 : Sto, s2 = cpy s1 6 24 0 0 20 → (∀ s3 : Sto, s3 = cpy s2 7 25 0 0 20 → (∀ s4 : Sto, s4 = cpy s3 8 26 0 0 20 → (∀ s5 : Sto, s5 = cpy s4 9 27 0 0 20 → P s5)))))) : G LY X 0 [rv 23, rv 5] [] s := by
  refine G_aload_n C dX6_copyFrom_0 rfl ?_
  refine G_aload_n C dX6_copyFrom_1 rfl ?_
  refine gI_X6_0 C ly_5 rfl wf_X6_9 dX6_copyFrom_2 ?_
  refine gP_X6_0 C ly_23 rfl wf_X6_9 dX6_copyFrom_5 ?_
  have h := h _ rfl
  obtain ⟨s1, e1⟩ : ∃ z, z = up s 23 0 (s 5 0) := ⟨_, rfl⟩
  rw [← e1] at h ⊢
  refine G_aload_n C dX6_copyFrom_8 rfl ?_
  refine gR_X6_1 C ly_5 rfl wf_X6_15 dX6_copyFrom_9 ?_
  refine G_iconst C dX6_copyFrom_12 ?_
  refine G_aload_n C dX6_copyFrom_13 rfl ?_
  refine gR_X6_1 C ly_23 rfl wf_X6_15 dX6_copyFrom_14 ?_
  refine G_iconst C dX6_copyFrom_17 ?_
  refine G_bipush C dX6_copyFrom_18 bi_20 ?_
  refine G_copy C ly_6 ly_24 (by decide) (by decide) h1d (Nat.le_of_ble_eq_true rfl) ws_1156 arw dX6_copyFrom_20 ?_
  have h := h _ rfl
  obtain ⟨s2, e2⟩ : ∃ z, z = cpy s1 6 24 0 0 20 := ⟨_, rfl⟩
  rw [← e2] at h ⊢
  refine G_aload_n C dX6_copyFrom_23 rfl ?_
  refine gR_X6_2 C ly_5 rfl wf_X6_19 dX6_copyFrom_24 ?_
  refine G_iconst C dX6_copyFrom_27 ?_
  refine G_aload_n C dX6_copyFrom_28 rfl ?_
  refine gR_X6_2 C ly_23 rfl wf_X6_19 dX6_copyFrom_29 ?_
  refine G_iconst C dX6_copyFrom_32 ?_
  refine G_bipush C dX6_copyFrom_33 bi_20 ?_
  refine G_copy C ly_7 ly_25 (by decide) (by decide) h1d (Nat.le_of_ble_eq_true rfl) ws_1156 arw dX6_copyFrom_35 ?_
  have h := h _ rfl
  obtain ⟨s3, e3⟩ : ∃ z, z = cpy s2 7 25 0 0 20 := ⟨_, rfl⟩
  rw [← e3] at h ⊢
  refine G_aload_n C dX6_copyFrom_38 rfl ?_
  refine gR_X6_3 C ly_5 rfl wf_X6_22 dX6_copyFrom_39 ?_
  refine G_iconst C dX6_copyFrom_42 ?_
  refine G_aload_n C dX6_copyFrom_43 rfl ?_
  refine gR_X6_3 C ly_23 rfl wf_X6_22 dX6_copyFrom_44 ?_
  refine G_iconst C dX6_copyFrom_47 ?_
  refine G_bipush C dX6_copyFrom_48 bi_20 ?_
  refine G_copy C ly_8 ly_26 (by decide) (by decide) h1d (Nat.le_of_ble_eq_true rfl) ws_1156 arw dX6_copyFrom_50 ?_
  have h := h _ rfl
  obtain ⟨s4, e4⟩ : ∃ z, z = cpy s3 8 26 0 0 20 := ⟨_, rfl⟩
  rw [← e4] at h ⊢
  refine G_aload_n C dX6_copyFrom_53 rfl ?_
  refine gR_X6_4 C ly_5 rfl wf_X6_25 dX6_copyFrom_54 ?_
  refine G_iconst C dX6_copyFrom_57 ?_
  refine G_aload_n C dX6_copyFrom_58 rfl ?_
  refine gR_X6_4 C ly_23 rfl wf_X6_25 dX6_copyFrom_59 ?_
  refine G_iconst C dX6_copyFrom_62 ?_
  refine G_bipush C dX6_copyFrom_63 bi_20 ?_
  refine G_copy C ly_9 ly_27 (by decide) (by decide) h1d (Nat.le_of_ble_eq_true rfl) ws_1156 arw dX6_copyFrom_65 ?_
  have h := h _ rfl
  obtain ⟨s5, e5⟩ : ∃ z, z = cpy s4 9 27 0 0 20 := ⟨_, rfl⟩
  rw [← e5] at h ⊢
  exact r _ _ _ dX6_copyFrom_68 h
set_option maxRecDepth 20000 in
theorem kb_X4_copyFromv2_0 {X : Cx} {d : Nat} {P : Sto → Prop} (C : Ok LY X RX4 cX4_copyFrom 2 d) (r : RetV LY X cX4_copyFrom P) (h1d : 1 ≤ d) {s : Sto} (h : (∀ s1 : Sto, s1 = up s 35 0 (s 17 0) → (∀ s2 : Sto, s2 = up s1 35 1 (s1 17 1) → (∀ s3 : Sto, s3 = cpy s2 18 36 0 0 16 → (∀ s4 : Sto, s4 = cpy s3 19 37 0 0 16 → ((((0 : Int) ≤ 0 ∧ (0 : Int) ≤ 0 ∧ (0 : Int) ≤ (s4 35 1)) ∧ 0 + (s4 35 1) ≤ ((400 : Nat) : Int) ∧ 0 + (s4 35 1) ≤ ((400 : Nat) : Int)) ∧ (∀ s5 : Sto, s5 = cpy s4 20 38 0 0 (s4 35 1) → P s5))))))) : G LY X 0 [rv 35, rv 17] [] s := by
  refine G_aload_n C dX4_copyFrom_0 rfl ?_
  refine G_aload_n C dX4_copyFrom_1 rfl ?_
  refine gI_X4_0 C ly_17 rfl wf_X4_9 dX4_copyFrom_2 ?_
  refine gP_X4_0 C ly_35 rfl wf_X4_9 dX4_copyFrom_5 ?_
  have h := h _ rfl
  obtain ⟨s1, e1⟩ : ∃ z, z = up s 35 0 (s 17 0) := ⟨_, rfl⟩
  rw [← e1] at h ⊢
  refine G_aload_n C dX4_copyFrom_8 rfl ?_
  refine G_aload_n C dX4_copyFrom_9 rfl ?_
  refine gI_X4_1 C ly_17 rfl wf_X4_15 dX4_copyFrom_10 ?_
  refine gP_X4_1 C ly_35 rfl wf_X4_15 dX4_copyFrom_13 ?_
  have h := h _ rfl
  obtain ⟨s2, e2⟩ : ∃ z, z = up s1 35 1 (s1 17 1) := ⟨_, rfl⟩
  rw [← e2] at h ⊢
  refine G_aload_n C dX4_copyFrom_16 rfl ?_
  refine gR_X4_2 C ly_17 rfl wf_X4_18 dX4_copyFrom_17 ?_
  refine G_iconst C dX4_copyFrom_20 ?_
  refine G_aload_n C dX4_copyFrom_21 rfl ?_
  refine gR_X4_2 C ly_35 rfl wf_X4_18 dX4_copyFrom_22 ?_
  refine G_iconst C dX4_copyFrom_25 ?_
  refine G_bipush C dX4_copyFrom_26 bi_16 ?_
  refine G_copy C ly_18 ly_36 (by decide) (by decide) h1d (Nat.le_of_ble_eq_true rfl) ws_751 arw dX4_copyFrom_28 ?_
  have h := h _ rfl
  obtain ⟨s3, e3⟩ : ∃ z, z = cpy s2 18 36 0 0 16 := ⟨_, rfl⟩
  rw [← e3] at h ⊢
  refine G_aload_n C dX4_copyFrom_31 rfl ?_
  refine gR_X4_3 C ly_17 rfl wf_X4_22 dX4_copyFrom_32 ?_
  refine G_iconst C dX4_copyFrom_35 ?_
  refine G_aload_n C dX4_copyFrom_36 rfl ?_
  refine gR_X4_3 C ly_35 rfl wf_X4_22 dX4_copyFrom_37 ?_
  refine G_iconst C dX4_copyFrom_40 ?_
  refine G_bipush C dX4_copyFrom_41 bi_16 ?_
  refine G_copy C ly_19 ly_37 (by decide) (by decide) h1d (Nat.le_of_ble_eq_true rfl) ws_751 arw dX4_copyFrom_43 ?_
  have h := h _ rfl
  obtain ⟨s4, e4⟩ : ∃ z, z = cpy s3 19 37 0 0 16 := ⟨_, rfl⟩
  rw [← e4] at h ⊢
  refine G_aload_n C dX4_copyFrom_46 rfl ?_
  refine gR_X4_4 C ly_17 rfl wf_X4_25 dX4_copyFrom_47 ?_
  refine G_iconst C dX4_copyFrom_50 ?_
  refine G_aload_n C dX4_copyFrom_51 rfl ?_
  refine gR_X4_4 C ly_35 rfl wf_X4_25 dX4_copyFrom_52 ?_
  refine G_iconst C dX4_copyFrom_55 ?_
  refine G_aload_n C dX4_copyFrom_56 rfl ?_
  refine gI_X4_1 C ly_35 rfl wf_X4_15 dX4_copyFrom_57 ?_
  refine G_copy C ly_20 ly_38 (by decide) h.1 h1d (Nat.le_of_ble_eq_true rfl) ws_751 arw dX4_copyFrom_60 ?_
  have h := h.2
  have h := h _ rfl
  obtain ⟨s5, e5⟩ : ∃ z, z = cpy s4 20 38 0 0 (s4 35 1) := ⟨_, rfl⟩
  rw [← e5] at h ⊢
  exact r _ _ _ dX4_copyFrom_63 h
set_option maxRecDepth 20000 in
theorem kb_X12_raw_0 {X : Cx} {d : Nat} {P : Int → Sto → Prop} (C : Ok LY X RX12 cX12_raw 2 d) (r : RetI LY X cX12_raw P) {v1 : Int} {s : Sto} (h : ((rg v1 ∧ rg (s 75 24)) ∧ (((s 75 24) ≤ v1 → P (-1) s) ∧ (v1 < (s 75 24) → ((0 ≤ v1 ∧ v1 < 400) ∧ P (s 91 v1) s))))) : G LY X 0 [rv 75, iv v1] [] s := by
  refine G_iload_n C dX12_raw_0 rfl ?_
  refine G_aload_n C dX12_raw_1 rfl ?_
  refine gI_X12_24 C ly_75 rfl wf_X12_157 dX12_raw_2 ?_
  refine G_icmp_ge (tgt := 17) C dX12_raw_5 (by decide) ⟨h.1.1, h.1.2⟩ (fun q => ?_) (fun q => ?_)
  · have h := h.2.1 q
    refine G_iconst C dX12_raw_17 ?_
    exact r _ _ _ _ dX12_raw_18 h
  · have h := h.2.2 q
    refine G_aload_n C dX12_raw_8 rfl ?_
    refine gR_X12_23 C ly_75 rfl wf_X12_59 dX12_raw_9 ?_
    refine G_iload_n C dX12_raw_12 rfl ?_
    refine G_iald C ly_91 (by decide) h.1 dX12_raw_13 ?_
    have h := h.2
    refine G_goto (tgt := 18) C dX12_raw_14 (by decide) ?_
    exact r _ _ _ _ dX12_raw_18 h
set_option maxRecDepth 20000 in
theorem kb_X12_isLetter_0 {X : Cx} {d : Nat} {P : Int → Sto → Prop} (C : Ok LY X RX12 cX12_isLetter 2 d) (r : RetZ LY X cX12_isLetter P) {v1 : Int} {s : Sto} (h : (CallI LY d MX12_isIn [.inr 75, .inl v1, .inl 97, .inl 122] s (fun r1 s1 => ((rg r1) ∧ ((r1 ≠ 0 → P 1 s1) ∧ (r1 = 0 → (CallI LY d MX12_isIn [.inr 75, .inl v1, .inl 65, .inl 90] s1 (fun r2 s2 => ((rg r2) ∧ ((r2 = 0 → P 0 s2) ∧ (r2 ≠ 0 → P 1 s2))))))))))) : G LY X 0 [rv 75, iv v1] [] s := by
  refine G_aload_n C dX12_isLetter_0 rfl ?_
  refine G_iload_n C dX12_isLetter_1 rfl ?_
  refine G_bipush C dX12_isLetter_2 bi_97 ?_
  refine G_bipush C dX12_isLetter_4 bi_122 ?_
  refine G_callVI (K := []) (args := [.inl v1, .inl 97, .inl 122]) (T := TX12) (N := 72) C ly_75 rfl (Nat.le_of_ble_eq_true rfl) mo_X12_isIn wc_X12_160 rfl dX12_isLetter_6 h (fun r1 s1 h => ?_)
  refine G_if_ne (tgt := 24) C dX12_isLetter_9 (by decide) h.1 (fun q => ?_) (fun q => ?_)
  · have h := h.2.1 q
    refine G_iconst C dX12_isLetter_24 ?_
    refine G_goto (tgt := 29) C dX12_isLetter_25 (by decide) ?_
    exact r _ _ _ _ dX12_isLetter_29 (by decide) h
  · have h := h.2.2 q
    refine G_aload_n C dX12_isLetter_12 rfl ?_
    refine G_iload_n C dX12_isLetter_13 rfl ?_
    refine G_bipush C dX12_isLetter_14 bi_65 ?_
    refine G_bipush C dX12_isLetter_16 bi_90 ?_
    refine G_callVI (K := []) (args := [.inl v1, .inl 65, .inl 90]) (T := TX12) (N := 72) C ly_75 rfl (Nat.le_of_ble_eq_true rfl) mo_X12_isIn wc_X12_160 rfl dX12_isLetter_18 h (fun r2 s2 h => ?_)
    refine G_if_eq (tgt := 28) C dX12_isLetter_21 (by decide) h.1 (fun q => ?_) (fun q => ?_)
    · have h := h.2.1 q
      refine G_iconst C dX12_isLetter_28 ?_
      exact r _ _ _ _ dX12_isLetter_29 (by decide) h
    · have h := h.2.2 q
      refine G_iconst C dX12_isLetter_24 ?_
      refine G_goto (tgt := 29) C dX12_isLetter_25 (by decide) ?_
      exact r _ _ _ _ dX12_isLetter_29 (by decide) h
set_option maxRecDepth 20000 in
theorem kb_X12_isDigit_0 {X : Cx} {d : Nat} {P : Int → Sto → Prop} (C : Ok LY X RX12 cX12_isDigit 2 d) (r : RetZ LY X cX12_isDigit P) {v1 : Int} {s : Sto} (h : (CallI LY d MX12_isIn [.inr 75, .inl v1, .inl 48, .inl 57] s (fun r1 s1 => ((r1 = 0 ∨ r1 = 1) ∧ P r1 s1)))) : G LY X 0 [rv 75, iv v1] [] s := by
  refine G_aload_n C dX12_isDigit_0 rfl ?_
  refine G_iload_n C dX12_isDigit_1 rfl ?_
  refine G_bipush C dX12_isDigit_2 bi_48 ?_
  refine G_bipush C dX12_isDigit_4 bi_57 ?_
  refine G_callVI (K := []) (args := [.inl v1, .inl 48, .inl 57]) (T := TX12) (N := 72) C ly_75 rfl (Nat.le_of_ble_eq_true rfl) mo_X12_isIn wc_X12_160 rfl dX12_isDigit_6 h (fun r1 s1 h => ?_)
  exact r _ _ _ _ dX12_isDigit_9 h.1 h.2
set_option maxRecDepth 20000 in
theorem kb_X12_isMarkSign_0 {X : Cx} {d : Nat} {P : Int → Sto → Prop} (C : Ok LY X RX12 cX12_isMarkSign 2 d) (r : RetZ LY X cX12_isMarkSign P) {v1 : Int} {s : Sto} (h : ((rg v1) ∧ ((v1 = 59 → P 1 s) ∧ (v1 ≠ 59 → ((rg v1) ∧ ((v1 = 43 → P 1 s) ∧ (v1 ≠ 43 → ((rg v1) ∧ ((v1 = 45 → P 1 s) ∧ (v1 ≠ 45 → ((rg v1) ∧ ((v1 = 42 → P 1 s) ∧ (v1 ≠ 42 → ((rg v1) ∧ ((v1 = 47 → P 1 s) ∧ (v1 ≠ 47 → ((rg v1) ∧ ((v1 = 40 → P 1 s) ∧ (v1 ≠ 40 → ((rg v1) ∧ ((v1 = 41 → P 1 s) ∧ (v1 ≠ 41 → ((rg v1) ∧ ((v1 = 60 → P 1 s) ∧ (v1 ≠ 60 → ((rg v1) ∧ ((v1 = 61 → P 1 s) ∧ (v1 ≠ 61 → ((rg v1) ∧ ((v1 ≠ 62 → P 0 s) ∧ (v1 = 62 → P 1 s))))))))))))))))))))))))))))))) : G LY X 0 [rv 75, iv v1] [] s := by
  refine G_iload_n C dX12_isMarkSign_0 rfl ?_
  refine G_bipush C dX12_isMarkSign_1 bi_59 ?_
  refine G_icmp_eq (tgt := 60) C dX12_isMarkSign_3 (by decide) ⟨h.1, (by decide)⟩ (fun q => ?_) (fun q => ?_)
  · have h := h.2.1 q
    refine G_iconst C dX12_isMarkSign_60 ?_
    refine G_goto (tgt := 65) C dX12_isMarkSign_61 (by decide) ?_
    exact r _ _ _ _ dX12_isMarkSign_65 (by decide) h
  · have h := h.2.2 q
    refine G_iload_n C dX12_isMarkSign_6 rfl ?_
    refine G_bipush C dX12_isMarkSign_7 bi_43 ?_
    refine G_icmp_eq (tgt := 60) C dX12_isMarkSign_9 (by decide) ⟨h.1, (by decide)⟩ (fun q => ?_) (fun q => ?_)
    · have h := h.2.1 q
      refine G_iconst C dX12_isMarkSign_60 ?_
      refine G_goto (tgt := 65) C dX12_isMarkSign_61 (by decide) ?_
      exact r _ _ _ _ dX12_isMarkSign_65 (by decide) h
    · have h := h.2.2 q
      refine G_iload_n C dX12_isMarkSign_12 rfl ?_
      refine G_bipush C dX12_isMarkSign_13 bi_45 ?_
      refine G_icmp_eq (tgt := 60) C dX12_isMarkSign_15 (by decide) ⟨h.1, (by decide)⟩ (fun q => ?_) (fun q => ?_)
      · have h := h.2.1 q
        refine G_iconst C dX12_isMarkSign_60 ?_
        refine G_goto (tgt := 65) C dX12_isMarkSign_61 (by decide) ?_
        exact r _ _ _ _ dX12_isMarkSign_65 (by decide) h
      · have h := h.2.2 q
        refine G_iload_n C dX12_isMarkSign_18 rfl ?_
        refine G_bipush C dX12_isMarkSign_19 bi_42 ?_
        refine G_icmp_eq (tgt := 60) C dX12_isMarkSign_21 (by decide) ⟨h.1, (by decide)⟩ (fun q => ?_) (fun q => ?_)
        · have h := h.2.1 q
          refine G_iconst C dX12_isMarkSign_60 ?_
          refine G_goto (tgt := 65) C dX12_isMarkSign_61 (by decide) ?_
          exact r _ _ _ _ dX12_isMarkSign_65 (by decide) h
        · have h := h.2.2 q
          refine G_iload_n C dX12_isMarkSign_24 rfl ?_
          refine G_bipush C dX12_isMarkSign_25 bi_47 ?_
          refine G_icmp_eq (tgt := 60) C dX12_isMarkSign_27 (by decide) ⟨h.1, (by decide)⟩ (fun q => ?_) (fun q => ?_)
          · have h := h.2.1 q
            refine G_iconst C dX12_isMarkSign_60 ?_
            refine G_goto (tgt := 65) C dX12_isMarkSign_61 (by decide) ?_
            exact r _ _ _ _ dX12_isMarkSign_65 (by decide) h
          · have h := h.2.2 q
            refine G_iload_n C dX12_isMarkSign_30 rfl ?_
            refine G_bipush C dX12_isMarkSign_31 bi_40 ?_
            refine G_icmp_eq (tgt := 60) C dX12_isMarkSign_33 (by decide) ⟨h.1, (by decide)⟩ (fun q => ?_) (fun q => ?_)
            · have h := h.2.1 q
              refine G_iconst C dX12_isMarkSign_60 ?_
              refine G_goto (tgt := 65) C dX12_isMarkSign_61 (by decide) ?_
              exact r _ _ _ _ dX12_isMarkSign_65 (by decide) h
            · have h := h.2.2 q
              refine G_iload_n C dX12_isMarkSign_36 rfl ?_
              refine G_bipush C dX12_isMarkSign_37 bi_41 ?_
              refine G_icmp_eq (tgt := 60) C dX12_isMarkSign_39 (by decide) ⟨h.1, (by decide)⟩ (fun q => ?_) (fun q => ?_)
              · have h := h.2.1 q
                refine G_iconst C dX12_isMarkSign_60 ?_
                refine G_goto (tgt := 65) C dX12_isMarkSign_61 (by decide) ?_
                exact r _ _ _ _ dX12_isMarkSign_65 (by decide) h
              · have h := h.2.2 q
                refine G_iload_n C dX12_isMarkSign_42 rfl ?_
                refine G_bipush C dX12_isMarkSign_43 bi_60 ?_
                refine G_icmp_eq (tgt := 60) C dX12_isMarkSign_45 (by decide) ⟨h.1, (by decide)⟩ (fun q => ?_) (fun q => ?_)
                · have h := h.2.1 q
                  refine G_iconst C dX12_isMarkSign_60 ?_
                  refine G_goto (tgt := 65) C dX12_isMarkSign_61 (by decide) ?_
                  exact r _ _ _ _ dX12_isMarkSign_65 (by decide) h
                · have h := h.2.2 q
                  refine G_iload_n C dX12_isMarkSign_48 rfl ?_
                  refine G_bipush C dX12_isMarkSign_49 bi_61 ?_
                  refine G_icmp_eq (tgt := 60) C dX12_isMarkSign_51 (by decide) ⟨h.1, (by decide)⟩ (fun q => ?_) (fun q => ?_)
                  · have h := h.2.1 q
                    refine G_iconst C dX12_isMarkSign_60 ?_
                    refine G_goto (tgt := 65) C dX12_isMarkSign_61 (by decide) ?_
                    exact r _ _ _ _ dX12_isMarkSign_65 (by decide) h
                  · have h := h.2.2 q
                    refine G_iload_n C dX12_isMarkSign_54 rfl ?_
                    refine G_bipush C dX12_isMarkSign_55 bi_62 ?_
                    refine G_icmp_ne (tgt := 64) C dX12_isMarkSign_57 (by decide) ⟨h.1, (by decide)⟩ (fun q => ?_) (fun q => ?_)
                    · have h := h.2.1 q
                      refine G_iconst C dX12_isMarkSign_64 ?_
                      exact r _ _ _ _ dX12_isMarkSign_65 (by decide) h
                    · have h := h.2.2 q
                      refine G_iconst C dX12_isMarkSign_60 ?_
                      refine G_goto (tgt := 65) C dX12_isMarkSign_61 (by decide) ?_
                      exact r _ _ _ _ dX12_isMarkSign_65 (by decide) h
set_option maxRecDepth 20000 in
theorem kb_X12_wordAt_0 {X : Cx} {d : Nat} {P : Int → Sto → Prop} (C : Ok LY X RX12 cX12_wordAt 6 d) (r : RetI LY X cX12_wordAt P) {v1 v2 : Int} {s : Sto} (h : G LY X 5 [rv 75, iv v1, iv v2, iv (-1), iv 0, none] [] s) : G LY X 0 [rv 75, iv v1, iv v2, none, none, none] [] s := by
  refine G_iconst C dX12_wordAt_0 ?_
  refine G_istore_n (L' := [rv 75, iv v1, iv v2, iv (-1), none, none]) C dX12_wordAt_1 (by decide) rfl ?_
  refine G_iconst C dX12_wordAt_2 ?_
  refine G_istore (L' := [rv 75, iv v1, iv v2, iv (-1), iv 0, none]) C dX12_wordAt_3 (by decide) rfl ?_
  exact h
set_option maxRecDepth 20000 in
theorem kb_X12_wordAt_5 {X : Cx} {d : Nat} {P : Int → Sto → Prop} (C : Ok LY X RX12 cX12_wordAt 6 d) (r : RetI LY X cX12_wordAt P) {v1 v2 v3 v4 : Int} {s : Sto} (h : ((rg v4) ∧ ((80 ≤ v4 → P (-1) s) ∧ (v4 < 80 → G LY X 19 [rv 75, iv v1, iv v2, iv (v3 + 1), iv v4, iv 0] [] s)))) : G LY X 5 [rv 75, iv v1, iv v2, iv v3, iv v4, none] [] s := by
  refine G_iload C dX12_wordAt_5 rfl ?_
  refine G_bipush C dX12_wordAt_7 bi_80 ?_
  refine G_icmp_ge (tgt := 117) C dX12_wordAt_9 (by decide) ⟨h.1, (by decide)⟩ (fun q => ?_) (fun q => ?_)
  · have h := h.2.1 q
    refine G_iconst C dX12_wordAt_117 ?_
    exact r _ _ _ _ dX12_wordAt_118 h
  · have h := h.2.2 q
    refine G_iconst C dX12_wordAt_12 ?_
    refine G_istore (L' := [rv 75, iv v1, iv v2, iv v3, iv v4, iv 0]) C dX12_wordAt_13 (by decide) rfl ?_
    refine G_iload_n C dX12_wordAt_15 rfl ?_
    refine G_iconst C dX12_wordAt_16 ?_
    refine G_iadd C dX12_wordAt_17 ?_
    refine G_istore_n (L' := [rv 75, iv v1, iv v2, iv (v3 + 1), iv v4, iv 0]) C dX12_wordAt_18 (by decide) rfl ?_
    exact h
set_option maxRecDepth 20000 in
theorem kb_X12_wordAt_19 {X : Cx} {d : Nat} {P : Int → Sto → Prop} (C : Ok LY X RX12 cX12_wordAt 6 d) (r : RetI LY X cX12_wordAt P) {v1 v2 v3 v4 v5 : Int} {s : Sto} (h : ((rg (v1 + v5) ∧ rg v2) ∧ ((v2 ≤ (v1 + v5) → ((rg (v1 + v5) ∧ rg v2) ∧ (((v1 + v5) ≠ v2 → G LY X 93 [rv 75, iv v1, iv v2, iv v3, iv (v4 + 1), iv v5] [] s) ∧ ((v1 + v5) = v2 → ((0 ≤ ((v4 + 1) + v5) ∧ ((v4 + 1) + v5) < 81) ∧ ((rg (s 92 ((v4 + 1) + v5))) ∧ (((s 92 ((v4 + 1) + v5)) ≠ 32 → G LY X 93 [rv 75, iv v1, iv v2, iv v3, iv (v4 + 1), iv v5] [] s) ∧ ((s 92 ((v4 + 1) + v5)) = 32 → P v3 s)))))))) ∧ ((v1 + v5) < v2 → ((0 ≤ ((v4 + 1) + v5) ∧ ((v4 + 1) + v5) < 81) ∧ ((0 ≤ (v1 + v5) ∧ (v1 + v5) < 400) ∧ ((rg (s 92 ((v4 + 1) + v5)) ∧ rg (s 91 (v1 + v5))) ∧ (((s 92 ((v4 + 1) + v5)) ≠ (s 91 (v1 + v5)) → ((rg (v1 + v5) ∧ rg v2) ∧ (((v1 + v5) ≠ v2 → G LY X 93 [rv 75, iv v1, iv v2, iv v3, iv (v4 + 1), iv v5] [] s) ∧ ((v1 + v5) = v2 → ((0 ≤ ((v4 + 1) + v5) ∧ ((v4 + 1) + v5) < 81) ∧ ((rg (s 92 ((v4 + 1) + v5))) ∧ (((s 92 ((v4 + 1) + v5)) ≠ 32 → G LY X 93 [rv 75, iv v1, iv v2, iv v3, iv (v4 + 1), iv v5] [] s) ∧ ((s 92 ((v4 + 1) + v5)) = 32 → P v3 s)))))))) ∧ ((s 92 ((v4 + 1) + v5)) = (s 91 (v1 + v5)) → G LY X 19 [rv 75, iv v1, iv v2, iv v3, iv v4, iv (v5 + 1)] [] s))))))))) : G LY X 19 [rv 75, iv v1, iv v2, iv v3, iv v4, iv v5] [] s := by
  refine G_iload_n C dX12_wordAt_19 rfl ?_
  refine G_iload C dX12_wordAt_20 rfl ?_
  refine G_iadd C dX12_wordAt_22 ?_
  refine G_iload_n C dX12_wordAt_23 rfl ?_
  refine G_icmp_ge (tgt := 60) C dX12_wordAt_24 (by decide) ⟨h.1.1, h.1.2⟩ (fun q => ?_) (fun q => ?_)
  · have h := h.2.1 q
    refine G_iload_n C dX12_wordAt_60 rfl ?_
    refine G_iload C dX12_wordAt_61 rfl ?_
    refine G_iadd C dX12_wordAt_63 ?_
    refine G_iload_n C dX12_wordAt_64 rfl ?_
    refine G_icmp_ne (tgt := 87) C dX12_wordAt_65 (by decide) ⟨h.1.1, h.1.2⟩ (fun q => ?_) (fun q => ?_)
    · have h := h.2.1 q
      refine G_iload C dX12_wordAt_87 rfl ?_
      refine G_iconst C dX12_wordAt_89 ?_
      refine G_iadd C dX12_wordAt_90 ?_
      refine G_istore (L' := [rv 75, iv v1, iv v2, iv v3, iv (v4 + 1), iv v5]) C dX12_wordAt_91 (by decide) rfl ?_
      exact h
    · have h := h.2.2 q
      refine G_aload_n C dX12_wordAt_68 rfl ?_
      refine gR_X12_29 C ly_75 rfl wf_X12_62 dX12_wordAt_69 ?_
      refine G_iload C dX12_wordAt_72 rfl ?_
      refine G_iconst C dX12_wordAt_74 ?_
      refine G_iadd C dX12_wordAt_75 ?_
      refine G_iload C dX12_wordAt_76 rfl ?_
      refine G_iadd C dX12_wordAt_78 ?_
      refine G_iald C ly_92 (by decide) h.1 dX12_wordAt_79 ?_
      have h := h.2
      refine G_bipush C dX12_wordAt_80 bi_32 ?_
      refine G_icmp_ne (tgt := 87) C dX12_wordAt_82 (by decide) ⟨h.1, (by decide)⟩ (fun q => ?_) (fun q => ?_)
      · have h := h.2.1 q
        refine G_iload C dX12_wordAt_87 rfl ?_
        refine G_iconst C dX12_wordAt_89 ?_
        refine G_iadd C dX12_wordAt_90 ?_
        refine G_istore (L' := [rv 75, iv v1, iv v2, iv v3, iv (v4 + 1), iv v5]) C dX12_wordAt_91 (by decide) rfl ?_
        exact h
      · have h := h.2.2 q
        refine G_iload_n C dX12_wordAt_85 rfl ?_
        exact r _ _ _ _ dX12_wordAt_86 h
  · have h := h.2.2 q
    refine G_aload_n C dX12_wordAt_27 rfl ?_
    refine gR_X12_29 C ly_75 rfl wf_X12_62 dX12_wordAt_28 ?_
    refine G_iload C dX12_wordAt_31 rfl ?_
    refine G_iconst C dX12_wordAt_33 ?_
    refine G_iadd C dX12_wordAt_34 ?_
    refine G_iload C dX12_wordAt_35 rfl ?_
    refine G_iadd C dX12_wordAt_37 ?_
    refine G_iald C ly_92 (by decide) h.1 dX12_wordAt_38 ?_
    have h := h.2
    refine G_aload_n C dX12_wordAt_39 rfl ?_
    refine gR_X12_23 C ly_75 rfl wf_X12_59 dX12_wordAt_40 ?_
    refine G_iload_n C dX12_wordAt_43 rfl ?_
    refine G_iload C dX12_wordAt_44 rfl ?_
    refine G_iadd C dX12_wordAt_46 ?_
    refine G_iald C ly_91 (by decide) h.1 dX12_wordAt_47 ?_
    have h := h.2
    refine G_icmp_ne (tgt := 60) C dX12_wordAt_48 (by decide) ⟨h.1.1, h.1.2⟩ (fun q => ?_) (fun q => ?_)
    · have h := h.2.1 q
      refine G_iload_n C dX12_wordAt_60 rfl ?_
      refine G_iload C dX12_wordAt_61 rfl ?_
      refine G_iadd C dX12_wordAt_63 ?_
      refine G_iload_n C dX12_wordAt_64 rfl ?_
      refine G_icmp_ne (tgt := 87) C dX12_wordAt_65 (by decide) ⟨h.1.1, h.1.2⟩ (fun q => ?_) (fun q => ?_)
      · have h := h.2.1 q
        refine G_iload C dX12_wordAt_87 rfl ?_
        refine G_iconst C dX12_wordAt_89 ?_
        refine G_iadd C dX12_wordAt_90 ?_
        refine G_istore (L' := [rv 75, iv v1, iv v2, iv v3, iv (v4 + 1), iv v5]) C dX12_wordAt_91 (by decide) rfl ?_
        exact h
      · have h := h.2.2 q
        refine G_aload_n C dX12_wordAt_68 rfl ?_
        refine gR_X12_29 C ly_75 rfl wf_X12_62 dX12_wordAt_69 ?_
        refine G_iload C dX12_wordAt_72 rfl ?_
        refine G_iconst C dX12_wordAt_74 ?_
        refine G_iadd C dX12_wordAt_75 ?_
        refine G_iload C dX12_wordAt_76 rfl ?_
        refine G_iadd C dX12_wordAt_78 ?_
        refine G_iald C ly_92 (by decide) h.1 dX12_wordAt_79 ?_
        have h := h.2
        refine G_bipush C dX12_wordAt_80 bi_32 ?_
        refine G_icmp_ne (tgt := 87) C dX12_wordAt_82 (by decide) ⟨h.1, (by decide)⟩ (fun q => ?_) (fun q => ?_)
        · have h := h.2.1 q
          refine G_iload C dX12_wordAt_87 rfl ?_
          refine G_iconst C dX12_wordAt_89 ?_
          refine G_iadd C dX12_wordAt_90 ?_
          refine G_istore (L' := [rv 75, iv v1, iv v2, iv v3, iv (v4 + 1), iv v5]) C dX12_wordAt_91 (by decide) rfl ?_
          exact h
        · have h := h.2.2 q
          refine G_iload_n C dX12_wordAt_85 rfl ?_
          exact r _ _ _ _ dX12_wordAt_86 h
    · have h := h.2.2 q
      refine G_iload C dX12_wordAt_51 rfl ?_
      refine G_iconst C dX12_wordAt_53 ?_
      refine G_iadd C dX12_wordAt_54 ?_
      refine G_istore (L' := [rv 75, iv v1, iv v2, iv v3, iv v4, iv (v5 + 1)]) C dX12_wordAt_55 (by decide) rfl ?_
      refine G_goto (tgt := 19) C dX12_wordAt_57 (by decide) ?_
      exact h
set_option maxRecDepth 20000 in
theorem kb_X12_wordAt_93 {X : Cx} {d : Nat} {P : Int → Sto → Prop} (C : Ok LY X RX12 cX12_wordAt 6 d) (r : RetI LY X cX12_wordAt P) {v1 v2 v3 v4 v5 : Int} {s : Sto} (h : ((0 ≤ v4 ∧ v4 < 81) ∧ ((rg (s 92 v4)) ∧ (((s 92 v4) = 32 → G LY X 5 [rv 75, iv v1, iv v2, iv v3, iv v4, none] [] s) ∧ ((s 92 v4) ≠ 32 → G LY X 93 [rv 75, iv v1, iv v2, iv v3, iv (v4 + 1), iv v5] [] s))))) : G LY X 93 [rv 75, iv v1, iv v2, iv v3, iv v4, iv v5] [] s := by
  refine G_aload_n C dX12_wordAt_93 rfl ?_
  refine gR_X12_29 C ly_75 rfl wf_X12_62 dX12_wordAt_94 ?_
  refine G_iload C dX12_wordAt_97 rfl ?_
  refine G_iald C ly_92 (by decide) h.1 dX12_wordAt_99 ?_
  have h := h.2
  refine G_bipush C dX12_wordAt_100 bi_32 ?_
  refine G_icmp_eq (tgt := 114) C dX12_wordAt_102 (by decide) ⟨h.1, (by decide)⟩ (fun q => ?_) (fun q => ?_)
  · have h := h.2.1 q
    refine G_goto (tgt := 5) C dX12_wordAt_114 (by decide) ?_
    refine G_drop (i := 5) (L' := [rv 75, iv v1, iv v2, iv v3, iv v4, none]) rfl ?_
    exact h
  · have h := h.2.2 q
    refine G_iload C dX12_wordAt_105 rfl ?_
    refine G_iconst C dX12_wordAt_107 ?_
    refine G_iadd C dX12_wordAt_108 ?_
    refine G_istore (L' := [rv 75, iv v1, iv v2, iv v3, iv (v4 + 1), iv v5]) C dX12_wordAt_109 (by decide) rfl ?_
    refine G_goto (tgt := 93) C dX12_wordAt_111 (by decide) ?_
    exact h
set_option maxRecDepth 20000 in
theorem kb_X12_errs_0 {X : Cx} {d : Nat} {P : Int → Sto → Prop} (C : Ok LY X RX12 cX12_errs 2 d) (r : RetI LY X cX12_errs P) {v1 : Int} {s : Sto} (h : (∀ s1 : Sto, s1 = up s 75 40 v1 → (∀ s2 : Sto, s2 = up s1 75 41 (s1 75 26) → P (-1) s2))) : G LY X 0 [rv 75, iv v1] [] s := by
  refine G_aload_n C dX12_errs_0 rfl ?_
  refine G_iload_n C dX12_errs_1 rfl ?_
  refine gP_X12_40 C ly_75 rfl wf_X12_240 dX12_errs_2 ?_
  have h := h _ rfl
  obtain ⟨s1, e1⟩ : ∃ z, z = up s 75 40 v1 := ⟨_, rfl⟩
  rw [← e1] at h ⊢
  refine G_aload_n C dX12_errs_5 rfl ?_
  refine G_aload_n C dX12_errs_6 rfl ?_
  refine gI_X12_26 C ly_75 rfl wf_X12_218 dX12_errs_7 ?_
  refine gP_X12_41 C ly_75 rfl wf_X12_243 dX12_errs_10 ?_
  have h := h _ rfl
  obtain ⟨s2, e2⟩ : ∃ z, z = up s1 75 41 (s1 75 26) := ⟨_, rfl⟩
  rw [← e2] at h ⊢
  refine G_iconst C dX12_errs_13 ?_
  exact r _ _ _ _ dX12_errs_14 h
set_option maxRecDepth 20000 in
theorem kb_X12_isWord_0 {X : Cx} {d : Nat} {P : Int → Sto → Prop} (C : Ok LY X RX12 cX12_isWord 2 d) (r : RetZ LY X cX12_isWord P) {v1 : Int} {s : Sto} (h : ((rg (s 75 27)) ∧ (((s 75 27) ≠ 2 → P 0 s) ∧ ((s 75 27) = 2 → ((rg (s 75 28) ∧ rg v1) ∧ (((s 75 28) ≠ v1 → P 0 s) ∧ ((s 75 28) = v1 → P 1 s))))))) : G LY X 0 [rv 75, iv v1] [] s := by
  refine G_aload_n C dX12_isWord_0 rfl ?_
  refine gI_X12_27 C ly_75 rfl wf_X12_221 dX12_isWord_1 ?_
  refine G_iconst C dX12_isWord_4 ?_
  refine G_icmp_ne (tgt := 20) C dX12_isWord_5 (by decide) ⟨h.1, (by decide)⟩ (fun q => ?_) (fun q => ?_)
  · have h := h.2.1 q
    refine G_iconst C dX12_isWord_20 ?_
    exact r _ _ _ _ dX12_isWord_21 (by decide) h
  · have h := h.2.2 q
    refine G_aload_n C dX12_isWord_8 rfl ?_
    refine gI_X12_28 C ly_75 rfl wf_X12_224 dX12_isWord_9 ?_
    refine G_iload_n C dX12_isWord_12 rfl ?_
    refine G_icmp_ne (tgt := 20) C dX12_isWord_13 (by decide) ⟨h.1.1, h.1.2⟩ (fun q => ?_) (fun q => ?_)
    · have h := h.2.1 q
      refine G_iconst C dX12_isWord_20 ?_
      exact r _ _ _ _ dX12_isWord_21 (by decide) h
    · have h := h.2.2 q
      refine G_iconst C dX12_isWord_16 ?_
      refine G_goto (tgt := 21) C dX12_isWord_17 (by decide) ?_
      exact r _ _ _ _ dX12_isWord_21 (by decide) h
set_option maxRecDepth 20000 in
theorem kb_X12_isSign_0 {X : Cx} {d : Nat} {P : Int → Sto → Prop} (C : Ok LY X RX12 cX12_isSign 2 d) (r : RetZ LY X cX12_isSign P) {v1 : Int} {s : Sto} (h : ((rg (s 75 27)) ∧ (((s 75 27) ≠ 4 → P 0 s) ∧ ((s 75 27) = 4 → ((rg (s 75 28) ∧ rg v1) ∧ (((s 75 28) ≠ v1 → P 0 s) ∧ ((s 75 28) = v1 → P 1 s))))))) : G LY X 0 [rv 75, iv v1] [] s := by
  refine G_aload_n C dX12_isSign_0 rfl ?_
  refine gI_X12_27 C ly_75 rfl wf_X12_221 dX12_isSign_1 ?_
  refine G_iconst C dX12_isSign_4 ?_
  refine G_icmp_ne (tgt := 20) C dX12_isSign_5 (by decide) ⟨h.1, (by decide)⟩ (fun q => ?_) (fun q => ?_)
  · have h := h.2.1 q
    refine G_iconst C dX12_isSign_20 ?_
    exact r _ _ _ _ dX12_isSign_21 (by decide) h
  · have h := h.2.2 q
    refine G_aload_n C dX12_isSign_8 rfl ?_
    refine gI_X12_28 C ly_75 rfl wf_X12_224 dX12_isSign_9 ?_
    refine G_iload_n C dX12_isSign_12 rfl ?_
    refine G_icmp_ne (tgt := 20) C dX12_isSign_13 (by decide) ⟨h.1.1, h.1.2⟩ (fun q => ?_) (fun q => ?_)
    · have h := h.2.1 q
      refine G_iconst C dX12_isSign_20 ?_
      exact r _ _ _ _ dX12_isSign_21 (by decide) h
    · have h := h.2.2 q
      refine G_iconst C dX12_isSign_16 ?_
      refine G_goto (tgt := 21) C dX12_isSign_17 (by decide) ?_
      exact r _ _ _ _ dX12_isSign_21 (by decide) h
set_option maxRecDepth 20000 in
theorem kb_X12_readAny_0 {X : Cx} {d : Nat} {P : Int → Sto → Prop} (C : Ok LY X RX12 cX12_readAny 4 d) (r : RetI LY X cX12_readAny P) {s : Sto} (h : (∀ s1 : Sto, s1 = up s 75 39 0 → G LY X 9 [rv 75, iv 0, iv 1, none] [] s1)) : G LY X 0 [rv 75, none, none, none] [] s := by
  refine G_iconst C dX12_readAny_0 ?_
  refine G_istore_n (L' := [rv 75, iv 0, none, none]) C dX12_readAny_1 (by decide) rfl ?_
  refine G_aload_n C dX12_readAny_2 rfl ?_
  refine G_iconst C dX12_readAny_3 ?_
  refine gP_X12_39 C ly_75 rfl wf_X12_271 dX12_readAny_4 ?_
  have h := h _ rfl
  obtain ⟨s1, e1⟩ : ∃ z, z = up s 75 39 0 := ⟨_, rfl⟩
  rw [← e1] at h ⊢
  refine G_iconst C dX12_readAny_7 ?_
  refine G_istore_n (L' := [rv 75, iv 0, iv 1, none]) C dX12_readAny_8 (by decide) rfl ?_
  exact h
set_option maxRecDepth 20000 in
theorem kb_X12_readAny_9 {X : Cx} {d : Nat} {P : Int → Sto → Prop} (C : Ok LY X RX12 cX12_readAny 4 d) (r : RetI LY X cX12_readAny P) {v1 v2 : Int} {s : Sto} (h : ((rg v2) ∧ ((v2 = 0 → (CallI LY d MX12_isWord [.inr 75, .inl 4] s (fun r1 s1 => ((rg r1) ∧ ((r1 = 0 → (CallI LY d MX12_isWord [.inr 75, .inl 3] s1 (fun r2 s2 => ((rg r2) ∧ ((r2 = 0 → (CallV LY d MX12_settles [.inr 75, .inl 10] s2 (fun s3 => (CallV LY d MX12_settles [.inr 75, .inl 11] s3 (fun s4 => ((rg v1) ∧ ((v1 ≠ 0 → (CallI LY d MX12_isSign [.inr 75, .inl 41] s4 (fun r5 s5 => ((rg r5) ∧ ((r5 ≠ 0 → (∀ s6 : Sto, s6 = up s5 75 39 ((s5 75 39) - 1) → (∀ s7 : Sto, s7 = up s6 75 37 ((s6 75 37) - 1) → (CallV LY d MX12_settles [.inr 75, .inl 9] s7 (fun s8 => (CallV LY d MX12_reads [.inr 75] s8 (fun s9 => G LY X 9 [rv 75, iv (v1 - 1), iv v2, none] [] s9))))))) ∧ (r5 = 0 → (CallI LY d MX12_errs [.inr 75, .inl 1] s5 (fun r10 s10 => P r10 s10)))))))) ∧ (v1 = 0 → P 0 s4)))))))) ∧ (r2 ≠ 0 → (CallV LY d MX12_settles [.inr 75, .inl 10] s2 (fun s11 => (CallV LY d MX12_settles [.inr 75, .inl 11] s11 (fun s12 => (CallV LY d MX12_waits [.inr 75, .inl 11] s12 (fun s13 => (CallV LY d MX12_reads [.inr 75] s13 (fun s14 => G LY X 9 [rv 75, iv v1, iv 1, none] [] s14)))))))))))))) ∧ (r1 ≠ 0 → (CallV LY d MX12_settles [.inr 75, .inl 10] s1 (fun s15 => (CallV LY d MX12_waits [.inr 75, .inl 10] s15 (fun s16 => (CallV LY d MX12_reads [.inr 75] s16 (fun s17 => G LY X 9 [rv 75, iv v1, iv 1, none] [] s17)))))))))))) ∧ (v2 ≠ 0 → (CallI LY d MX12_isWord [.inr 75, .inl 5] s (fun r18 s18 => ((rg r18) ∧ ((r18 ≠ 0 → ((rg (s18 75 37)) ∧ (((s18 75 37) ≠ 8 → (∀ s19 : Sto, s19 = up s18 75 37 ((s18 75 37) + 1) → ((rg r18) ∧ ((r18 ≠ 0 → ((rg r18) ∧ ((r18 = 0 → (CallV LY d MX12_waits [.inr 75, .inl 12] s19 (fun s20 => (CallV LY d MX12_reads [.inr 75] s20 (fun s21 => G LY X 9 [rv 75, iv v1, iv v2, none] [] s21))))) ∧ (r18 ≠ 0 → (CallV LY d MX12_waits [.inr 75, .inl 9] s19 (fun s22 => (CallV LY d MX12_reads [.inr 75] s22 (fun s23 => G LY X 9 [rv 75, iv v1, iv v2, none] [] s23)))))))) ∧ (r18 = 0 → ((rg r18) ∧ ((r18 = 0 → (CallV LY d MX12_waits [.inr 75, .inl 12] s19 (fun s24 => (CallV LY d MX12_reads [.inr 75] s24 (fun s25 => G LY X 9 [rv 75, iv (v1 + 1), iv v2, none] [] s25))))) ∧ (r18 ≠ 0 → (CallV LY d MX12_waits [.inr 75, .inl 9] s19 (fun s26 => (CallV LY d MX12_reads [.inr 75] s26 (fun s27 => G LY X 9 [rv 75, iv (v1 + 1), iv v2, none] [] s27)))))))))))) ∧ ((s18 75 37) = 8 → (CallI LY d MX12_errs [.inr 75, .inl 3] s18 (fun r28 s28 => P r28 s28)))))) ∧ (r18 = 0 → (CallI LY d MX12_isSign [.inr 75, .inl 40] s18 (fun r29 s29 => ((rg r29) ∧ ((r29 = 0 → (CallI LY d MX12_readCompared [.inr 75] s29 (fun r30 s30 => ((rg r30) ∧ ((r30 ≠ (-1) → (CallV LY d MX12_settles [.inr 75, .inl 9] s30 (fun s31 => G LY X 9 [rv 75, iv v1, iv 0, none] [] s31))) ∧ (r30 = (-1) → P (-1) s30)))))) ∧ (r29 ≠ 0 → ((rg (s29 75 37)) ∧ (((s29 75 37) ≠ 8 → (∀ s32 : Sto, s32 = up s29 75 37 ((s29 75 37) + 1) → ((rg r18) ∧ ((r18 ≠ 0 → ((rg r18) ∧ ((r18 = 0 → (CallV LY d MX12_waits [.inr 75, .inl 12] s32 (fun s33 => (CallV LY d MX12_reads [.inr 75] s33 (fun s34 => G LY X 9 [rv 75, iv v1, iv v2, none] [] s34))))) ∧ (r18 ≠ 0 → (CallV LY d MX12_waits [.inr 75, .inl 9] s32 (fun s35 => (CallV LY d MX12_reads [.inr 75] s35 (fun s36 => G LY X 9 [rv 75, iv v1, iv v2, none] [] s36)))))))) ∧ (r18 = 0 → ((rg r18) ∧ ((r18 = 0 → (CallV LY d MX12_waits [.inr 75, .inl 12] s32 (fun s37 => (CallV LY d MX12_reads [.inr 75] s37 (fun s38 => G LY X 9 [rv 75, iv (v1 + 1), iv v2, none] [] s38))))) ∧ (r18 ≠ 0 → (CallV LY d MX12_waits [.inr 75, .inl 9] s32 (fun s39 => (CallV LY d MX12_reads [.inr 75] s39 (fun s40 => G LY X 9 [rv 75, iv (v1 + 1), iv v2, none] [] s40)))))))))))) ∧ ((s29 75 37) = 8 → (CallI LY d MX12_errs [.inr 75, .inl 3] s29 (fun r41 s41 => P r41 s41))))))))))))))))))) : G LY X 9 [rv 75, iv v1, iv v2, none] [] s := by
  refine G_iload_n C dX12_readAny_9 rfl ?_
  refine G_if_eq (tgt := 108) C dX12_readAny_10 (by decide) h.1 (fun q => ?_) (fun q => ?_)
  · have h := h.2.1 q
    refine G_aload_n C dX12_readAny_108 rfl ?_
    refine G_iconst C dX12_readAny_109 ?_
    refine G_callVI (K := []) (args := [.inl 4]) (T := TX12) (N := 72) C ly_75 rfl (Nat.le_of_ble_eq_true rfl) mo_X12_isWord wc_X12_277 rfl dX12_readAny_110 h (fun r1 s1 h => ?_)
    refine G_if_eq (tgt := 137) C dX12_readAny_113 (by decide) h.1 (fun q => ?_) (fun q => ?_)
    · have h := h.2.1 q
      refine G_aload_n C dX12_readAny_137 rfl ?_
      refine G_iconst C dX12_readAny_138 ?_
      refine G_callVI (K := []) (args := [.inl 3]) (T := TX12) (N := 72) C ly_75 rfl (Nat.le_of_ble_eq_true rfl) mo_X12_isWord wc_X12_277 rfl dX12_readAny_139 h (fun r2 s2 h => ?_)
      refine G_if_eq (tgt := 172) C dX12_readAny_142 (by decide) h.1 (fun q => ?_) (fun q => ?_)
      · have h := h.2.1 q
        refine G_aload_n C dX12_readAny_172 rfl ?_
        refine G_bipush C dX12_readAny_173 bi_10 ?_
        refine G_callVV (K := []) (args := [.inl 10]) (T := TX12) (N := 72) C ly_75 rfl (Nat.le_of_ble_eq_true rfl) mo_X12_settles wc_X12_286 rfl dX12_readAny_175 h (fun s3 h => ?_)
        refine G_aload_n C dX12_readAny_178 rfl ?_
        refine G_bipush C dX12_readAny_179 bi_11 ?_
        refine G_callVV (K := []) (args := [.inl 11]) (T := TX12) (N := 72) C ly_75 rfl (Nat.le_of_ble_eq_true rfl) mo_X12_settles wc_X12_286 rfl dX12_readAny_181 h (fun s4 h => ?_)
        refine G_iload_n C dX12_readAny_184 rfl ?_
        refine G_if_ne (tgt := 190) C dX12_readAny_185 (by decide) h.1 (fun q => ?_) (fun q => ?_)
        · have h := h.2.1 q
          refine G_aload_n C dX12_readAny_190 rfl ?_
          refine G_bipush C dX12_readAny_191 bi_41 ?_
          refine G_callVI (K := []) (args := [.inl 41]) (T := TX12) (N := 72) C ly_75 rfl (Nat.le_of_ble_eq_true rfl) mo_X12_isSign wc_X12_262 rfl dX12_readAny_193 h (fun r5 s5 h => ?_)
          refine G_if_ne (tgt := 205) C dX12_readAny_196 (by decide) h.1 (fun q => ?_) (fun q => ?_)
          · have h := h.2.1 q
            refine G_aload_n C dX12_readAny_205 rfl ?_
            refine G_aload_n C dX12_readAny_206 rfl ?_
            refine gI_X12_39 C ly_75 rfl wf_X12_271 dX12_readAny_207 ?_
            refine G_iconst C dX12_readAny_210 ?_
            refine G_isub C dX12_readAny_211 ?_
            refine gP_X12_39 C ly_75 rfl wf_X12_271 dX12_readAny_212 ?_
            have h := h _ rfl
            obtain ⟨s6, e6⟩ : ∃ z, z = up s5 75 39 ((s5 75 39) - 1) := ⟨_, rfl⟩
            rw [← e6] at h ⊢
            refine G_iload_n C dX12_readAny_215 rfl ?_
            refine G_iconst C dX12_readAny_216 ?_
            refine G_isub C dX12_readAny_217 ?_
            refine G_istore_n (L' := [rv 75, iv (v1 - 1), iv v2, none]) C dX12_readAny_218 (by decide) rfl ?_
            refine G_aload_n C dX12_readAny_219 rfl ?_
            refine G_aload_n C dX12_readAny_220 rfl ?_
            refine gI_X12_37 C ly_75 rfl wf_X12_274 dX12_readAny_221 ?_
            refine G_iconst C dX12_readAny_224 ?_
            refine G_isub C dX12_readAny_225 ?_
            refine gP_X12_37 C ly_75 rfl wf_X12_274 dX12_readAny_226 ?_
            have h := h _ rfl
            obtain ⟨s7, e7⟩ : ∃ z, z = up s6 75 37 ((s6 75 37) - 1) := ⟨_, rfl⟩
            rw [← e7] at h ⊢
            refine G_aload_n C dX12_readAny_229 rfl ?_
            refine G_bipush C dX12_readAny_230 bi_9 ?_
            refine G_callVV (K := []) (args := [.inl 9]) (T := TX12) (N := 72) C ly_75 rfl (Nat.le_of_ble_eq_true rfl) mo_X12_settles wc_X12_286 rfl dX12_readAny_232 h (fun s8 h => ?_)
            refine G_aload_n C dX12_readAny_235 rfl ?_
            refine G_callVV (K := []) (args := []) (T := TX12) (N := 72) C ly_75 rfl (Nat.le_of_ble_eq_true rfl) mo_X12_reads wc_X12_255 rfl dX12_readAny_236 h (fun s9 h => ?_)
            refine G_goto (tgt := 9) C dX12_readAny_239 (by decide) ?_
            exact h
          · have h := h.2.2 q
            refine G_aload_n C dX12_readAny_199 rfl ?_
            refine G_iconst C dX12_readAny_200 ?_
            refine G_callVI (K := []) (args := [.inl 1]) (T := TX12) (N := 72) C ly_75 rfl (Nat.le_of_ble_eq_true rfl) mo_X12_errs wc_X12_249 rfl dX12_readAny_201 h (fun r10 s10 h => ?_)
            exact r _ _ _ _ dX12_readAny_204 h
        · have h := h.2.2 q
          refine G_iconst C dX12_readAny_188 ?_
          exact r _ _ _ _ dX12_readAny_189 h
      · have h := h.2.2 q
        refine G_aload_n C dX12_readAny_145 rfl ?_
        refine G_bipush C dX12_readAny_146 bi_10 ?_
        refine G_callVV (K := []) (args := [.inl 10]) (T := TX12) (N := 72) C ly_75 rfl (Nat.le_of_ble_eq_true rfl) mo_X12_settles wc_X12_286 rfl dX12_readAny_148 h (fun s11 h => ?_)
        refine G_aload_n C dX12_readAny_151 rfl ?_
        refine G_bipush C dX12_readAny_152 bi_11 ?_
        refine G_callVV (K := []) (args := [.inl 11]) (T := TX12) (N := 72) C ly_75 rfl (Nat.le_of_ble_eq_true rfl) mo_X12_settles wc_X12_286 rfl dX12_readAny_154 h (fun s12 h => ?_)
        refine G_aload_n C dX12_readAny_157 rfl ?_
        refine G_bipush C dX12_readAny_158 bi_11 ?_
        refine G_callVV (K := []) (args := [.inl 11]) (T := TX12) (N := 72) C ly_75 rfl (Nat.le_of_ble_eq_true rfl) mo_X12_waits wc_X12_280 rfl dX12_readAny_160 h (fun s13 h => ?_)
        refine G_aload_n C dX12_readAny_163 rfl ?_
        refine G_callVV (K := []) (args := []) (T := TX12) (N := 72) C ly_75 rfl (Nat.le_of_ble_eq_true rfl) mo_X12_reads wc_X12_255 rfl dX12_readAny_164 h (fun s14 h => ?_)
        refine G_iconst C dX12_readAny_167 ?_
        refine G_istore_n (L' := [rv 75, iv v1, iv 1, none]) C dX12_readAny_168 (by decide) rfl ?_
        refine G_goto (tgt := 9) C dX12_readAny_169 (by decide) ?_
        exact h
    · have h := h.2.2 q
      refine G_aload_n C dX12_readAny_116 rfl ?_
      refine G_bipush C dX12_readAny_117 bi_10 ?_
      refine G_callVV (K := []) (args := [.inl 10]) (T := TX12) (N := 72) C ly_75 rfl (Nat.le_of_ble_eq_true rfl) mo_X12_settles wc_X12_286 rfl dX12_readAny_119 h (fun s15 h => ?_)
      refine G_aload_n C dX12_readAny_122 rfl ?_
      refine G_bipush C dX12_readAny_123 bi_10 ?_
      refine G_callVV (K := []) (args := [.inl 10]) (T := TX12) (N := 72) C ly_75 rfl (Nat.le_of_ble_eq_true rfl) mo_X12_waits wc_X12_280 rfl dX12_readAny_125 h (fun s16 h => ?_)
      refine G_aload_n C dX12_readAny_128 rfl ?_
      refine G_callVV (K := []) (args := []) (T := TX12) (N := 72) C ly_75 rfl (Nat.le_of_ble_eq_true rfl) mo_X12_reads wc_X12_255 rfl dX12_readAny_129 h (fun s17 h => ?_)
      refine G_iconst C dX12_readAny_132 ?_
      refine G_istore_n (L' := [rv 75, iv v1, iv 1, none]) C dX12_readAny_133 (by decide) rfl ?_
      refine G_goto (tgt := 9) C dX12_readAny_134 (by decide) ?_
      exact h
  · have h := h.2.2 q
    refine G_aload_n C dX12_readAny_13 rfl ?_
    refine G_iconst C dX12_readAny_14 ?_
    refine G_callVI (K := []) (args := [.inl 5]) (T := TX12) (N := 72) C ly_75 rfl (Nat.le_of_ble_eq_true rfl) mo_X12_isWord wc_X12_277 rfl dX12_readAny_15 h (fun r18 s18 h => ?_)
    refine G_istore_n (L' := [rv 75, iv v1, iv v2, iv r18]) C dX12_readAny_18 (by decide) rfl ?_
    refine G_iload_n C dX12_readAny_19 rfl ?_
    refine G_if_ne (tgt := 32) C dX12_readAny_20 (by decide) h.1 (fun q => ?_) (fun q => ?_)
    · have h := h.2.1 q
      refine G_aload_n C dX12_readAny_32 rfl ?_
      refine gI_X12_37 C ly_75 rfl wf_X12_274 dX12_readAny_33 ?_
      refine G_bipush C dX12_readAny_36 bi_8 ?_
      refine G_icmp_ne (tgt := 47) C dX12_readAny_38 (by decide) ⟨h.1, (by decide)⟩ (fun q => ?_) (fun q => ?_)
      · have h := h.2.1 q
        refine G_aload_n C dX12_readAny_47 rfl ?_
        refine G_aload_n C dX12_readAny_48 rfl ?_
        refine gI_X12_37 C ly_75 rfl wf_X12_274 dX12_readAny_49 ?_
        refine G_iconst C dX12_readAny_52 ?_
        refine G_iadd C dX12_readAny_53 ?_
        refine gP_X12_37 C ly_75 rfl wf_X12_274 dX12_readAny_54 ?_
        have h := h _ rfl
        obtain ⟨s19, e19⟩ : ∃ z, z = up s18 75 37 ((s18 75 37) + 1) := ⟨_, rfl⟩
        rw [← e19] at h ⊢
        refine G_iload_n C dX12_readAny_57 rfl ?_
        refine G_if_ne (tgt := 65) C dX12_readAny_58 (by decide) h.1 (fun q => ?_) (fun q => ?_)
        · have h := h.2.1 q
          refine G_aload_n C dX12_readAny_65 rfl ?_
          refine G_iload_n C dX12_readAny_66 rfl ?_
          refine G_if_eq (tgt := 75) C dX12_readAny_67 (by decide) h.1 (fun q => ?_) (fun q => ?_)
          · have h := h.2.1 q
            refine G_bipush C dX12_readAny_75 bi_12 ?_
            refine G_callVV (K := []) (args := [.inl 12]) (T := TX12) (N := 72) C ly_75 rfl (Nat.le_of_ble_eq_true rfl) mo_X12_waits wc_X12_280 rfl dX12_readAny_77 h (fun s20 h => ?_)
            refine G_aload_n C dX12_readAny_80 rfl ?_
            refine G_callVV (K := []) (args := []) (T := TX12) (N := 72) C ly_75 rfl (Nat.le_of_ble_eq_true rfl) mo_X12_reads wc_X12_255 rfl dX12_readAny_81 h (fun s21 h => ?_)
            refine G_goto (tgt := 9) C dX12_readAny_84 (by decide) ?_
            refine G_drop (i := 3) (L' := [rv 75, iv v1, iv v2, none]) rfl ?_
            exact h
          · have h := h.2.2 q
            refine G_bipush C dX12_readAny_70 bi_9 ?_
            refine G_goto (tgt := 77) C dX12_readAny_72 (by decide) ?_
            refine G_callVV (K := []) (args := [.inl 9]) (T := TX12) (N := 72) C ly_75 rfl (Nat.le_of_ble_eq_true rfl) mo_X12_waits wc_X12_280 rfl dX12_readAny_77 h (fun s22 h => ?_)
            refine G_aload_n C dX12_readAny_80 rfl ?_
            refine G_callVV (K := []) (args := []) (T := TX12) (N := 72) C ly_75 rfl (Nat.le_of_ble_eq_true rfl) mo_X12_reads wc_X12_255 rfl dX12_readAny_81 h (fun s23 h => ?_)
            refine G_goto (tgt := 9) C dX12_readAny_84 (by decide) ?_
            refine G_drop (i := 3) (L' := [rv 75, iv v1, iv v2, none]) rfl ?_
            exact h
        · have h := h.2.2 q
          refine G_iload_n C dX12_readAny_61 rfl ?_
          refine G_iconst C dX12_readAny_62 ?_
          refine G_iadd C dX12_readAny_63 ?_
          refine G_istore_n (L' := [rv 75, iv (v1 + 1), iv v2, iv r18]) C dX12_readAny_64 (by decide) rfl ?_
          refine G_aload_n C dX12_readAny_65 rfl ?_
          refine G_iload_n C dX12_readAny_66 rfl ?_
          refine G_if_eq (tgt := 75) C dX12_readAny_67 (by decide) h.1 (fun q => ?_) (fun q => ?_)
          · have h := h.2.1 q
            refine G_bipush C dX12_readAny_75 bi_12 ?_
            refine G_callVV (K := []) (args := [.inl 12]) (T := TX12) (N := 72) C ly_75 rfl (Nat.le_of_ble_eq_true rfl) mo_X12_waits wc_X12_280 rfl dX12_readAny_77 h (fun s24 h => ?_)
            refine G_aload_n C dX12_readAny_80 rfl ?_
            refine G_callVV (K := []) (args := []) (T := TX12) (N := 72) C ly_75 rfl (Nat.le_of_ble_eq_true rfl) mo_X12_reads wc_X12_255 rfl dX12_readAny_81 h (fun s25 h => ?_)
            refine G_goto (tgt := 9) C dX12_readAny_84 (by decide) ?_
            refine G_drop (i := 3) (L' := [rv 75, iv (v1 + 1), iv v2, none]) rfl ?_
            exact h
          · have h := h.2.2 q
            refine G_bipush C dX12_readAny_70 bi_9 ?_
            refine G_goto (tgt := 77) C dX12_readAny_72 (by decide) ?_
            refine G_callVV (K := []) (args := [.inl 9]) (T := TX12) (N := 72) C ly_75 rfl (Nat.le_of_ble_eq_true rfl) mo_X12_waits wc_X12_280 rfl dX12_readAny_77 h (fun s26 h => ?_)
            refine G_aload_n C dX12_readAny_80 rfl ?_
            refine G_callVV (K := []) (args := []) (T := TX12) (N := 72) C ly_75 rfl (Nat.le_of_ble_eq_true rfl) mo_X12_reads wc_X12_255 rfl dX12_readAny_81 h (fun s27 h => ?_)
            refine G_goto (tgt := 9) C dX12_readAny_84 (by decide) ?_
            refine G_drop (i := 3) (L' := [rv 75, iv (v1 + 1), iv v2, none]) rfl ?_
            exact h
      · have h := h.2.2 q
        refine G_aload_n C dX12_readAny_41 rfl ?_
        refine G_iconst C dX12_readAny_42 ?_
        refine G_callVI (K := []) (args := [.inl 3]) (T := TX12) (N := 72) C ly_75 rfl (Nat.le_of_ble_eq_true rfl) mo_X12_errs wc_X12_249 rfl dX12_readAny_43 h (fun r28 s28 h => ?_)
        exact r _ _ _ _ dX12_readAny_46 h
    · have h := h.2.2 q
      refine G_aload_n C dX12_readAny_23 rfl ?_
      refine G_bipush C dX12_readAny_24 bi_40 ?_
      refine G_callVI (K := []) (args := [.inl 40]) (T := TX12) (N := 72) C ly_75 rfl (Nat.le_of_ble_eq_true rfl) mo_X12_isSign wc_X12_262 rfl dX12_readAny_26 h (fun r29 s29 h => ?_)
      refine G_if_eq (tgt := 87) C dX12_readAny_29 (by decide) h.1 (fun q => ?_) (fun q => ?_)
      · have h := h.2.1 q
        refine G_aload_n C dX12_readAny_87 rfl ?_
        refine G_callVI (K := []) (args := []) (T := TX12) (N := 72) C ly_75 rfl (Nat.le_of_ble_eq_true rfl) mo_X12_readCompared wc_X12_283 rfl dX12_readAny_88 h (fun r30 s30 h => ?_)
        refine G_iconst C dX12_readAny_91 ?_
        refine G_icmp_ne (tgt := 97) C dX12_readAny_92 (by decide) ⟨h.1, (by decide)⟩ (fun q => ?_) (fun q => ?_)
        · have h := h.2.1 q
          refine G_aload_n C dX12_readAny_97 rfl ?_
          refine G_bipush C dX12_readAny_98 bi_9 ?_
          refine G_callVV (K := []) (args := [.inl 9]) (T := TX12) (N := 72) C ly_75 rfl (Nat.le_of_ble_eq_true rfl) mo_X12_settles wc_X12_286 rfl dX12_readAny_100 h (fun s31 h => ?_)
          refine G_iconst C dX12_readAny_103 ?_
          refine G_istore_n (L' := [rv 75, iv v1, iv 0, iv r18]) C dX12_readAny_104 (by decide) rfl ?_
          refine G_goto (tgt := 9) C dX12_readAny_105 (by decide) ?_
          refine G_drop (i := 3) (L' := [rv 75, iv v1, iv 0, none]) rfl ?_
          exact h
        · have h := h.2.2 q
          refine G_iconst C dX12_readAny_95 ?_
          exact r _ _ _ _ dX12_readAny_96 h
      · have h := h.2.2 q
        refine G_aload_n C dX12_readAny_32 rfl ?_
        refine gI_X12_37 C ly_75 rfl wf_X12_274 dX12_readAny_33 ?_
        refine G_bipush C dX12_readAny_36 bi_8 ?_
        refine G_icmp_ne (tgt := 47) C dX12_readAny_38 (by decide) ⟨h.1, (by decide)⟩ (fun q => ?_) (fun q => ?_)
        · have h := h.2.1 q
          refine G_aload_n C dX12_readAny_47 rfl ?_
          refine G_aload_n C dX12_readAny_48 rfl ?_
          refine gI_X12_37 C ly_75 rfl wf_X12_274 dX12_readAny_49 ?_
          refine G_iconst C dX12_readAny_52 ?_
          refine G_iadd C dX12_readAny_53 ?_
          refine gP_X12_37 C ly_75 rfl wf_X12_274 dX12_readAny_54 ?_
          have h := h _ rfl
          obtain ⟨s32, e32⟩ : ∃ z, z = up s29 75 37 ((s29 75 37) + 1) := ⟨_, rfl⟩
          rw [← e32] at h ⊢
          refine G_iload_n C dX12_readAny_57 rfl ?_
          refine G_if_ne (tgt := 65) C dX12_readAny_58 (by decide) h.1 (fun q => ?_) (fun q => ?_)
          · have h := h.2.1 q
            refine G_aload_n C dX12_readAny_65 rfl ?_
            refine G_iload_n C dX12_readAny_66 rfl ?_
            refine G_if_eq (tgt := 75) C dX12_readAny_67 (by decide) h.1 (fun q => ?_) (fun q => ?_)
            · have h := h.2.1 q
              refine G_bipush C dX12_readAny_75 bi_12 ?_
              refine G_callVV (K := []) (args := [.inl 12]) (T := TX12) (N := 72) C ly_75 rfl (Nat.le_of_ble_eq_true rfl) mo_X12_waits wc_X12_280 rfl dX12_readAny_77 h (fun s33 h => ?_)
              refine G_aload_n C dX12_readAny_80 rfl ?_
              refine G_callVV (K := []) (args := []) (T := TX12) (N := 72) C ly_75 rfl (Nat.le_of_ble_eq_true rfl) mo_X12_reads wc_X12_255 rfl dX12_readAny_81 h (fun s34 h => ?_)
              refine G_goto (tgt := 9) C dX12_readAny_84 (by decide) ?_
              refine G_drop (i := 3) (L' := [rv 75, iv v1, iv v2, none]) rfl ?_
              exact h
            · have h := h.2.2 q
              refine G_bipush C dX12_readAny_70 bi_9 ?_
              refine G_goto (tgt := 77) C dX12_readAny_72 (by decide) ?_
              refine G_callVV (K := []) (args := [.inl 9]) (T := TX12) (N := 72) C ly_75 rfl (Nat.le_of_ble_eq_true rfl) mo_X12_waits wc_X12_280 rfl dX12_readAny_77 h (fun s35 h => ?_)
              refine G_aload_n C dX12_readAny_80 rfl ?_
              refine G_callVV (K := []) (args := []) (T := TX12) (N := 72) C ly_75 rfl (Nat.le_of_ble_eq_true rfl) mo_X12_reads wc_X12_255 rfl dX12_readAny_81 h (fun s36 h => ?_)
              refine G_goto (tgt := 9) C dX12_readAny_84 (by decide) ?_
              refine G_drop (i := 3) (L' := [rv 75, iv v1, iv v2, none]) rfl ?_
              exact h
          · have h := h.2.2 q
            refine G_iload_n C dX12_readAny_61 rfl ?_
            refine G_iconst C dX12_readAny_62 ?_
            refine G_iadd C dX12_readAny_63 ?_
            refine G_istore_n (L' := [rv 75, iv (v1 + 1), iv v2, iv r18]) C dX12_readAny_64 (by decide) rfl ?_
            refine G_aload_n C dX12_readAny_65 rfl ?_
            refine G_iload_n C dX12_readAny_66 rfl ?_
            refine G_if_eq (tgt := 75) C dX12_readAny_67 (by decide) h.1 (fun q => ?_) (fun q => ?_)
            · have h := h.2.1 q
              refine G_bipush C dX12_readAny_75 bi_12 ?_
              refine G_callVV (K := []) (args := [.inl 12]) (T := TX12) (N := 72) C ly_75 rfl (Nat.le_of_ble_eq_true rfl) mo_X12_waits wc_X12_280 rfl dX12_readAny_77 h (fun s37 h => ?_)
              refine G_aload_n C dX12_readAny_80 rfl ?_
              refine G_callVV (K := []) (args := []) (T := TX12) (N := 72) C ly_75 rfl (Nat.le_of_ble_eq_true rfl) mo_X12_reads wc_X12_255 rfl dX12_readAny_81 h (fun s38 h => ?_)
              refine G_goto (tgt := 9) C dX12_readAny_84 (by decide) ?_
              refine G_drop (i := 3) (L' := [rv 75, iv (v1 + 1), iv v2, none]) rfl ?_
              exact h
            · have h := h.2.2 q
              refine G_bipush C dX12_readAny_70 bi_9 ?_
              refine G_goto (tgt := 77) C dX12_readAny_72 (by decide) ?_
              refine G_callVV (K := []) (args := [.inl 9]) (T := TX12) (N := 72) C ly_75 rfl (Nat.le_of_ble_eq_true rfl) mo_X12_waits wc_X12_280 rfl dX12_readAny_77 h (fun s39 h => ?_)
              refine G_aload_n C dX12_readAny_80 rfl ?_
              refine G_callVV (K := []) (args := []) (T := TX12) (N := 72) C ly_75 rfl (Nat.le_of_ble_eq_true rfl) mo_X12_reads wc_X12_255 rfl dX12_readAny_81 h (fun s40 h => ?_)
              refine G_goto (tgt := 9) C dX12_readAny_84 (by decide) ?_
              refine G_drop (i := 3) (L' := [rv 75, iv (v1 + 1), iv v2, none]) rfl ?_
              exact h
        · have h := h.2.2 q
          refine G_aload_n C dX12_readAny_41 rfl ?_
          refine G_iconst C dX12_readAny_42 ?_
          refine G_callVI (K := []) (args := [.inl 3]) (T := TX12) (N := 72) C ly_75 rfl (Nat.le_of_ble_eq_true rfl) mo_X12_errs wc_X12_249 rfl dX12_readAny_43 h (fun r41 s41 h => ?_)
          exact r _ _ _ _ dX12_readAny_46 h
set_option maxRecDepth 20000 in
theorem kb_X12_takesPlaces_0 {X : Cx} {d : Nat} {P : Sto → Prop} (C : Ok LY X RX12 cX12_takesPlaces 3 d) (r : RetV LY X cX12_takesPlaces P) {v1 : Int} {s : Sto} (h : (CallV LY d MX12_begins [.inr 75] s (fun s1 => G LY X 6 [rv 75, iv v1, iv 0] [] s1))) : G LY X 0 [rv 75, iv v1, none] [] s := by
  refine G_aload_n C dX12_takesPlaces_0 rfl ?_
  refine G_callVV (K := []) (args := []) (T := TX12) (N := 72) C ly_75 rfl (Nat.le_of_ble_eq_true rfl) mo_X12_begins wc_X12_168 rfl dX12_takesPlaces_1 h (fun s1 h => ?_)
  refine G_iconst C dX12_takesPlaces_4 ?_
  refine G_istore_n (L' := [rv 75, iv v1, iv 0]) C dX12_takesPlaces_5 (by decide) rfl ?_
  exact h
set_option maxRecDepth 20000 in
theorem kb_X12_takesPlaces_6 {X : Cx} {d : Nat} {P : Sto → Prop} (C : Ok LY X RX12 cX12_takesPlaces 3 d) (r : RetV LY X cX12_takesPlaces P) {v1 v2 : Int} {s : Sto} (h : ((rg v2 ∧ rg (s 75 9)) ∧ (((s 75 9) ≤ v2 → P s) ∧ (v2 < (s 75 9) → ((0 ≤ ((8 * v1) + v2) ∧ ((8 * v1) + v2) < 168) ∧ ((0 ≤ (s 81 ((8 * v1) + v2)) ∧ (s 81 ((8 * v1) + v2)) < 8) ∧ (∀ s1 : Sto, s1 = up s 101 (s 81 ((8 * v1) + v2)) v2 → G LY X 6 [rv 75, iv v1, iv (v2 + 1)] [] s1))))))) : G LY X 6 [rv 75, iv v1, iv v2] [] s := by
  refine G_iload_n C dX12_takesPlaces_6 rfl ?_
  refine G_aload_n C dX12_takesPlaces_7 rfl ?_
  refine gI_X12_9 C ly_75 rfl wf_X12_25 dX12_takesPlaces_8 ?_
  refine G_icmp_ge (tgt := 37) C dX12_takesPlaces_11 (by decide) ⟨h.1.1, h.1.2⟩ (fun q => ?_) (fun q => ?_)
  · have h := h.2.1 q
    exact r _ _ _ dX12_takesPlaces_37 h
  · have h := h.2.2 q
    refine G_aload_n C dX12_takesPlaces_14 rfl ?_
    refine gR_X12_46 C ly_75 rfl wf_X12_92 dX12_takesPlaces_15 ?_
    refine G_aload_n C dX12_takesPlaces_18 rfl ?_
    refine gR_X12_10 C ly_75 rfl wf_X12_29 dX12_takesPlaces_19 ?_
    refine G_bipush C dX12_takesPlaces_22 bi_8 ?_
    refine G_iload_n C dX12_takesPlaces_24 rfl ?_
    refine G_imul C dX12_takesPlaces_25 ?_
    refine G_iload_n C dX12_takesPlaces_26 rfl ?_
    refine G_iadd C dX12_takesPlaces_27 ?_
    refine G_iald C ly_81 (by decide) h.1 dX12_takesPlaces_28 ?_
    have h := h.2
    refine G_iload_n C dX12_takesPlaces_29 rfl ?_
    refine G_iast C ly_101 (by decide) h.1 dX12_takesPlaces_30 ?_
    have h := h.2
    have h := h _ rfl
    obtain ⟨s1, e1⟩ : ∃ z, z = up s 101 (s 81 ((8 * v1) + v2)) v2 := ⟨_, rfl⟩
    rw [← e1] at h ⊢
    refine G_iinc (L' := [rv 75, iv v1, iv (v2 + 1)]) C dX12_takesPlaces_31 (by decide) rfl rfl ?_
    refine G_goto (tgt := 6) C dX12_takesPlaces_34 (by decide) ?_
    exact h
set_option maxRecDepth 20000 in
theorem kb_X12_isAhead_0 {X : Cx} {d : Nat} {P : Int → Sto → Prop} (C : Ok LY X RX12 cX12_isAhead 7 d) (r : RetZ LY X cX12_isAhead P) {v1 v2 : Int} {s : Sto} (h : (CallI LY d MX12_nextOf [.inr 75, .inl v1, .inl 0] s (fun r1 s1 => (CallI LY d MX12_nextOf [.inr 75, .inl v2, .inl 0] s1 (fun r2 s2 => G LY X 15 [rv 75, iv v1, iv v2, iv r1, iv r2, none, none] [] s2))))) : G LY X 0 [rv 75, iv v1, iv v2, none, none, none, none] [] s := by
  refine G_aload_n C dX12_isAhead_0 rfl ?_
  refine G_iload_n C dX12_isAhead_1 rfl ?_
  refine G_iconst C dX12_isAhead_2 ?_
  refine G_callVI (K := []) (args := [.inl v1, .inl 0]) (T := TX12) (N := 72) C ly_75 rfl (Nat.le_of_ble_eq_true rfl) mo_X12_nextOf wc_X12_305 rfl dX12_isAhead_3 h (fun r1 s1 h => ?_)
  refine G_istore_n (L' := [rv 75, iv v1, iv v2, iv r1, none, none, none]) C dX12_isAhead_6 (by decide) rfl ?_
  refine G_aload_n C dX12_isAhead_7 rfl ?_
  refine G_iload_n C dX12_isAhead_8 rfl ?_
  refine G_iconst C dX12_isAhead_9 ?_
  refine G_callVI (K := []) (args := [.inl v2, .inl 0]) (T := TX12) (N := 72) C ly_75 rfl (Nat.le_of_ble_eq_true rfl) mo_X12_nextOf wc_X12_305 rfl dX12_isAhead_10 h (fun r2 s2 h => ?_)
  refine G_istore (L' := [rv 75, iv v1, iv v2, iv r1, iv r2, none, none]) C dX12_isAhead_13 (by decide) rfl ?_
  exact h
set_option maxRecDepth 20000 in
theorem kb_X12_isAhead_15 {X : Cx} {d : Nat} {P : Int → Sto → Prop} (C : Ok LY X RX12 cX12_isAhead 7 d) (r : RetZ LY X cX12_isAhead P) {v1 v2 v3 v4 : Int} {s : Sto} (h : ((0 ≤ v1 ∧ v1 < 51) ∧ ((rg v3 ∧ rg (s 76 v1)) ∧ (((s 76 v1) ≤ v3 → G LY X 114 [rv 75, iv v1, iv v2, iv v3, iv v4, none, none] [] s) ∧ (v3 < (s 76 v1) → ((0 ≤ v2 ∧ v2 < 51) ∧ ((rg v4 ∧ rg (s 76 v2)) ∧ (((s 76 v2) ≤ v4 → G LY X 114 [rv 75, iv v1, iv v2, iv v3, iv v4, none, none] [] s) ∧ (v4 < (s 76 v2) → ((0 ≤ ((6 * v1) + v3) ∧ ((6 * v1) + v3) < 306) ∧ (CallI LY d MX12_standsAt [.inr 75, .inl (s 77 ((6 * v1) + v3))] s (fun r1 s1 => ((0 ≤ ((6 * v2) + v4) ∧ ((6 * v2) + v4) < 306) ∧ (CallI LY d MX12_standsAt [.inr 75, .inl (s1 77 ((6 * v2) + v4))] s1 (fun r2 s2 => ((rg r1 ∧ rg r2) ∧ ((r1 = r2 → (CallI LY d MX12_nextOf [.inr 75, .inl v1, .inl (v3 + 1)] s2 (fun r3 s3 => (CallI LY d MX12_nextOf [.inr 75, .inl v2, .inl (v4 + 1)] s3 (fun r4 s4 => G LY X 15 [rv 75, iv v1, iv v2, iv r3, iv r4, none, none] [] s4))))) ∧ (r1 ≠ r2 → ((rg r1 ∧ rg r2) ∧ ((r2 ≤ r1 → P 0 s2) ∧ (r1 < r2 → P 1 s2))))))))))))))))))))) : G LY X 15 [rv 75, iv v1, iv v2, iv v3, iv v4, none, none] [] s := by
  refine G_iload_n C dX12_isAhead_15 rfl ?_
  refine G_aload_n C dX12_isAhead_16 rfl ?_
  refine gR_X12_2 C ly_75 rfl wf_X12_7 dX12_isAhead_17 ?_
  refine G_iload_n C dX12_isAhead_20 rfl ?_
  refine G_iald C ly_76 (by decide) h.1 dX12_isAhead_21 ?_
  have h := h.2
  refine G_icmp_ge (tgt := 114) C dX12_isAhead_22 (by decide) ⟨h.1.1, h.1.2⟩ (fun q => ?_) (fun q => ?_)
  · have h := h.2.1 q
    exact h
  · have h := h.2.2 q
    refine G_iload C dX12_isAhead_25 rfl ?_
    refine G_aload_n C dX12_isAhead_27 rfl ?_
    refine gR_X12_2 C ly_75 rfl wf_X12_7 dX12_isAhead_28 ?_
    refine G_iload_n C dX12_isAhead_31 rfl ?_
    refine G_iald C ly_76 (by decide) h.1 dX12_isAhead_32 ?_
    have h := h.2
    refine G_icmp_ge (tgt := 114) C dX12_isAhead_33 (by decide) ⟨h.1.1, h.1.2⟩ (fun q => ?_) (fun q => ?_)
    · have h := h.2.1 q
      exact h
    · have h := h.2.2 q
      refine G_aload_n C dX12_isAhead_36 rfl ?_
      refine G_aload_n C dX12_isAhead_37 rfl ?_
      refine gR_X12_3 C ly_75 rfl wf_X12_13 dX12_isAhead_38 ?_
      refine G_bipush C dX12_isAhead_41 bi_6 ?_
      refine G_iload_n C dX12_isAhead_43 rfl ?_
      refine G_imul C dX12_isAhead_44 ?_
      refine G_iload_n C dX12_isAhead_45 rfl ?_
      refine G_iadd C dX12_isAhead_46 ?_
      refine G_iald C ly_77 (by decide) h.1 dX12_isAhead_47 ?_
      have h := h.2
      refine G_callVI (K := []) (args := [.inl (s 77 ((6 * v1) + v3))]) (T := TX12) (N := 72) C ly_75 rfl (Nat.le_of_ble_eq_true rfl) mo_X12_standsAt wc_X12_308 rfl dX12_isAhead_48 h (fun r1 s1 h => ?_)
      refine G_istore (L' := [rv 75, iv v1, iv v2, iv v3, iv v4, iv r1, none]) C dX12_isAhead_51 (by decide) rfl ?_
      refine G_aload_n C dX12_isAhead_53 rfl ?_
      refine G_aload_n C dX12_isAhead_54 rfl ?_
      refine gR_X12_3 C ly_75 rfl wf_X12_13 dX12_isAhead_55 ?_
      refine G_bipush C dX12_isAhead_58 bi_6 ?_
      refine G_iload_n C dX12_isAhead_60 rfl ?_
      refine G_imul C dX12_isAhead_61 ?_
      refine G_iload C dX12_isAhead_62 rfl ?_
      refine G_iadd C dX12_isAhead_64 ?_
      refine G_iald C ly_77 (by decide) h.1 dX12_isAhead_65 ?_
      have h := h.2
      refine G_callVI (K := []) (args := [.inl (s1 77 ((6 * v2) + v4))]) (T := TX12) (N := 72) C ly_75 rfl (Nat.le_of_ble_eq_true rfl) mo_X12_standsAt wc_X12_308 rfl dX12_isAhead_66 h (fun r2 s2 h => ?_)
      refine G_istore (L' := [rv 75, iv v1, iv v2, iv v3, iv v4, iv r1, iv r2]) C dX12_isAhead_69 (by decide) rfl ?_
      refine G_iload C dX12_isAhead_71 rfl ?_
      refine G_iload C dX12_isAhead_73 rfl ?_
      refine G_icmp_eq (tgt := 91) C dX12_isAhead_75 (by decide) ⟨h.1.1, h.1.2⟩ (fun q => ?_) (fun q => ?_)
      · have h := h.2.1 q
        refine G_aload_n C dX12_isAhead_91 rfl ?_
        refine G_iload_n C dX12_isAhead_92 rfl ?_
        refine G_iload_n C dX12_isAhead_93 rfl ?_
        refine G_iconst C dX12_isAhead_94 ?_
        refine G_iadd C dX12_isAhead_95 ?_
        refine G_callVI (K := []) (args := [.inl v1, .inl (v3 + 1)]) (T := TX12) (N := 72) C ly_75 rfl (Nat.le_of_ble_eq_true rfl) mo_X12_nextOf wc_X12_305 rfl dX12_isAhead_96 h (fun r3 s3 h => ?_)
        refine G_istore_n (L' := [rv 75, iv v1, iv v2, iv r3, iv v4, iv r1, iv r2]) C dX12_isAhead_99 (by decide) rfl ?_
        refine G_aload_n C dX12_isAhead_100 rfl ?_
        refine G_iload_n C dX12_isAhead_101 rfl ?_
        refine G_iload C dX12_isAhead_102 rfl ?_
        refine G_iconst C dX12_isAhead_104 ?_
        refine G_iadd C dX12_isAhead_105 ?_
        refine G_callVI (K := []) (args := [.inl v2, .inl (v4 + 1)]) (T := TX12) (N := 72) C ly_75 rfl (Nat.le_of_ble_eq_true rfl) mo_X12_nextOf wc_X12_305 rfl dX12_isAhead_106 h (fun r4 s4 h => ?_)
        refine G_istore (L' := [rv 75, iv v1, iv v2, iv r3, iv r4, iv r1, iv r2]) C dX12_isAhead_109 (by decide) rfl ?_
        refine G_goto (tgt := 15) C dX12_isAhead_111 (by decide) ?_
        refine G_drop (i := 5) (L' := [rv 75, iv v1, iv v2, iv r3, iv r4, none, iv r2]) rfl ?_
        refine G_drop (i := 6) (L' := [rv 75, iv v1, iv v2, iv r3, iv r4, none, none]) rfl ?_
        exact h
      · have h := h.2.2 q
        refine G_iload C dX12_isAhead_78 rfl ?_
        refine G_iload C dX12_isAhead_80 rfl ?_
        refine G_icmp_ge (tgt := 89) C dX12_isAhead_82 (by decide) ⟨h.1.1, h.1.2⟩ (fun q => ?_) (fun q => ?_)
        · have h := h.2.1 q
          refine G_iconst C dX12_isAhead_89 ?_
          exact r _ _ _ _ dX12_isAhead_90 (by decide) h
        · have h := h.2.2 q
          refine G_iconst C dX12_isAhead_85 ?_
          refine G_goto (tgt := 90) C dX12_isAhead_86 (by decide) ?_
          exact r _ _ _ _ dX12_isAhead_90 (by decide) h
set_option maxRecDepth 20000 in
theorem kb_X12_isAhead_114 {X : Cx} {d : Nat} {P : Int → Sto → Prop} (C : Ok LY X RX12 cX12_isAhead 7 d) (r : RetZ LY X cX12_isAhead P) {v1 v2 v3 v4 : Int} {s : Sto} (h : ((0 ≤ v1 ∧ v1 < 51) ∧ ((rg v3 ∧ rg (s 76 v1)) ∧ ((v3 < (s 76 v1) → ((0 ≤ v2 ∧ v2 < 51) ∧ ((rg v4 ∧ rg (s 76 v2)) ∧ (((s 76 v2) ≤ v4 → P 0 s) ∧ (v4 < (s 76 v2) → P 1 s))))) ∧ ((s 76 v1) ≤ v3 → ((0 ≤ v2 ∧ v2 < 51) ∧ ((rg v4 ∧ rg (s 76 v2)) ∧ (((s 76 v2) ≤ v4 → ((rg (s 82 1)) ∧ (((s 82 1) ≠ 1 → ((rg (s 82 1)) ∧ (((s 82 1) ≠ 2 → ((rg v1 ∧ rg v2) ∧ ((v2 ≤ v1 → P 0 s) ∧ (v1 < v2 → P 1 s)))) ∧ ((s 82 1) = 2 → ((0 ≤ v1 ∧ v1 < 20) ∧ ((0 ≤ v2 ∧ v2 < 20) ∧ ((rg (s 80 v1) ∧ rg (s 80 v2)) ∧ (((s 80 v1) = (s 80 v2) → ((rg v1 ∧ rg v2) ∧ ((v2 ≤ v1 → P 0 s) ∧ (v1 < v2 → P 1 s)))) ∧ ((s 80 v1) ≠ (s 80 v2) → ((0 ≤ v1 ∧ v1 < 20) ∧ ((0 ≤ v2 ∧ v2 < 20) ∧ ((rg (s 80 v1) ∧ rg (s 80 v2)) ∧ (((s 80 v1) ≤ (s 80 v2) → P 0 s) ∧ ((s 80 v2) < (s 80 v1) → P 1 s)))))))))))))) ∧ ((s 82 1) = 1 → ((0 ≤ v1 ∧ v1 < 20) ∧ ((0 ≤ v2 ∧ v2 < 20) ∧ ((rg (s 79 v1) ∧ rg (s 79 v2)) ∧ (((s 79 v1) = (s 79 v2) → ((rg (s 82 1)) ∧ (((s 82 1) ≠ 2 → ((rg v1 ∧ rg v2) ∧ ((v2 ≤ v1 → P 0 s) ∧ (v1 < v2 → P 1 s)))) ∧ ((s 82 1) = 2 → ((0 ≤ v1 ∧ v1 < 20) ∧ ((0 ≤ v2 ∧ v2 < 20) ∧ ((rg (s 80 v1) ∧ rg (s 80 v2)) ∧ (((s 80 v1) = (s 80 v2) → ((rg v1 ∧ rg v2) ∧ ((v2 ≤ v1 → P 0 s) ∧ (v1 < v2 → P 1 s)))) ∧ ((s 80 v1) ≠ (s 80 v2) → ((0 ≤ v1 ∧ v1 < 20) ∧ ((0 ≤ v2 ∧ v2 < 20) ∧ ((rg (s 80 v1) ∧ rg (s 80 v2)) ∧ (((s 80 v1) ≤ (s 80 v2) → P 0 s) ∧ ((s 80 v2) < (s 80 v1) → P 1 s)))))))))))))) ∧ ((s 79 v1) ≠ (s 79 v2) → ((0 ≤ v1 ∧ v1 < 20) ∧ ((0 ≤ v2 ∧ v2 < 20) ∧ ((rg (s 79 v1) ∧ rg (s 79 v2)) ∧ (((s 79 v1) ≤ (s 79 v2) → P 0 s) ∧ ((s 79 v2) < (s 79 v1) → P 1 s)))))))))))))) ∧ (v4 < (s 76 v2) → ((0 ≤ v2 ∧ v2 < 51) ∧ ((rg v4 ∧ rg (s 76 v2)) ∧ (((s 76 v2) ≤ v4 → P 0 s) ∧ (v4 < (s 76 v2) → P 1 s))))))))))))) : G LY X 114 [rv 75, iv v1, iv v2, iv v3, iv v4, none, none] [] s := by
  refine G_iload_n C dX12_isAhead_114 rfl ?_
  refine G_aload_n C dX12_isAhead_115 rfl ?_
  refine gR_X12_2 C ly_75 rfl wf_X12_7 dX12_isAhead_116 ?_
  refine G_iload_n C dX12_isAhead_119 rfl ?_
  refine G_iald C ly_76 (by decide) h.1 dX12_isAhead_120 ?_
  have h := h.2
  refine G_icmp_lt (tgt := 135) C dX12_isAhead_121 (by decide) ⟨h.1.1, h.1.2⟩ (fun q => ?_) (fun q => ?_)
  · have h := h.2.1 q
    refine G_iload C dX12_isAhead_135 rfl ?_
    refine G_aload_n C dX12_isAhead_137 rfl ?_
    refine gR_X12_2 C ly_75 rfl wf_X12_7 dX12_isAhead_138 ?_
    refine G_iload_n C dX12_isAhead_141 rfl ?_
    refine G_iald C ly_76 (by decide) h.1 dX12_isAhead_142 ?_
    have h := h.2
    refine G_icmp_ge (tgt := 150) C dX12_isAhead_143 (by decide) ⟨h.1.1, h.1.2⟩ (fun q => ?_) (fun q => ?_)
    · have h := h.2.1 q
      refine G_iconst C dX12_isAhead_150 ?_
      exact r _ _ _ _ dX12_isAhead_151 (by decide) h
    · have h := h.2.2 q
      refine G_iconst C dX12_isAhead_146 ?_
      refine G_goto (tgt := 151) C dX12_isAhead_147 (by decide) ?_
      exact r _ _ _ _ dX12_isAhead_151 (by decide) h
  · have h := h.2.2 q
    refine G_iload C dX12_isAhead_124 rfl ?_
    refine G_aload_n C dX12_isAhead_126 rfl ?_
    refine gR_X12_2 C ly_75 rfl wf_X12_7 dX12_isAhead_127 ?_
    refine G_iload_n C dX12_isAhead_130 rfl ?_
    refine G_iald C ly_76 (by decide) h.1 dX12_isAhead_131 ?_
    have h := h.2
    refine G_icmp_ge (tgt := 152) C dX12_isAhead_132 (by decide) ⟨h.1.1, h.1.2⟩ (fun q => ?_) (fun q => ?_)
    · have h := h.2.1 q
      refine G_aload_n C dX12_isAhead_152 rfl ?_
      refine gR_X12_11 C ly_75 rfl wf_X12_32 dX12_isAhead_153 ?_
      refine G_iconst C dX12_isAhead_156 ?_
      refine G_iald C ly_82 (by decide) (by decide) dX12_isAhead_157 ?_
      refine G_iconst C dX12_isAhead_158 ?_
      refine G_icmp_ne (tgt := 198) C dX12_isAhead_159 (by decide) ⟨h.1, (by decide)⟩ (fun q => ?_) (fun q => ?_)
      · have h := h.2.1 q
        refine G_aload_n C dX12_isAhead_198 rfl ?_
        refine gR_X12_11 C ly_75 rfl wf_X12_32 dX12_isAhead_199 ?_
        refine G_iconst C dX12_isAhead_202 ?_
        refine G_iald C ly_82 (by decide) (by decide) dX12_isAhead_203 ?_
        refine G_iconst C dX12_isAhead_204 ?_
        refine G_icmp_ne (tgt := 244) C dX12_isAhead_205 (by decide) ⟨h.1, (by decide)⟩ (fun q => ?_) (fun q => ?_)
        · have h := h.2.1 q
          refine G_iload_n C dX12_isAhead_244 rfl ?_
          refine G_iload_n C dX12_isAhead_245 rfl ?_
          refine G_icmp_ge (tgt := 253) C dX12_isAhead_246 (by decide) ⟨h.1.1, h.1.2⟩ (fun q => ?_) (fun q => ?_)
          · have h := h.2.1 q
            refine G_iconst C dX12_isAhead_253 ?_
            exact r _ _ _ _ dX12_isAhead_254 (by decide) h
          · have h := h.2.2 q
            refine G_iconst C dX12_isAhead_249 ?_
            refine G_goto (tgt := 254) C dX12_isAhead_250 (by decide) ?_
            exact r _ _ _ _ dX12_isAhead_254 (by decide) h
        · have h := h.2.2 q
          refine G_aload_n C dX12_isAhead_208 rfl ?_
          refine gR_X12_7 C ly_75 rfl wf_X12_22 dX12_isAhead_209 ?_
          refine G_iload_n C dX12_isAhead_212 rfl ?_
          refine G_iald C ly_80 (by decide) h.1 dX12_isAhead_213 ?_
          have h := h.2
          refine G_aload_n C dX12_isAhead_214 rfl ?_
          refine gR_X12_7 C ly_75 rfl wf_X12_22 dX12_isAhead_215 ?_
          refine G_iload_n C dX12_isAhead_218 rfl ?_
          refine G_iald C ly_80 (by decide) h.1 dX12_isAhead_219 ?_
          have h := h.2
          refine G_icmp_eq (tgt := 244) C dX12_isAhead_220 (by decide) ⟨h.1.1, h.1.2⟩ (fun q => ?_) (fun q => ?_)
          · have h := h.2.1 q
            refine G_iload_n C dX12_isAhead_244 rfl ?_
            refine G_iload_n C dX12_isAhead_245 rfl ?_
            refine G_icmp_ge (tgt := 253) C dX12_isAhead_246 (by decide) ⟨h.1.1, h.1.2⟩ (fun q => ?_) (fun q => ?_)
            · have h := h.2.1 q
              refine G_iconst C dX12_isAhead_253 ?_
              exact r _ _ _ _ dX12_isAhead_254 (by decide) h
            · have h := h.2.2 q
              refine G_iconst C dX12_isAhead_249 ?_
              refine G_goto (tgt := 254) C dX12_isAhead_250 (by decide) ?_
              exact r _ _ _ _ dX12_isAhead_254 (by decide) h
          · have h := h.2.2 q
            refine G_aload_n C dX12_isAhead_223 rfl ?_
            refine gR_X12_7 C ly_75 rfl wf_X12_22 dX12_isAhead_224 ?_
            refine G_iload_n C dX12_isAhead_227 rfl ?_
            refine G_iald C ly_80 (by decide) h.1 dX12_isAhead_228 ?_
            have h := h.2
            refine G_aload_n C dX12_isAhead_229 rfl ?_
            refine gR_X12_7 C ly_75 rfl wf_X12_22 dX12_isAhead_230 ?_
            refine G_iload_n C dX12_isAhead_233 rfl ?_
            refine G_iald C ly_80 (by decide) h.1 dX12_isAhead_234 ?_
            have h := h.2
            refine G_icmp_le (tgt := 242) C dX12_isAhead_235 (by decide) ⟨h.1.1, h.1.2⟩ (fun q => ?_) (fun q => ?_)
            · have h := h.2.1 q
              refine G_iconst C dX12_isAhead_242 ?_
              exact r _ _ _ _ dX12_isAhead_243 (by decide) h
            · have h := h.2.2 q
              refine G_iconst C dX12_isAhead_238 ?_
              refine G_goto (tgt := 243) C dX12_isAhead_239 (by decide) ?_
              exact r _ _ _ _ dX12_isAhead_243 (by decide) h
      · have h := h.2.2 q
        refine G_aload_n C dX12_isAhead_162 rfl ?_
        refine gR_X12_6 C ly_75 rfl wf_X12_19 dX12_isAhead_163 ?_
        refine G_iload_n C dX12_isAhead_166 rfl ?_
        refine G_iald C ly_79 (by decide) h.1 dX12_isAhead_167 ?_
        have h := h.2
        refine G_aload_n C dX12_isAhead_168 rfl ?_
        refine gR_X12_6 C ly_75 rfl wf_X12_19 dX12_isAhead_169 ?_
        refine G_iload_n C dX12_isAhead_172 rfl ?_
        refine G_iald C ly_79 (by decide) h.1 dX12_isAhead_173 ?_
        have h := h.2
        refine G_icmp_eq (tgt := 198) C dX12_isAhead_174 (by decide) ⟨h.1.1, h.1.2⟩ (fun q => ?_) (fun q => ?_)
        · have h := h.2.1 q
          refine G_aload_n C dX12_isAhead_198 rfl ?_
          refine gR_X12_11 C ly_75 rfl wf_X12_32 dX12_isAhead_199 ?_
          refine G_iconst C dX12_isAhead_202 ?_
          refine G_iald C ly_82 (by decide) (by decide) dX12_isAhead_203 ?_
          refine G_iconst C dX12_isAhead_204 ?_
          refine G_icmp_ne (tgt := 244) C dX12_isAhead_205 (by decide) ⟨h.1, (by decide)⟩ (fun q => ?_) (fun q => ?_)
          · have h := h.2.1 q
            refine G_iload_n C dX12_isAhead_244 rfl ?_
            refine G_iload_n C dX12_isAhead_245 rfl ?_
            refine G_icmp_ge (tgt := 253) C dX12_isAhead_246 (by decide) ⟨h.1.1, h.1.2⟩ (fun q => ?_) (fun q => ?_)
            · have h := h.2.1 q
              refine G_iconst C dX12_isAhead_253 ?_
              exact r _ _ _ _ dX12_isAhead_254 (by decide) h
            · have h := h.2.2 q
              refine G_iconst C dX12_isAhead_249 ?_
              refine G_goto (tgt := 254) C dX12_isAhead_250 (by decide) ?_
              exact r _ _ _ _ dX12_isAhead_254 (by decide) h
          · have h := h.2.2 q
            refine G_aload_n C dX12_isAhead_208 rfl ?_
            refine gR_X12_7 C ly_75 rfl wf_X12_22 dX12_isAhead_209 ?_
            refine G_iload_n C dX12_isAhead_212 rfl ?_
            refine G_iald C ly_80 (by decide) h.1 dX12_isAhead_213 ?_
            have h := h.2
            refine G_aload_n C dX12_isAhead_214 rfl ?_
            refine gR_X12_7 C ly_75 rfl wf_X12_22 dX12_isAhead_215 ?_
            refine G_iload_n C dX12_isAhead_218 rfl ?_
            refine G_iald C ly_80 (by decide) h.1 dX12_isAhead_219 ?_
            have h := h.2
            refine G_icmp_eq (tgt := 244) C dX12_isAhead_220 (by decide) ⟨h.1.1, h.1.2⟩ (fun q => ?_) (fun q => ?_)
            · have h := h.2.1 q
              refine G_iload_n C dX12_isAhead_244 rfl ?_
              refine G_iload_n C dX12_isAhead_245 rfl ?_
              refine G_icmp_ge (tgt := 253) C dX12_isAhead_246 (by decide) ⟨h.1.1, h.1.2⟩ (fun q => ?_) (fun q => ?_)
              · have h := h.2.1 q
                refine G_iconst C dX12_isAhead_253 ?_
                exact r _ _ _ _ dX12_isAhead_254 (by decide) h
              · have h := h.2.2 q
                refine G_iconst C dX12_isAhead_249 ?_
                refine G_goto (tgt := 254) C dX12_isAhead_250 (by decide) ?_
                exact r _ _ _ _ dX12_isAhead_254 (by decide) h
            · have h := h.2.2 q
              refine G_aload_n C dX12_isAhead_223 rfl ?_
              refine gR_X12_7 C ly_75 rfl wf_X12_22 dX12_isAhead_224 ?_
              refine G_iload_n C dX12_isAhead_227 rfl ?_
              refine G_iald C ly_80 (by decide) h.1 dX12_isAhead_228 ?_
              have h := h.2
              refine G_aload_n C dX12_isAhead_229 rfl ?_
              refine gR_X12_7 C ly_75 rfl wf_X12_22 dX12_isAhead_230 ?_
              refine G_iload_n C dX12_isAhead_233 rfl ?_
              refine G_iald C ly_80 (by decide) h.1 dX12_isAhead_234 ?_
              have h := h.2
              refine G_icmp_le (tgt := 242) C dX12_isAhead_235 (by decide) ⟨h.1.1, h.1.2⟩ (fun q => ?_) (fun q => ?_)
              · have h := h.2.1 q
                refine G_iconst C dX12_isAhead_242 ?_
                exact r _ _ _ _ dX12_isAhead_243 (by decide) h
              · have h := h.2.2 q
                refine G_iconst C dX12_isAhead_238 ?_
                refine G_goto (tgt := 243) C dX12_isAhead_239 (by decide) ?_
                exact r _ _ _ _ dX12_isAhead_243 (by decide) h
        · have h := h.2.2 q
          refine G_aload_n C dX12_isAhead_177 rfl ?_
          refine gR_X12_6 C ly_75 rfl wf_X12_19 dX12_isAhead_178 ?_
          refine G_iload_n C dX12_isAhead_181 rfl ?_
          refine G_iald C ly_79 (by decide) h.1 dX12_isAhead_182 ?_
          have h := h.2
          refine G_aload_n C dX12_isAhead_183 rfl ?_
          refine gR_X12_6 C ly_75 rfl wf_X12_19 dX12_isAhead_184 ?_
          refine G_iload_n C dX12_isAhead_187 rfl ?_
          refine G_iald C ly_79 (by decide) h.1 dX12_isAhead_188 ?_
          have h := h.2
          refine G_icmp_le (tgt := 196) C dX12_isAhead_189 (by decide) ⟨h.1.1, h.1.2⟩ (fun q => ?_) (fun q => ?_)
          · have h := h.2.1 q
            refine G_iconst C dX12_isAhead_196 ?_
            exact r _ _ _ _ dX12_isAhead_197 (by decide) h
          · have h := h.2.2 q
            refine G_iconst C dX12_isAhead_192 ?_
            refine G_goto (tgt := 197) C dX12_isAhead_193 (by decide) ?_
            exact r _ _ _ _ dX12_isAhead_197 (by decide) h
    · have h := h.2.2 q
      refine G_iload C dX12_isAhead_135 rfl ?_
      refine G_aload_n C dX12_isAhead_137 rfl ?_
      refine gR_X12_2 C ly_75 rfl wf_X12_7 dX12_isAhead_138 ?_
      refine G_iload_n C dX12_isAhead_141 rfl ?_
      refine G_iald C ly_76 (by decide) h.1 dX12_isAhead_142 ?_
      have h := h.2
      refine G_icmp_ge (tgt := 150) C dX12_isAhead_143 (by decide) ⟨h.1.1, h.1.2⟩ (fun q => ?_) (fun q => ?_)
      · have h := h.2.1 q
        refine G_iconst C dX12_isAhead_150 ?_
        exact r _ _ _ _ dX12_isAhead_151 (by decide) h
      · have h := h.2.2 q
        refine G_iconst C dX12_isAhead_146 ?_
        refine G_goto (tgt := 151) C dX12_isAhead_147 (by decide) ?_
        exact r _ _ _ _ dX12_isAhead_151 (by decide) h
set_option maxRecDepth 20000 in
theorem kb_X12_findsWorths_0 {X : Cx} {d : Nat} {P : Sto → Prop} (C : Ok LY X RX12 cX12_findsWorths 5 d) (r : RetV LY X cX12_findsWorths P) {v1 : Int} {s : Sto} (h : (CallV LY d MX12_queues [.inr 75, .inl v1] s (fun s1 => G LY X 7 [rv 75, iv v1, iv 0, none, none] [] s1))) : G LY X 0 [rv 75, iv v1, none, none, none] [] s := by
  refine G_aload_n C dX12_findsWorths_0 rfl ?_
  refine G_iload_n C dX12_findsWorths_1 rfl ?_
  refine G_callVV (K := []) (args := [.inl v1]) (T := TX12) (N := 72) C ly_75 rfl (Nat.le_of_ble_eq_true rfl) mo_X12_queues wc_X12_318 rfl dX12_findsWorths_2 h (fun s1 h => ?_)
  refine G_iconst C dX12_findsWorths_5 ?_
  refine G_istore_n (L' := [rv 75, iv v1, iv 0, none, none]) C dX12_findsWorths_6 (by decide) rfl ?_
  exact h
set_option maxRecDepth 20000 in
theorem kb_X12_findsWorths_7 {X : Cx} {d : Nat} {P : Sto → Prop} (C : Ok LY X RX12 cX12_findsWorths 5 d) (r : RetV LY X cX12_findsWorths P) {v1 v2 : Int} {s : Sto} (h : ((rg v2 ∧ rg (s 75 4)) ∧ (((s 75 4) ≤ v2 → P s) ∧ (v2 < (s 75 4) → G LY X 20 [rv 75, iv v1, iv v2, iv 0, iv 0] [] s)))) : G LY X 7 [rv 75, iv v1, iv v2, none, none] [] s := by
  refine G_iload_n C dX12_findsWorths_7 rfl ?_
  refine G_aload_n C dX12_findsWorths_8 rfl ?_
  refine gI_X12_4 C ly_75 rfl wf_X12_154 dX12_findsWorths_9 ?_
  refine G_icmp_ge (tgt := 61) C dX12_findsWorths_12 (by decide) ⟨h.1.1, h.1.2⟩ (fun q => ?_) (fun q => ?_)
  · have h := h.2.1 q
    exact r _ _ _ dX12_findsWorths_61 h
  · have h := h.2.2 q
    refine G_iconst C dX12_findsWorths_15 ?_
    refine G_istore_n (L' := [rv 75, iv v1, iv v2, iv 0, none]) C dX12_findsWorths_16 (by decide) rfl ?_
    refine G_iconst C dX12_findsWorths_17 ?_
    refine G_istore (L' := [rv 75, iv v1, iv v2, iv 0, iv 0]) C dX12_findsWorths_18 (by decide) rfl ?_
    exact h
set_option maxRecDepth 20000 in
theorem kb_X12_findsWorths_20 {X : Cx} {d : Nat} {P : Sto → Prop} (C : Ok LY X RX12 cX12_findsWorths 5 d) (r : RetV LY X cX12_findsWorths P) {v1 v2 v3 v4 : Int} {s : Sto} (h : ((rg v4) ∧ ((6 ≤ v4 → ((0 ≤ v2 ∧ v2 < 20) ∧ ((0 ≤ (s 102 v2) ∧ (s 102 v2) < 20) ∧ (∀ s1 : Sto, s1 = up s 103 (s 102 v2) v3 → G LY X 7 [rv 75, iv v1, iv (v2 + 1), none, none] [] s1)))) ∧ (v4 < 6 → (CallI LY d MX12_getsAt [.inr 75, .inl v4, .inl v2] s (fun r2 s2 => G LY X 20 [rv 75, iv v1, iv v2, iv (v3 + r2), iv (v4 + 1)] [] s2)))))) : G LY X 20 [rv 75, iv v1, iv v2, iv v3, iv v4] [] s := by
  refine G_iload C dX12_findsWorths_20 rfl ?_
  refine G_bipush C dX12_findsWorths_22 bi_6 ?_
  refine G_icmp_ge (tgt := 43) C dX12_findsWorths_24 (by decide) ⟨h.1, (by decide)⟩ (fun q => ?_) (fun q => ?_)
  · have h := h.2.1 q
    refine G_aload_n C dX12_findsWorths_43 rfl ?_
    refine gR_X12_48 C ly_75 rfl wf_X12_98 dX12_findsWorths_44 ?_
    refine G_aload_n C dX12_findsWorths_47 rfl ?_
    refine gR_X12_47 C ly_75 rfl wf_X12_95 dX12_findsWorths_48 ?_
    refine G_iload_n C dX12_findsWorths_51 rfl ?_
    refine G_iald C ly_102 (by decide) h.1 dX12_findsWorths_52 ?_
    have h := h.2
    refine G_iload_n C dX12_findsWorths_53 rfl ?_
    refine G_iast C ly_103 (by decide) h.1 dX12_findsWorths_54 ?_
    have h := h.2
    have h := h _ rfl
    obtain ⟨s1, e1⟩ : ∃ z, z = up s 103 (s 102 v2) v3 := ⟨_, rfl⟩
    rw [← e1] at h ⊢
    refine G_iinc (L' := [rv 75, iv v1, iv (v2 + 1), iv v3, iv v4]) C dX12_findsWorths_55 (by decide) rfl rfl ?_
    refine G_goto (tgt := 7) C dX12_findsWorths_58 (by decide) ?_
    refine G_drop (i := 3) (L' := [rv 75, iv v1, iv (v2 + 1), none, iv v4]) rfl ?_
    refine G_drop (i := 4) (L' := [rv 75, iv v1, iv (v2 + 1), none, none]) rfl ?_
    exact h
  · have h := h.2.2 q
    refine G_iload_n C dX12_findsWorths_27 rfl ?_
    refine G_aload_n C dX12_findsWorths_28 rfl ?_
    refine G_iload C dX12_findsWorths_29 rfl ?_
    refine G_iload_n C dX12_findsWorths_31 rfl ?_
    refine G_callVI (K := [.inl v3]) (args := [.inl v4, .inl v2]) (T := TX12) (N := 72) C ly_75 rfl (Nat.le_of_ble_eq_true rfl) mo_X12_getsAt wc_X12_321 rfl dX12_findsWorths_32 h (fun r2 s2 h => ?_)
    refine G_iadd C dX12_findsWorths_35 ?_
    refine G_istore_n (L' := [rv 75, iv v1, iv v2, iv (v3 + r2), iv v4]) C dX12_findsWorths_36 (by decide) rfl ?_
    refine G_iinc (L' := [rv 75, iv v1, iv v2, iv (v3 + r2), iv (v4 + 1)]) C dX12_findsWorths_37 (by decide) rfl rfl ?_
    refine G_goto (tgt := 20) C dX12_findsWorths_40 (by decide) ?_
    exact h
set_option maxRecDepth 20000 in
theorem kb_X12_isSo_0 {X : Cx} {d : Nat} {P : Int → Sto → Prop} (C : Ok LY X RX12 cX12_isSo 5 d) (r : RetZ LY X cX12_isSo P) {v1 v2 : Int} {s : Sto} (h : ((0 ≤ v2 ∧ v2 < 32) ∧ ((0 ≤ v2 ∧ v2 < 32) ∧ ((rg (s 94 v2) ∧ rg (s 95 v2)) ∧ (((s 94 v2) ≠ (s 95 v2) → ((0 ≤ v2 ∧ v2 < 32) ∧ G LY X 33 [rv 75, iv v1, iv v2, iv 0, iv ((400 * v1) + (s 94 v2))] [] s)) ∧ ((s 94 v2) = (s 95 v2) → P 1 s)))))) : G LY X 0 [rv 75, iv v1, iv v2, none, none] [] s := by
  refine G_aload_n C dX12_isSo_0 rfl ?_
  refine gR_X12_32 C ly_75 rfl wf_X12_68 dX12_isSo_1 ?_
  refine G_iload_n C dX12_isSo_4 rfl ?_
  refine G_iald C ly_94 (by decide) h.1 dX12_isSo_5 ?_
  have h := h.2
  refine G_aload_n C dX12_isSo_6 rfl ?_
  refine gR_X12_33 C ly_75 rfl wf_X12_71 dX12_isSo_7 ?_
  refine G_iload_n C dX12_isSo_10 rfl ?_
  refine G_iald C ly_95 (by decide) h.1 dX12_isSo_11 ?_
  have h := h.2
  refine G_icmp_ne (tgt := 17) C dX12_isSo_12 (by decide) ⟨h.1.1, h.1.2⟩ (fun q => ?_) (fun q => ?_)
  · have h := h.2.1 q
    refine G_iconst C dX12_isSo_17 ?_
    refine G_istore_n (L' := [rv 75, iv v1, iv v2, iv 0, none]) C dX12_isSo_18 (by decide) rfl ?_
    refine G_sipush C dX12_isSo_19 si_400 ?_
    refine G_iload_n C dX12_isSo_22 rfl ?_
    refine G_imul C dX12_isSo_23 ?_
    refine G_aload_n C dX12_isSo_24 rfl ?_
    refine gR_X12_32 C ly_75 rfl wf_X12_68 dX12_isSo_25 ?_
    refine G_iload_n C dX12_isSo_28 rfl ?_
    refine G_iald C ly_94 (by decide) h.1 dX12_isSo_29 ?_
    have h := h.2
    refine G_iadd C dX12_isSo_30 ?_
    refine G_istore (L' := [rv 75, iv v1, iv v2, iv 0, iv ((400 * v1) + (s 94 v2))]) C dX12_isSo_31 (by decide) rfl ?_
    exact h
  · have h := h.2.2 q
    refine G_iconst C dX12_isSo_15 ?_
    exact r _ _ _ _ dX12_isSo_16 (by decide) h
set_option maxRecDepth 20000 in
theorem kb_X12_isSo_33 {X : Cx} {d : Nat} {P : Int → Sto → Prop} (C : Ok LY X RX12 cX12_isSo 5 d) (r : RetZ LY X cX12_isSo P) {v1 v2 v3 v4 : Int} {s : Sto} (h : ((0 ≤ v2 ∧ v2 < 32) ∧ ((rg v4 ∧ rg ((400 * v1) + (s 95 v2))) ∧ ((((400 * v1) + (s 95 v2)) ≤ v4 → ((rg (s 100 0)) ∧ (((s 100 0) = 0 → P 0 s) ∧ ((s 100 0) ≠ 0 → P 1 s)))) ∧ (v4 < ((400 * v1) + (s 95 v2)) → ((0 ≤ v4 ∧ v4 < 800) ∧ ((rg (s 96 v4)) ∧ (((s 96 v4) = 0 → ((0 ≤ v4 ∧ v4 < 800) ∧ ((rg (s 96 v4)) ∧ (((s 96 v4) ≠ 0 → ((0 ≤ v4 ∧ v4 < 800) ∧ ((0 ≤ (s 97 v4) ∧ (s 97 v4) < 10) ∧ ((0 ≤ v3 ∧ v3 < 420) ∧ (∀ s1 : Sto, s1 = up s 100 v3 (s 99 (s 97 v4)) → G LY X 33 [rv 75, iv v1, iv v2, iv (v3 + 1), iv (v4 + 1)] [] s1))))) ∧ ((s 96 v4) = 0 → ((0 ≤ v4 ∧ v4 < 800) ∧ ((0 ≤ v3 ∧ v3 < 420) ∧ (∀ s2 : Sto, s2 = up s 100 v3 (s 97 v4) → G LY X 33 [rv 75, iv v1, iv v2, iv (v3 + 1), iv (v4 + 1)] [] s2)))))))) ∧ ((s 96 v4) ≠ 0 → ((0 ≤ v4 ∧ v4 < 800) ∧ ((rg (s 96 v4)) ∧ (((s 96 v4) ≠ 1 → ((0 ≤ v4 ∧ v4 < 800) ∧ ((rg (s 96 v4)) ∧ (((s 96 v4) ≠ 9 → ((0 ≤ v4 ∧ v4 < 800) ∧ ((0 ≤ ((v3 - 1) - 1) ∧ ((v3 - 1) - 1) < 420) ∧ ((0 ≤ (v3 - 1) ∧ (v3 - 1) < 420) ∧ (CallI LY d MX12_twoOf [.inr 75, .inl (s 96 v4), .inl (s 100 ((v3 - 1) - 1)), .inl (s 100 (v3 - 1))] s (fun r3 s3 => ((0 ≤ ((v3 - 1) - 1) ∧ ((v3 - 1) - 1) < 420) ∧ (∀ s4 : Sto, s4 = up s3 100 ((v3 - 1) - 1) r3 → G LY X 33 [rv 75, iv v1, iv v2, iv (v3 - 1), iv (v4 + 1)] [] s4)))))))) ∧ ((s 96 v4) = 9 → ((0 ≤ (v3 - 1) ∧ (v3 - 1) < 420) ∧ ((0 ≤ (v3 - 1) ∧ (v3 - 1) < 420) ∧ (∀ s5 : Sto, s5 = up s 100 (v3 - 1) (1 - (s 100 (v3 - 1))) → G LY X 33 [rv 75, iv v1, iv v2, iv v3, iv (v4 + 1)] [] s5)))))))) ∧ ((s 96 v4) = 1 → ((0 ≤ v4 ∧ v4 < 800) ∧ ((rg (s 96 v4)) ∧ (((s 96 v4) ≠ 0 → ((0 ≤ v4 ∧ v4 < 800) ∧ ((0 ≤ (s 97 v4) ∧ (s 97 v4) < 10) ∧ ((0 ≤ v3 ∧ v3 < 420) ∧ (∀ s6 : Sto, s6 = up s 100 v3 (s 99 (s 97 v4)) → G LY X 33 [rv 75, iv v1, iv v2, iv (v3 + 1), iv (v4 + 1)] [] s6))))) ∧ ((s 96 v4) = 0 → ((0 ≤ v4 ∧ v4 < 800) ∧ ((0 ≤ v3 ∧ v3 < 420) ∧ (∀ s7 : Sto, s7 = up s 100 v3 (s 97 v4) → G LY X 33 [rv 75, iv v1, iv v2, iv (v3 + 1), iv (v4 + 1)] [] s7)))))))))))))))))))) : G LY X 33 [rv 75, iv v1, iv v2, iv v3, iv v4] [] s := by
  refine G_iload C dX12_isSo_33 rfl ?_
  refine G_sipush C dX12_isSo_35 si_400 ?_
  refine G_iload_n C dX12_isSo_38 rfl ?_
  refine G_imul C dX12_isSo_39 ?_
  refine G_aload_n C dX12_isSo_40 rfl ?_
  refine gR_X12_33 C ly_75 rfl wf_X12_71 dX12_isSo_41 ?_
  refine G_iload_n C dX12_isSo_44 rfl ?_
  refine G_iald C ly_95 (by decide) h.1 dX12_isSo_45 ?_
  have h := h.2
  refine G_iadd C dX12_isSo_46 ?_
  refine G_icmp_ge (tgt := 192) C dX12_isSo_47 (by decide) ⟨h.1.1, h.1.2⟩ (fun q => ?_) (fun q => ?_)
  · have h := h.2.1 q
    refine G_aload_n C dX12_isSo_192 rfl ?_
    refine gR_X12_45 C ly_75 rfl wf_X12_89 dX12_isSo_193 ?_
    refine G_iconst C dX12_isSo_196 ?_
    refine G_iald C ly_100 (by decide) (by decide) dX12_isSo_197 ?_
    refine G_if_eq (tgt := 205) C dX12_isSo_198 (by decide) h.1 (fun q => ?_) (fun q => ?_)
    · have h := h.2.1 q
      refine G_iconst C dX12_isSo_205 ?_
      exact r _ _ _ _ dX12_isSo_206 (by decide) h
    · have h := h.2.2 q
      refine G_iconst C dX12_isSo_201 ?_
      refine G_goto (tgt := 206) C dX12_isSo_202 (by decide) ?_
      exact r _ _ _ _ dX12_isSo_206 (by decide) h
  · have h := h.2.2 q
    refine G_aload_n C dX12_isSo_50 rfl ?_
    refine gR_X12_34 C ly_75 rfl wf_X12_74 dX12_isSo_51 ?_
    refine G_iload C dX12_isSo_54 rfl ?_
    refine G_iald C ly_96 (by decide) h.1 dX12_isSo_56 ?_
    have h := h.2
    refine G_if_eq (tgt := 71) C dX12_isSo_57 (by decide) h.1 (fun q => ?_) (fun q => ?_)
    · have h := h.2.1 q
      refine G_aload_n C dX12_isSo_71 rfl ?_
      refine gR_X12_45 C ly_75 rfl wf_X12_89 dX12_isSo_72 ?_
      refine G_iload_n C dX12_isSo_75 rfl ?_
      refine G_aload_n C dX12_isSo_76 rfl ?_
      refine gR_X12_34 C ly_75 rfl wf_X12_74 dX12_isSo_77 ?_
      refine G_iload C dX12_isSo_80 rfl ?_
      refine G_iald C ly_96 (by decide) h.1 dX12_isSo_82 ?_
      have h := h.2
      refine G_if_ne (tgt := 96) C dX12_isSo_83 (by decide) h.1 (fun q => ?_) (fun q => ?_)
      · have h := h.2.1 q
        refine G_aload_n C dX12_isSo_96 rfl ?_
        refine gR_X12_44 C ly_75 rfl wf_X12_86 dX12_isSo_97 ?_
        refine G_aload_n C dX12_isSo_100 rfl ?_
        refine gR_X12_35 C ly_75 rfl wf_X12_77 dX12_isSo_101 ?_
        refine G_iload C dX12_isSo_104 rfl ?_
        refine G_iald C ly_97 (by decide) h.1 dX12_isSo_106 ?_
        have h := h.2
        refine G_iald C ly_99 (by decide) h.1 dX12_isSo_107 ?_
        have h := h.2
        refine G_iast C ly_100 (by decide) h.1 dX12_isSo_108 ?_
        have h := h.2
        have h := h _ rfl
        obtain ⟨s1, e1⟩ : ∃ z, z = up s 100 v3 (s 99 (s 97 v4)) := ⟨_, rfl⟩
        rw [← e1] at h ⊢
        refine G_iload_n C dX12_isSo_109 rfl ?_
        refine G_iconst C dX12_isSo_110 ?_
        refine G_iadd C dX12_isSo_111 ?_
        refine G_istore_n (L' := [rv 75, iv v1, iv v2, iv (v3 + 1), iv v4]) C dX12_isSo_112 (by decide) rfl ?_
        refine G_goto (tgt := 186) C dX12_isSo_113 (by decide) ?_
        refine G_iinc (L' := [rv 75, iv v1, iv v2, iv (v3 + 1), iv (v4 + 1)]) C dX12_isSo_186 (by decide) rfl rfl ?_
        refine G_goto (tgt := 33) C dX12_isSo_189 (by decide) ?_
        exact h
      · have h := h.2.2 q
        refine G_aload_n C dX12_isSo_86 rfl ?_
        refine gR_X12_35 C ly_75 rfl wf_X12_77 dX12_isSo_87 ?_
        refine G_iload C dX12_isSo_90 rfl ?_
        refine G_iald C ly_97 (by decide) h.1 dX12_isSo_92 ?_
        have h := h.2
        refine G_goto (tgt := 108) C dX12_isSo_93 (by decide) ?_
        refine G_iast C ly_100 (by decide) h.1 dX12_isSo_108 ?_
        have h := h.2
        have h := h _ rfl
        obtain ⟨s2, e2⟩ : ∃ z, z = up s 100 v3 (s 97 v4) := ⟨_, rfl⟩
        rw [← e2] at h ⊢
        refine G_iload_n C dX12_isSo_109 rfl ?_
        refine G_iconst C dX12_isSo_110 ?_
        refine G_iadd C dX12_isSo_111 ?_
        refine G_istore_n (L' := [rv 75, iv v1, iv v2, iv (v3 + 1), iv v4]) C dX12_isSo_112 (by decide) rfl ?_
        refine G_goto (tgt := 186) C dX12_isSo_113 (by decide) ?_
        refine G_iinc (L' := [rv 75, iv v1, iv v2, iv (v3 + 1), iv (v4 + 1)]) C dX12_isSo_186 (by decide) rfl rfl ?_
        refine G_goto (tgt := 33) C dX12_isSo_189 (by decide) ?_
        exact h
    · have h := h.2.2 q
      refine G_aload_n C dX12_isSo_60 rfl ?_
      refine gR_X12_34 C ly_75 rfl wf_X12_74 dX12_isSo_61 ?_
      refine G_iload C dX12_isSo_64 rfl ?_
      refine G_iald C ly_96 (by decide) h.1 dX12_isSo_66 ?_
      have h := h.2
      refine G_iconst C dX12_isSo_67 ?_
      refine G_icmp_ne (tgt := 116) C dX12_isSo_68 (by decide) ⟨h.1, (by decide)⟩ (fun q => ?_) (fun q => ?_)
      · have h := h.2.1 q
        refine G_aload_n C dX12_isSo_116 rfl ?_
        refine gR_X12_34 C ly_75 rfl wf_X12_74 dX12_isSo_117 ?_
        refine G_iload C dX12_isSo_120 rfl ?_
        refine G_iald C ly_96 (by decide) h.1 dX12_isSo_122 ?_
        have h := h.2
        refine G_bipush C dX12_isSo_123 bi_9 ?_
        refine G_icmp_ne (tgt := 149) C dX12_isSo_125 (by decide) ⟨h.1, (by decide)⟩ (fun q => ?_) (fun q => ?_)
        · have h := h.2.1 q
          refine G_iload_n C dX12_isSo_149 rfl ?_
          refine G_iconst C dX12_isSo_150 ?_
          refine G_isub C dX12_isSo_151 ?_
          refine G_istore_n (L' := [rv 75, iv v1, iv v2, iv (v3 - 1), iv v4]) C dX12_isSo_152 (by decide) rfl ?_
          refine G_aload_n C dX12_isSo_153 rfl ?_
          refine gR_X12_45 C ly_75 rfl wf_X12_89 dX12_isSo_154 ?_
          refine G_iload_n C dX12_isSo_157 rfl ?_
          refine G_iconst C dX12_isSo_158 ?_
          refine G_isub C dX12_isSo_159 ?_
          refine G_aload_n C dX12_isSo_160 rfl ?_
          refine G_aload_n C dX12_isSo_161 rfl ?_
          refine gR_X12_34 C ly_75 rfl wf_X12_74 dX12_isSo_162 ?_
          refine G_iload C dX12_isSo_165 rfl ?_
          refine G_iald C ly_96 (by decide) h.1 dX12_isSo_167 ?_
          have h := h.2
          refine G_aload_n C dX12_isSo_168 rfl ?_
          refine gR_X12_45 C ly_75 rfl wf_X12_89 dX12_isSo_169 ?_
          refine G_iload_n C dX12_isSo_172 rfl ?_
          refine G_iconst C dX12_isSo_173 ?_
          refine G_isub C dX12_isSo_174 ?_
          refine G_iald C ly_100 (by decide) h.1 dX12_isSo_175 ?_
          have h := h.2
          refine G_aload_n C dX12_isSo_176 rfl ?_
          refine gR_X12_45 C ly_75 rfl wf_X12_89 dX12_isSo_177 ?_
          refine G_iload_n C dX12_isSo_180 rfl ?_
          refine G_iald C ly_100 (by decide) h.1 dX12_isSo_181 ?_
          have h := h.2
          refine G_callVI (K := [.inl ((v3 - 1) - 1), .inr 100]) (args := [.inl (s 96 v4), .inl (s 100 ((v3 - 1) - 1)), .inl (s 100 (v3 - 1))]) (T := TX12) (N := 72) C ly_75 rfl (Nat.le_of_ble_eq_true rfl) mo_X12_twoOf wc_X12_298 rfl dX12_isSo_182 h (fun r3 s3 h => ?_)
          refine G_iast C ly_100 (by decide) h.1 dX12_isSo_185 ?_
          have h := h.2
          have h := h _ rfl
          obtain ⟨s4, e4⟩ : ∃ z, z = up s3 100 ((v3 - 1) - 1) r3 := ⟨_, rfl⟩
          rw [← e4] at h ⊢
          refine G_iinc (L' := [rv 75, iv v1, iv v2, iv (v3 - 1), iv (v4 + 1)]) C dX12_isSo_186 (by decide) rfl rfl ?_
          refine G_goto (tgt := 33) C dX12_isSo_189 (by decide) ?_
          exact h
        · have h := h.2.2 q
          refine G_aload_n C dX12_isSo_128 rfl ?_
          refine gR_X12_45 C ly_75 rfl wf_X12_89 dX12_isSo_129 ?_
          refine G_iload_n C dX12_isSo_132 rfl ?_
          refine G_iconst C dX12_isSo_133 ?_
          refine G_isub C dX12_isSo_134 ?_
          refine G_iconst C dX12_isSo_135 ?_
          refine G_aload_n C dX12_isSo_136 rfl ?_
          refine gR_X12_45 C ly_75 rfl wf_X12_89 dX12_isSo_137 ?_
          refine G_iload_n C dX12_isSo_140 rfl ?_
          refine G_iconst C dX12_isSo_141 ?_
          refine G_isub C dX12_isSo_142 ?_
          refine G_iald C ly_100 (by decide) h.1 dX12_isSo_143 ?_
          have h := h.2
          refine G_isub C dX12_isSo_144 ?_
          refine G_iast C ly_100 (by decide) h.1 dX12_isSo_145 ?_
          have h := h.2
          have h := h _ rfl
          obtain ⟨s5, e5⟩ : ∃ z, z = up s 100 (v3 - 1) (1 - (s 100 (v3 - 1))) := ⟨_, rfl⟩
          rw [← e5] at h ⊢
          refine G_goto (tgt := 186) C dX12_isSo_146 (by decide) ?_
          refine G_iinc (L' := [rv 75, iv v1, iv v2, iv v3, iv (v4 + 1)]) C dX12_isSo_186 (by decide) rfl rfl ?_
          refine G_goto (tgt := 33) C dX12_isSo_189 (by decide) ?_
          exact h
      · have h := h.2.2 q
        refine G_aload_n C dX12_isSo_71 rfl ?_
        refine gR_X12_45 C ly_75 rfl wf_X12_89 dX12_isSo_72 ?_
        refine G_iload_n C dX12_isSo_75 rfl ?_
        refine G_aload_n C dX12_isSo_76 rfl ?_
        refine gR_X12_34 C ly_75 rfl wf_X12_74 dX12_isSo_77 ?_
        refine G_iload C dX12_isSo_80 rfl ?_
        refine G_iald C ly_96 (by decide) h.1 dX12_isSo_82 ?_
        have h := h.2
        refine G_if_ne (tgt := 96) C dX12_isSo_83 (by decide) h.1 (fun q => ?_) (fun q => ?_)
        · have h := h.2.1 q
          refine G_aload_n C dX12_isSo_96 rfl ?_
          refine gR_X12_44 C ly_75 rfl wf_X12_86 dX12_isSo_97 ?_
          refine G_aload_n C dX12_isSo_100 rfl ?_
          refine gR_X12_35 C ly_75 rfl wf_X12_77 dX12_isSo_101 ?_
          refine G_iload C dX12_isSo_104 rfl ?_
          refine G_iald C ly_97 (by decide) h.1 dX12_isSo_106 ?_
          have h := h.2
          refine G_iald C ly_99 (by decide) h.1 dX12_isSo_107 ?_
          have h := h.2
          refine G_iast C ly_100 (by decide) h.1 dX12_isSo_108 ?_
          have h := h.2
          have h := h _ rfl
          obtain ⟨s6, e6⟩ : ∃ z, z = up s 100 v3 (s 99 (s 97 v4)) := ⟨_, rfl⟩
          rw [← e6] at h ⊢
          refine G_iload_n C dX12_isSo_109 rfl ?_
          refine G_iconst C dX12_isSo_110 ?_
          refine G_iadd C dX12_isSo_111 ?_
          refine G_istore_n (L' := [rv 75, iv v1, iv v2, iv (v3 + 1), iv v4]) C dX12_isSo_112 (by decide) rfl ?_
          refine G_goto (tgt := 186) C dX12_isSo_113 (by decide) ?_
          refine G_iinc (L' := [rv 75, iv v1, iv v2, iv (v3 + 1), iv (v4 + 1)]) C dX12_isSo_186 (by decide) rfl rfl ?_
          refine G_goto (tgt := 33) C dX12_isSo_189 (by decide) ?_
          exact h
        · have h := h.2.2 q
          refine G_aload_n C dX12_isSo_86 rfl ?_
          refine gR_X12_35 C ly_75 rfl wf_X12_77 dX12_isSo_87 ?_
          refine G_iload C dX12_isSo_90 rfl ?_
          refine G_iald C ly_97 (by decide) h.1 dX12_isSo_92 ?_
          have h := h.2
          refine G_goto (tgt := 108) C dX12_isSo_93 (by decide) ?_
          refine G_iast C ly_100 (by decide) h.1 dX12_isSo_108 ?_
          have h := h.2
          have h := h _ rfl
          obtain ⟨s7, e7⟩ : ∃ z, z = up s 100 v3 (s 97 v4) := ⟨_, rfl⟩
          rw [← e7] at h ⊢
          refine G_iload_n C dX12_isSo_109 rfl ?_
          refine G_iconst C dX12_isSo_110 ?_
          refine G_iadd C dX12_isSo_111 ?_
          refine G_istore_n (L' := [rv 75, iv v1, iv v2, iv (v3 + 1), iv v4]) C dX12_isSo_112 (by decide) rfl ?_
          refine G_goto (tgt := 186) C dX12_isSo_113 (by decide) ?_
          refine G_iinc (L' := [rv 75, iv v1, iv v2, iv (v3 + 1), iv (v4 + 1)]) C dX12_isSo_186 (by decide) rfl rfl ?_
          refine G_goto (tgt := 33) C dX12_isSo_189 (by decide) ?_
          exact h
set_option maxRecDepth 20000 in
theorem kb_X12_notes_0 {X : Cx} {d : Nat} {P : Sto → Prop} (C : Ok LY X RX12 cX12_notes 3 d) (r : RetV LY X cX12_notes P) {v1 : Int} {s : Sto} (h : G LY X 2 [rv 75, iv v1, iv 0] [] s) : G LY X 0 [rv 75, iv v1, none] [] s := by
  refine G_iconst C dX12_notes_0 ?_
  refine G_istore_n (L' := [rv 75, iv v1, iv 0]) C dX12_notes_1 (by decide) rfl ?_
  exact h
set_option maxRecDepth 20000 in
theorem kb_X12_notes_2 {X : Cx} {d : Nat} {P : Sto → Prop} (C : Ok LY X RX12 cX12_notes 3 d) (r : RetV LY X cX12_notes P) {v1 v2 : Int} {s : Sto} (h : ((rg v2 ∧ rg (s 75 4)) ∧ (((s 75 4) ≤ v2 → P s) ∧ (v2 < (s 75 4) → (CallI LY d MX12_kindOf [.inr 75, .inl v2] s (fun r1 s1 => ((0 ≤ ((20 * v1) + v2) ∧ ((20 * v1) + v2) < 820) ∧ (∀ s2 : Sto, s2 = up s1 107 ((20 * v1) + v2) r1 → G LY X 2 [rv 75, iv v1, iv (v2 + 1)] [] s2)))))))) : G LY X 2 [rv 75, iv v1, iv v2] [] s := by
  refine G_iload_n C dX12_notes_2 rfl ?_
  refine G_aload_n C dX12_notes_3 rfl ?_
  refine gI_X12_4 C ly_75 rfl wf_X12_154 dX12_notes_4 ?_
  refine G_icmp_ge (tgt := 32) C dX12_notes_7 (by decide) ⟨h.1.1, h.1.2⟩ (fun q => ?_) (fun q => ?_)
  · have h := h.2.1 q
    exact r _ _ _ dX12_notes_32 h
  · have h := h.2.2 q
    refine G_aload_n C dX12_notes_10 rfl ?_
    refine gR_X12_52 C ly_75 rfl wf_X12_110 dX12_notes_11 ?_
    refine G_bipush C dX12_notes_14 bi_20 ?_
    refine G_iload_n C dX12_notes_16 rfl ?_
    refine G_imul C dX12_notes_17 ?_
    refine G_iload_n C dX12_notes_18 rfl ?_
    refine G_iadd C dX12_notes_19 ?_
    refine G_aload_n C dX12_notes_20 rfl ?_
    refine G_iload_n C dX12_notes_21 rfl ?_
    refine G_callVI (K := [.inl ((20 * v1) + v2), .inr 107]) (args := [.inl v2]) (T := TX12) (N := 72) C ly_75 rfl (Nat.le_of_ble_eq_true rfl) mo_X12_kindOf wc_X12_349 rfl dX12_notes_22 h (fun r1 s1 h => ?_)
    refine G_iast C ly_107 (by decide) h.1 dX12_notes_25 ?_
    have h := h.2
    have h := h _ rfl
    obtain ⟨s2, e2⟩ : ∃ z, z = up s1 107 ((20 * v1) + v2) r1 := ⟨_, rfl⟩
    rw [← e2] at h ⊢
    refine G_iinc (L' := [rv 75, iv v1, iv (v2 + 1)]) C dX12_notes_26 (by decide) rfl rfl ?_
    refine G_goto (tgt := 2) C dX12_notes_29 (by decide) ?_
    exact h
set_option maxRecDepth 20000 in
theorem kb_X12_rounds_0 {X : Cx} {d : Nat} {P : Int → Sto → Prop} (C : Ok LY X RX12 cX12_rounds 8 d) (r : RetI LY X cX12_rounds P) {s : Sto} (h : G LY X 4 [rv 75, iv 0, iv 0, none, none, none, none, none] [] s) : G LY X 0 [rv 75, none, none, none, none, none, none, none] [] s := by
  refine G_iconst C dX12_rounds_0 ?_
  refine G_istore_n (L' := [rv 75, iv 0, none, none, none, none, none, none]) C dX12_rounds_1 (by decide) rfl ?_
  refine G_iconst C dX12_rounds_2 ?_
  refine G_istore_n (L' := [rv 75, iv 0, iv 0, none, none, none, none, none]) C dX12_rounds_3 (by decide) rfl ?_
  exact h
set_option maxRecDepth 20000 in
theorem kb_X12_rounds_4 {X : Cx} {d : Nat} {P : Int → Sto → Prop} (C : Ok LY X RX12 cX12_rounds 8 d) (r : RetI LY X cX12_rounds P) {v1 v2 : Int} {s : Sto} (h : ((rg v2 ∧ rg (s 75 4)) ∧ (((s 75 4) ≤ v2 → P v1 s) ∧ (v2 < (s 75 4) → (CallI LY d MX12_worthOf [.inr 75, .inl v2, .inl 0] s (fun r1 s1 => G LY X 28 [rv 75, iv v1, iv v2, iv (-1), iv 0, iv r1, iv 0, none] [] s1)))))) : G LY X 4 [rv 75, iv v1, iv v2, none, none, none, none, none] [] s := by
  refine G_iload_n C dX12_rounds_4 rfl ?_
  refine G_aload_n C dX12_rounds_5 rfl ?_
  refine gI_X12_4 C ly_75 rfl wf_X12_154 dX12_rounds_6 ?_
  refine G_icmp_ge (tgt := 117) C dX12_rounds_9 (by decide) ⟨h.1.1, h.1.2⟩ (fun q => ?_) (fun q => ?_)
  · have h := h.2.1 q
    refine G_iload_n C dX12_rounds_117 rfl ?_
    exact r _ _ _ _ dX12_rounds_118 h
  · have h := h.2.2 q
    refine G_iconst C dX12_rounds_12 ?_
    refine G_istore_n (L' := [rv 75, iv v1, iv v2, iv (-1), none, none, none, none]) C dX12_rounds_13 (by decide) rfl ?_
    refine G_iconst C dX12_rounds_14 ?_
    refine G_istore (L' := [rv 75, iv v1, iv v2, iv (-1), iv 0, none, none, none]) C dX12_rounds_15 (by decide) rfl ?_
    refine G_aload_n C dX12_rounds_17 rfl ?_
    refine G_iload_n C dX12_rounds_18 rfl ?_
    refine G_iconst C dX12_rounds_19 ?_
    refine G_callVI (K := []) (args := [.inl v2, .inl 0]) (T := TX12) (N := 72) C ly_75 rfl (Nat.le_of_ble_eq_true rfl) mo_X12_worthOf wc_X12_328 rfl dX12_rounds_20 h (fun r1 s1 h => ?_)
    refine G_istore (L' := [rv 75, iv v1, iv v2, iv (-1), iv 0, iv r1, none, none]) C dX12_rounds_23 (by decide) rfl ?_
    refine G_iconst C dX12_rounds_25 ?_
    refine G_istore (L' := [rv 75, iv v1, iv v2, iv (-1), iv 0, iv r1, iv 0, none]) C dX12_rounds_26 (by decide) rfl ?_
    exact h
set_option maxRecDepth 20000 in
theorem kb_X12_rounds_28 {X : Cx} {d : Nat} {P : Int → Sto → Prop} (C : Ok LY X RX12 cX12_rounds 8 d) (r : RetI LY X cX12_rounds P) {v1 v2 v3 v4 v5 v6 : Int} {s : Sto} (h : ((rg v6 ∧ rg (s 75 8)) ∧ (((s 75 8) ≤ v6 → ((rg v3) ∧ ((v3 ≠ (-1) → (CallV LY d MX12_movesName [.inr 75, .inl (20 + v3), .inl v2] s (fun s1 => G LY X 4 [rv 75, iv (v1 + 1), iv (v2 + 1), none, none, none, none, none] [] s1))) ∧ (v3 = (-1) → G LY X 4 [rv 75, iv v1, iv (v2 + 1), none, none, none, none, none] [] s)))) ∧ (v6 < (s 75 8) → (CallI LY d MX12_may [.inr 75, .inl v2, .inl (20 + v6), .inl v5] s (fun r2 s2 => ((rg r2) ∧ ((r2 ≠ 0 → (CallI LY d MX12_gainOf [.inr 75, .inl v2, .inl (20 + v6)] s2 (fun r3 s3 => ((rg r3 ∧ rg v4) ∧ ((v4 < r3 → G LY X 28 [rv 75, iv v1, iv v2, iv v6, iv r3, iv v5, iv (v6 + 1), none] [] s3) ∧ (r3 ≤ v4 → G LY X 28 [rv 75, iv v1, iv v2, iv v3, iv v4, iv v5, iv (v6 + 1), none] [] s3)))))) ∧ (r2 = 0 → G LY X 28 [rv 75, iv v1, iv v2, iv v3, iv v4, iv v5, iv (v6 + 1), none] [] s2))))))))) : G LY X 28 [rv 75, iv v1, iv v2, iv v3, iv v4, iv v5, iv v6, none] [] s := by
  refine G_iload C dX12_rounds_28 rfl ?_
  refine G_aload_n C dX12_rounds_30 rfl ?_
  refine gI_X12_8 C ly_75 rfl wf_X12_171 dX12_rounds_31 ?_
  refine G_icmp_ge (tgt := 90) C dX12_rounds_34 (by decide) ⟨h.1.1, h.1.2⟩ (fun q => ?_) (fun q => ?_)
  · have h := h.2.1 q
    refine G_iload_n C dX12_rounds_90 rfl ?_
    refine G_iconst C dX12_rounds_91 ?_
    refine G_icmp_ne (tgt := 98) C dX12_rounds_92 (by decide) ⟨h.1, (by decide)⟩ (fun q => ?_) (fun q => ?_)
    · have h := h.2.1 q
      refine G_aload_n C dX12_rounds_98 rfl ?_
      refine G_bipush C dX12_rounds_99 bi_20 ?_
      refine G_iload_n C dX12_rounds_101 rfl ?_
      refine G_iadd C dX12_rounds_102 ?_
      refine G_iload_n C dX12_rounds_103 rfl ?_
      refine G_callVV (K := []) (args := [.inl (20 + v3), .inl v2]) (T := TX12) (N := 72) C ly_75 rfl (Nat.le_of_ble_eq_true rfl) mo_X12_movesName wc_X12_187 rfl dX12_rounds_104 h (fun s1 h => ?_)
      refine G_iload_n C dX12_rounds_107 rfl ?_
      refine G_iconst C dX12_rounds_108 ?_
      refine G_iadd C dX12_rounds_109 ?_
      refine G_istore_n (L' := [rv 75, iv (v1 + 1), iv v2, iv v3, iv v4, iv v5, iv v6, none]) C dX12_rounds_110 (by decide) rfl ?_
      refine G_iinc (L' := [rv 75, iv (v1 + 1), iv (v2 + 1), iv v3, iv v4, iv v5, iv v6, none]) C dX12_rounds_111 (by decide) rfl rfl ?_
      refine G_goto (tgt := 4) C dX12_rounds_114 (by decide) ?_
      refine G_drop (i := 3) (L' := [rv 75, iv (v1 + 1), iv (v2 + 1), none, iv v4, iv v5, iv v6, none]) rfl ?_
      refine G_drop (i := 4) (L' := [rv 75, iv (v1 + 1), iv (v2 + 1), none, none, iv v5, iv v6, none]) rfl ?_
      refine G_drop (i := 5) (L' := [rv 75, iv (v1 + 1), iv (v2 + 1), none, none, none, iv v6, none]) rfl ?_
      refine G_drop (i := 6) (L' := [rv 75, iv (v1 + 1), iv (v2 + 1), none, none, none, none, none]) rfl ?_
      exact h
    · have h := h.2.2 q
      refine G_goto (tgt := 111) C dX12_rounds_95 (by decide) ?_
      refine G_iinc (L' := [rv 75, iv v1, iv (v2 + 1), iv v3, iv v4, iv v5, iv v6, none]) C dX12_rounds_111 (by decide) rfl rfl ?_
      refine G_goto (tgt := 4) C dX12_rounds_114 (by decide) ?_
      refine G_drop (i := 3) (L' := [rv 75, iv v1, iv (v2 + 1), none, iv v4, iv v5, iv v6, none]) rfl ?_
      refine G_drop (i := 4) (L' := [rv 75, iv v1, iv (v2 + 1), none, none, iv v5, iv v6, none]) rfl ?_
      refine G_drop (i := 5) (L' := [rv 75, iv v1, iv (v2 + 1), none, none, none, iv v6, none]) rfl ?_
      refine G_drop (i := 6) (L' := [rv 75, iv v1, iv (v2 + 1), none, none, none, none, none]) rfl ?_
      exact h
  · have h := h.2.2 q
    refine G_aload_n C dX12_rounds_37 rfl ?_
    refine G_iload_n C dX12_rounds_38 rfl ?_
    refine G_bipush C dX12_rounds_39 bi_20 ?_
    refine G_iload C dX12_rounds_41 rfl ?_
    refine G_iadd C dX12_rounds_43 ?_
    refine G_iload C dX12_rounds_44 rfl ?_
    refine G_callVI (K := []) (args := [.inl v2, .inl (20 + v6), .inl v5]) (T := TX12) (N := 72) C ly_75 rfl (Nat.le_of_ble_eq_true rfl) mo_X12_may wc_X12_340 rfl dX12_rounds_46 h (fun r2 s2 h => ?_)
    refine G_if_ne (tgt := 55) C dX12_rounds_49 (by decide) h.1 (fun q => ?_) (fun q => ?_)
    · have h := h.2.1 q
      refine G_aload_n C dX12_rounds_55 rfl ?_
      refine G_iload_n C dX12_rounds_56 rfl ?_
      refine G_bipush C dX12_rounds_57 bi_20 ?_
      refine G_iload C dX12_rounds_59 rfl ?_
      refine G_iadd C dX12_rounds_61 ?_
      refine G_callVI (K := []) (args := [.inl v2, .inl (20 + v6)]) (T := TX12) (N := 72) C ly_75 rfl (Nat.le_of_ble_eq_true rfl) mo_X12_gainOf wc_X12_343 rfl dX12_rounds_62 h (fun r3 s3 h => ?_)
      refine G_istore (L' := [rv 75, iv v1, iv v2, iv v3, iv v4, iv v5, iv v6, iv r3]) C dX12_rounds_65 (by decide) rfl ?_
      refine G_iload C dX12_rounds_67 rfl ?_
      refine G_iload C dX12_rounds_69 rfl ?_
      refine G_icmp_gt (tgt := 77) C dX12_rounds_71 (by decide) ⟨h.1.1, h.1.2⟩ (fun q => ?_) (fun q => ?_)
      · have h := h.2.1 q
        refine G_iload C dX12_rounds_77 rfl ?_
        refine G_istore_n (L' := [rv 75, iv v1, iv v2, iv v6, iv v4, iv v5, iv v6, iv r3]) C dX12_rounds_79 (by decide) rfl ?_
        refine G_iload C dX12_rounds_80 rfl ?_
        refine G_istore (L' := [rv 75, iv v1, iv v2, iv v6, iv r3, iv v5, iv v6, iv r3]) C dX12_rounds_82 (by decide) rfl ?_
        refine G_iinc (L' := [rv 75, iv v1, iv v2, iv v6, iv r3, iv v5, iv (v6 + 1), iv r3]) C dX12_rounds_84 (by decide) rfl rfl ?_
        refine G_goto (tgt := 28) C dX12_rounds_87 (by decide) ?_
        refine G_drop (i := 7) (L' := [rv 75, iv v1, iv v2, iv v6, iv r3, iv v5, iv (v6 + 1), none]) rfl ?_
        exact h
      · have h := h.2.2 q
        refine G_goto (tgt := 84) C dX12_rounds_74 (by decide) ?_
        refine G_iinc (L' := [rv 75, iv v1, iv v2, iv v3, iv v4, iv v5, iv (v6 + 1), iv r3]) C dX12_rounds_84 (by decide) rfl rfl ?_
        refine G_goto (tgt := 28) C dX12_rounds_87 (by decide) ?_
        refine G_drop (i := 7) (L' := [rv 75, iv v1, iv v2, iv v3, iv v4, iv v5, iv (v6 + 1), none]) rfl ?_
        exact h
    · have h := h.2.2 q
      refine G_goto (tgt := 84) C dX12_rounds_52 (by decide) ?_
      refine G_iinc (L' := [rv 75, iv v1, iv v2, iv v3, iv v4, iv v5, iv (v6 + 1), none]) C dX12_rounds_84 (by decide) rfl rfl ?_
      refine G_goto (tgt := 28) C dX12_rounds_87 (by decide) ?_
      exact h
