set_option maxRecDepth 20000 in
theorem kb_X9_orderOnce_0 {X : Cx} {d : Nat} {P : Int → Sto → Prop} (C : Ok LY X RX9 cX9_orderOnce 7 d) (r : RetI LY X cX9_orderOnce P) {v1 : Int} {s : Sto} (h : (∀ s1 : Sto, s1 = up s 1 1 0 → ((rg (s 1 1) ∧ rg v1) ∧ (((s 1 1) = v1 → G LY X 25 [rv 1, iv v1, iv (s 1 1), iv 0, iv 0, iv 0, none] [] s1) ∧ ((s 1 1) ≠ v1 → P (-1) s1))))) : G LY X 0 [rv 1, iv v1, none, none, none, none, none] [] s := by
  refine G_aload_n C dX9_orderOnce_0 rfl ?_
  refine gI_X9_1 C ly_1 rfl wf_X9_15 dX9_orderOnce_1 ?_
  refine G_istore_n (L' := [rv 1, iv v1, iv (s 1 1), none, none, none, none]) C dX9_orderOnce_4 (by decide) rfl ?_
  refine G_aload_n C dX9_orderOnce_5 rfl ?_
  refine G_iconst C dX9_orderOnce_6 ?_
  refine gP_X9_1 C ly_1 rfl wf_X9_15 dX9_orderOnce_7 ?_
  have h := h _ rfl
  obtain ⟨s1, e1⟩ : ∃ z, z = up s 1 1 0 := ⟨_, rfl⟩
  rw [← e1] at h ⊢
  refine G_iload_n C dX9_orderOnce_10 rfl ?_
  refine G_iload_n C dX9_orderOnce_11 rfl ?_
  refine G_icmp_eq (tgt := 17) C dX9_orderOnce_12 (by decide) ⟨h.1.1, h.1.2⟩ (fun q => ?_) (fun q => ?_)
  · have h := h.2.1 q
    refine G_iconst C dX9_orderOnce_17 ?_
    refine G_istore_n (L' := [rv 1, iv v1, iv (s 1 1), iv 0, none, none, none]) C dX9_orderOnce_18 (by decide) rfl ?_
    refine G_iconst C dX9_orderOnce_19 ?_
    refine G_istore (L' := [rv 1, iv v1, iv (s 1 1), iv 0, iv 0, none, none]) C dX9_orderOnce_20 (by decide) rfl ?_
    refine G_iconst C dX9_orderOnce_22 ?_
    refine G_istore (L' := [rv 1, iv v1, iv (s 1 1), iv 0, iv 0, iv 0, none]) C dX9_orderOnce_23 (by decide) rfl ?_
    exact h
  · have h := h.2.2 q
    refine G_iconst C dX9_orderOnce_15 ?_
    exact r _ _ _ _ dX9_orderOnce_16 h
set_option maxRecDepth 20000 in
theorem kb_X9_orderOnce_25 {X : Cx} {d : Nat} {P : Int → Sto → Prop} (C : Ok LY X RX9 cX9_orderOnce 7 d) (r : RetI LY X cX9_orderOnce P) {v1 v2 v3 v4 v5 : Int} {s : Sto} (h : ((rg v5 ∧ rg v2) ∧ ((v2 ≤ v5 → P v3 s) ∧ (v5 < v2 → ((0 ≤ v5 ∧ v5 < 400) ∧ ((rg ((s 2 v5) - 97)) ∧ ((((s 2 v5) - 97) < 0 → P (-1) s) ∧ (0 ≤ ((s 2 v5) - 97) → ((rg ((s 2 v5) - 97) ∧ rg v1) ∧ ((v1 ≤ ((s 2 v5) - 97) → P (-1) s) ∧ (((s 2 v5) - 97) < v1 → (((xand (xshr v4 ((s 2 v5) - 97)) 1) ≠ 1 → G LY X 25 [rv 1, iv v1, iv v2, iv (xor_ (xshl v3 3) ((s 2 v5) - 97)), iv (xor_ v4 (xshl 1 ((s 2 v5) - 97))), iv (v5 + 1), none] [] s) ∧ ((xand (xshr v4 ((s 2 v5) - 97)) 1) = 1 → P (-1) s))))))))))))) : G LY X 25 [rv 1, iv v1, iv v2, iv v3, iv v4, iv v5, none] [] s := by
  refine G_iload C dX9_orderOnce_25 rfl ?_
  refine G_iload_n C dX9_orderOnce_27 rfl ?_
  refine G_icmp_ge (tgt := 89) C dX9_orderOnce_28 (by decide) ⟨h.1.1, h.1.2⟩ (fun q => ?_) (fun q => ?_)
  · have h := h.2.1 q
    refine G_iload_n C dX9_orderOnce_89 rfl ?_
    exact r _ _ _ _ dX9_orderOnce_90 h
  · have h := h.2.2 q
    refine G_aload_n C dX9_orderOnce_31 rfl ?_
    refine gR_X9_0 C ly_1 rfl wf_X9_9 dX9_orderOnce_32 ?_
    refine G_iload C dX9_orderOnce_35 rfl ?_
    refine G_iald C ly_2 (by decide) h.1 dX9_orderOnce_37 ?_
    have h := h.2
    refine G_bipush C dX9_orderOnce_38 bi_97 ?_
    refine G_isub C dX9_orderOnce_40 ?_
    refine G_istore (L' := [rv 1, iv v1, iv v2, iv v3, iv v4, iv v5, iv ((s 2 v5) - 97)]) C dX9_orderOnce_41 (by decide) rfl ?_
    refine G_iload C dX9_orderOnce_43 rfl ?_
    refine G_if_lt (tgt := 65) C dX9_orderOnce_45 (by decide) h.1 (fun q => ?_) (fun q => ?_)
    · have h := h.2.1 q
      refine G_iconst C dX9_orderOnce_65 ?_
      exact r _ _ _ _ dX9_orderOnce_66 h
    · have h := h.2.2 q
      refine G_iload C dX9_orderOnce_48 rfl ?_
      refine G_iload_n C dX9_orderOnce_50 rfl ?_
      refine G_icmp_ge (tgt := 65) C dX9_orderOnce_51 (by decide) ⟨h.1.1, h.1.2⟩ (fun q => ?_) (fun q => ?_)
      · have h := h.2.1 q
        refine G_iconst C dX9_orderOnce_65 ?_
        exact r _ _ _ _ dX9_orderOnce_66 h
      · have h := h.2.2 q
        refine G_iload C dX9_orderOnce_54 rfl ?_
        refine G_iload C dX9_orderOnce_56 rfl ?_
        refine G_ishr C dX9_orderOnce_58 ?_
        refine G_iconst C dX9_orderOnce_59 ?_
        refine G_iand C dX9_orderOnce_60 ?_
        refine G_iconst C dX9_orderOnce_61 ?_
        refine G_icmp_ne (tgt := 67) C dX9_orderOnce_62 (by decide) ⟨(oI_rg _), (by decide)⟩ (fun q => ?_) (fun q => ?_)
        · have h := h.1 q
          refine G_iload C dX9_orderOnce_67 rfl ?_
          refine G_iconst C dX9_orderOnce_69 ?_
          refine G_iload C dX9_orderOnce_70 rfl ?_
          refine G_ishl C dX9_orderOnce_72 ?_
          refine G_ior C dX9_orderOnce_73 ?_
          refine G_istore (L' := [rv 1, iv v1, iv v2, iv v3, iv (xor_ v4 (xshl 1 ((s 2 v5) - 97))), iv v5, iv ((s 2 v5) - 97)]) C dX9_orderOnce_74 (by decide) rfl ?_
          refine G_iload_n C dX9_orderOnce_76 rfl ?_
          refine G_iconst C dX9_orderOnce_77 ?_
          refine G_ishl C dX9_orderOnce_78 ?_
          refine G_iload C dX9_orderOnce_79 rfl ?_
          refine G_ior C dX9_orderOnce_81 ?_
          refine G_istore_n (L' := [rv 1, iv v1, iv v2, iv (xor_ (xshl v3 3) ((s 2 v5) - 97)), iv (xor_ v4 (xshl 1 ((s 2 v5) - 97))), iv v5, iv ((s 2 v5) - 97)]) C dX9_orderOnce_82 (by decide) rfl ?_
          refine G_iinc (L' := [rv 1, iv v1, iv v2, iv (xor_ (xshl v3 3) ((s 2 v5) - 97)), iv (xor_ v4 (xshl 1 ((s 2 v5) - 97))), iv (v5 + 1), iv ((s 2 v5) - 97)]) C dX9_orderOnce_83 (by decide) rfl rfl ?_
          refine G_goto (tgt := 25) C dX9_orderOnce_86 (by decide) ?_
          refine G_drop (i := 6) (L' := [rv 1, iv v1, iv v2, iv (xor_ (xshl v3 3) ((s 2 v5) - 97)), iv (xor_ v4 (xshl 1 ((s 2 v5) - 97))), iv (v5 + 1), none]) rfl ?_
          exact h
        · have h := h.2 q
          refine G_iconst C dX9_orderOnce_65 ?_
          exact r _ _ _ _ dX9_orderOnce_66 h
set_option maxRecDepth 20000 in
theorem kb_X11_letterOfName_0 {X : Cx} {d : Nat} {P : Int → Sto → Prop} (C : Ok LY X RX11 cX11_letterOfName 4 d) (r : RetI LY X cX11_letterOfName P) {v1 v2 : Int} {s : Sto} (h : ((rg v2) ∧ ((v2 < 10 → P (-1000000) s) ∧ (10 ≤ v2 → ((rg v2) ∧ ((v2 < 16 → (CallI LY d MX5_nameLetter [.inl v1, .inl (v2 - 10)] s (fun r1 s1 => ((rg r1) ∧ ((r1 ≠ (-1) → P r1 s1) ∧ (r1 = (-1) → P (-1000000) s1)))))) ∧ (16 ≤ v2 → P (-1000000) s))))))) : G LY X 0 [rv 0, iv v1, iv v2, none] [] s := by
  refine G_iload_n C dX11_letterOfName_0 rfl ?_
  refine G_bipush C dX11_letterOfName_1 bi_10 ?_
  refine G_icmp_lt (tgt := 12) C dX11_letterOfName_3 (by decide) ⟨h.1, (by decide)⟩ (fun q => ?_) (fun q => ?_)
  · have h := h.2.1 q
    refine G_ldc C wk_X11_161 (z := (-1000000)) (by decide) dX11_letterOfName_12 ?_
    exact r _ _ _ _ dX11_letterOfName_14 h
  · have h := h.2.2 q
    refine G_iload_n C dX11_letterOfName_6 rfl ?_
    refine G_bipush C dX11_letterOfName_7 bi_16 ?_
    refine G_icmp_lt (tgt := 15) C dX11_letterOfName_9 (by decide) ⟨h.1, (by decide)⟩ (fun q => ?_) (fun q => ?_)
    · have h := h.2.1 q
      refine G_iload_n C dX11_letterOfName_15 rfl ?_
      refine G_iload_n C dX11_letterOfName_16 rfl ?_
      refine G_bipush C dX11_letterOfName_17 bi_10 ?_
      refine G_isub C dX11_letterOfName_19 ?_
      refine G_callSI (K := []) (args := [.inl v1, .inl (v2 - 10)]) C (Nat.le_of_ble_eq_true rfl) mo_X5_nameLetter wc_X11_187 rfl dX11_letterOfName_20 h (fun r1 s1 h => ?_)
      refine G_istore_n (L' := [rv 0, iv v1, iv v2, iv r1]) C dX11_letterOfName_23 (by decide) rfl ?_
      refine G_iload_n C dX11_letterOfName_24 rfl ?_
      refine G_iconst C dX11_letterOfName_25 ?_
      refine G_icmp_ne (tgt := 34) C dX11_letterOfName_26 (by decide) ⟨h.1, (by decide)⟩ (fun q => ?_) (fun q => ?_)
      · have h := h.2.1 q
        refine G_iload_n C dX11_letterOfName_34 rfl ?_
        exact r _ _ _ _ dX11_letterOfName_35 h
      · have h := h.2.2 q
        refine G_ldc C wk_X11_161 (z := (-1000000)) (by decide) dX11_letterOfName_29 ?_
        refine G_goto (tgt := 35) C dX11_letterOfName_31 (by decide) ?_
        exact r _ _ _ _ dX11_letterOfName_35 h
    · have h := h.2.2 q
      refine G_ldc C wk_X11_161 (z := (-1000000)) (by decide) dX11_letterOfName_12 ?_
      exact r _ _ _ _ dX11_letterOfName_14 h
set_option maxRecDepth 20000 in
theorem kb_X5_nameLength_0 {X : Cx} {d : Nat} {P : Int → Sto → Prop} (C : Ok LY X RX5 cX5_nameLength 2 d) (r : RetI LY X cX5_nameLength P) {v0 : Int} {s : Sto} (h : G LY X 2 [iv v0, iv 0] [] s) : G LY X 0 [iv v0, none] [] s := by
  refine G_iconst C dX5_nameLength_0 ?_
  refine G_istore_n (L' := [iv v0, iv 0]) C dX5_nameLength_1 (by decide) rfl ?_
  exact h
set_option maxRecDepth 20000 in
theorem kb_X5_nameLength_2 {X : Cx} {d : Nat} {P : Int → Sto → Prop} (C : Ok LY X RX5 cX5_nameLength 2 d) (r : RetI LY X cX5_nameLength P) {v0 v1 : Int} {s : Sto} (h : ((rg v1) ∧ ((6 ≤ v1 → P v1 s) ∧ (v1 < 6 → (CallI LY d MX5_nameLetter [.inl v0, .inl v1] s (fun r1 s1 => ((rg r1) ∧ ((r1 = (-1) → P v1 s1) ∧ (r1 ≠ (-1) → G LY X 2 [iv v0, iv (v1 + 1)] [] s1))))))))) : G LY X 2 [iv v0, iv v1] [] s := by
  refine G_iload_n C dX5_nameLength_2 rfl ?_
  refine G_bipush C dX5_nameLength_3 bi_6 ?_
  refine G_icmp_ge (tgt := 23) C dX5_nameLength_5 (by decide) ⟨h.1, (by decide)⟩ (fun q => ?_) (fun q => ?_)
  · have h := h.2.1 q
    refine G_iload_n C dX5_nameLength_23 rfl ?_
    exact r _ _ _ _ dX5_nameLength_24 h
  · have h := h.2.2 q
    refine G_iload_n C dX5_nameLength_8 rfl ?_
    refine G_iload_n C dX5_nameLength_9 rfl ?_
    refine G_callSI (K := []) (args := [.inl v0, .inl v1]) C (Nat.le_of_ble_eq_true rfl) mo_X5_nameLetter wc_X5_9 rfl dX5_nameLength_10 h (fun r1 s1 h => ?_)
    refine G_iconst C dX5_nameLength_13 ?_
    refine G_icmp_eq (tgt := 23) C dX5_nameLength_14 (by decide) ⟨h.1, (by decide)⟩ (fun q => ?_) (fun q => ?_)
    · have h := h.2.1 q
      refine G_iload_n C dX5_nameLength_23 rfl ?_
      exact r _ _ _ _ dX5_nameLength_24 h
    · have h := h.2.2 q
      refine G_iinc (L' := [iv v0, iv (v1 + 1)]) C dX5_nameLength_17 (by decide) rfl rfl ?_
      refine G_goto (tgt := 2) C dX5_nameLength_20 (by decide) ?_
      exact h
set_option maxRecDepth 20000 in
theorem kb_X7_lineUp_0 {X : Cx} {d : Nat} {P : Sto → Prop} (C : Ok LY X RX7 cX7_lineUp 5 d) (r : RetV LY X cX7_lineUp P) {v2 : Int} {s : Sto} (h : (CallV LY d MX7_rankLetters [.inr 46, .inr 3, .inl v2] s (fun s1 => G LY X 8 [rv 46, rv 3, iv v2, iv 0, none] [] s1))) : G LY X 0 [rv 46, rv 3, iv v2, none, none] [] s := by
  refine G_aload_n C dX7_lineUp_0 rfl ?_
  refine G_aload_n C dX7_lineUp_1 rfl ?_
  refine G_iload_n C dX7_lineUp_2 rfl ?_
  refine G_callVV (K := []) (args := [.inr 3, .inl v2]) (T := TX7) (N := 5) C ly_46 rfl (Nat.le_of_ble_eq_true rfl) mo_X7_rankLetters wc_X7_54 rfl dX7_lineUp_3 h (fun s1 h => ?_)
  refine G_iconst C dX7_lineUp_6 ?_
  refine G_istore_n (L' := [rv 46, rv 3, iv v2, iv 0, none]) C dX7_lineUp_7 (by decide) rfl ?_
  exact h
set_option maxRecDepth 20000 in
theorem kb_X7_lineUp_8 {X : Cx} {d : Nat} {P : Sto → Prop} (C : Ok LY X RX7 cX7_lineUp 5 d) (r : RetV LY X cX7_lineUp P) {v2 v3 : Int} {s : Sto} (h : ((rg v3 ∧ rg (s 5 0)) ∧ (((s 5 0) ≤ v3 → G LY X 102 [rv 46, rv 3, iv v2, iv 0, none] [] s) ∧ (v3 < (s 5 0) → ((0 ≤ v3 ∧ v3 < 20) ∧ (CallI LY d MX7_keyOf [.inr 46, .inl (s 6 v3)] s (fun r1 s1 => ((0 ≤ v3 ∧ v3 < 20) ∧ (∀ s2 : Sto, s2 = up s1 48 v3 r1 → G LY X 41 [rv 46, rv 3, iv v2, iv v3, iv v3] [] s2))))))))) : G LY X 8 [rv 46, rv 3, iv v2, iv v3, none] [] s := by
  refine G_iload_n C dX7_lineUp_8 rfl ?_
  refine G_aload_n C dX7_lineUp_9 rfl ?_
  refine gR_X2_5 C ly_3 rfl wf_X7_27 dX7_lineUp_10 ?_
  refine gI_X6_0 C ly_5 rfl wf_X7_33 dX7_lineUp_13 ?_
  refine G_icmp_ge (tgt := 100) C dX7_lineUp_16 (by decide) ⟨h.1.1, h.1.2⟩ (fun q => ?_) (fun q => ?_)
  · have h := h.2.1 q
    refine G_iconst C dX7_lineUp_100 ?_
    refine G_istore_n (L' := [rv 46, rv 3, iv v2, iv 0, none]) C dX7_lineUp_101 (by decide) rfl ?_
    exact h
  · have h := h.2.2 q
    refine G_aload_n C dX7_lineUp_19 rfl ?_
    refine gR_X7_1 C ly_46 rfl wf_X7_15 dX7_lineUp_20 ?_
    refine G_iload_n C dX7_lineUp_23 rfl ?_
    refine G_aload_n C dX7_lineUp_24 rfl ?_
    refine G_aload_n C dX7_lineUp_25 rfl ?_
    refine gR_X2_5 C ly_3 rfl wf_X7_27 dX7_lineUp_26 ?_
    refine gR_X6_1 C ly_5 rfl wf_X7_58 dX7_lineUp_29 ?_
    refine G_iload_n C dX7_lineUp_32 rfl ?_
    refine G_iald C ly_6 (by decide) h.1 dX7_lineUp_33 ?_
    have h := h.2
    refine G_callVI (K := [.inl v3, .inr 48]) (args := [.inl (s 6 v3)]) (T := TX7) (N := 5) C ly_46 rfl (Nat.le_of_ble_eq_true rfl) mo_X7_keyOf wc_X7_61 rfl dX7_lineUp_34 h (fun r1 s1 h => ?_)
    refine G_iast C ly_48 (by decide) h.1 dX7_lineUp_37 ?_
    have h := h.2
    have h := h _ rfl
    obtain ⟨s2, e2⟩ : ∃ z, z = up s1 48 v3 r1 := ⟨_, rfl⟩
    rw [← e2] at h ⊢
    refine G_iload_n C dX7_lineUp_38 rfl ?_
    refine G_istore (L' := [rv 46, rv 3, iv v2, iv v3, iv v3]) C dX7_lineUp_39 (by decide) rfl ?_
    exact h
set_option maxRecDepth 20000 in
theorem kb_X7_lineUp_41 {X : Cx} {d : Nat} {P : Sto → Prop} (C : Ok LY X RX7 cX7_lineUp 5 d) (r : RetV LY X cX7_lineUp P) {v2 v3 v4 : Int} {s : Sto} (h : ((rg v4) ∧ ((v4 ≤ 0 → ((0 ≤ v4 ∧ v4 < 20) ∧ (∀ s1 : Sto, s1 = up s 49 v4 v3 → G LY X 8 [rv 46, rv 3, iv v2, iv (v3 + 1), none] [] s1))) ∧ (0 < v4 → ((0 ≤ (v4 - 1) ∧ (v4 - 1) < 20) ∧ (CallI LY d MX7_isAhead [.inr 46, .inr 3, .inl v3, .inl (s 49 (v4 - 1))] s (fun r2 s2 => ((rg r2) ∧ ((r2 = 0 → ((0 ≤ v4 ∧ v4 < 20) ∧ (∀ s3 : Sto, s3 = up s2 49 v4 v3 → G LY X 8 [rv 46, rv 3, iv v2, iv (v3 + 1), none] [] s3))) ∧ (r2 ≠ 0 → ((0 ≤ (v4 - 1) ∧ (v4 - 1) < 20) ∧ ((0 ≤ v4 ∧ v4 < 20) ∧ (∀ s4 : Sto, s4 = up s2 49 v4 (s2 49 (v4 - 1)) → G LY X 41 [rv 46, rv 3, iv v2, iv v3, iv (v4 + (-1))] [] s4))))))))))))) : G LY X 41 [rv 46, rv 3, iv v2, iv v3, iv v4] [] s := by
  refine G_iload C dX7_lineUp_41 rfl ?_
  refine G_if_le (tgt := 86) C dX7_lineUp_43 (by decide) h.1 (fun q => ?_) (fun q => ?_)
  · have h := h.2.1 q
    refine G_aload_n C dX7_lineUp_86 rfl ?_
    refine gR_X7_2 C ly_46 rfl wf_X7_18 dX7_lineUp_87 ?_
    refine G_iload C dX7_lineUp_90 rfl ?_
    refine G_iload_n C dX7_lineUp_92 rfl ?_
    refine G_iast C ly_49 (by decide) h.1 dX7_lineUp_93 ?_
    have h := h.2
    have h := h _ rfl
    obtain ⟨s1, e1⟩ : ∃ z, z = up s 49 v4 v3 := ⟨_, rfl⟩
    rw [← e1] at h ⊢
    refine G_iinc (L' := [rv 46, rv 3, iv v2, iv (v3 + 1), iv v4]) C dX7_lineUp_94 (by decide) rfl rfl ?_
    refine G_goto (tgt := 8) C dX7_lineUp_97 (by decide) ?_
    refine G_drop (i := 4) (L' := [rv 46, rv 3, iv v2, iv (v3 + 1), none]) rfl ?_
    exact h
  · have h := h.2.2 q
    refine G_aload_n C dX7_lineUp_46 rfl ?_
    refine G_aload_n C dX7_lineUp_47 rfl ?_
    refine G_iload_n C dX7_lineUp_48 rfl ?_
    refine G_aload_n C dX7_lineUp_49 rfl ?_
    refine gR_X7_2 C ly_46 rfl wf_X7_18 dX7_lineUp_50 ?_
    refine G_iload C dX7_lineUp_53 rfl ?_
    refine G_iconst C dX7_lineUp_55 ?_
    refine G_isub C dX7_lineUp_56 ?_
    refine G_iald C ly_49 (by decide) h.1 dX7_lineUp_57 ?_
    have h := h.2
    refine G_callVI (K := []) (args := [.inr 3, .inl v3, .inl (s 49 (v4 - 1))]) (T := TX7) (N := 5) C ly_46 rfl (Nat.le_of_ble_eq_true rfl) mo_X7_isAhead wc_X7_65 rfl dX7_lineUp_58 h (fun r2 s2 h => ?_)
    refine G_if_eq (tgt := 86) C dX7_lineUp_61 (by decide) h.1 (fun q => ?_) (fun q => ?_)
    · have h := h.2.1 q
      refine G_aload_n C dX7_lineUp_86 rfl ?_
      refine gR_X7_2 C ly_46 rfl wf_X7_18 dX7_lineUp_87 ?_
      refine G_iload C dX7_lineUp_90 rfl ?_
      refine G_iload_n C dX7_lineUp_92 rfl ?_
      refine G_iast C ly_49 (by decide) h.1 dX7_lineUp_93 ?_
      have h := h.2
      have h := h _ rfl
      obtain ⟨s3, e3⟩ : ∃ z, z = up s2 49 v4 v3 := ⟨_, rfl⟩
      rw [← e3] at h ⊢
      refine G_iinc (L' := [rv 46, rv 3, iv v2, iv (v3 + 1), iv v4]) C dX7_lineUp_94 (by decide) rfl rfl ?_
      refine G_goto (tgt := 8) C dX7_lineUp_97 (by decide) ?_
      refine G_drop (i := 4) (L' := [rv 46, rv 3, iv v2, iv (v3 + 1), none]) rfl ?_
      exact h
    · have h := h.2.2 q
      refine G_aload_n C dX7_lineUp_64 rfl ?_
      refine gR_X7_2 C ly_46 rfl wf_X7_18 dX7_lineUp_65 ?_
      refine G_iload C dX7_lineUp_68 rfl ?_
      refine G_aload_n C dX7_lineUp_70 rfl ?_
      refine gR_X7_2 C ly_46 rfl wf_X7_18 dX7_lineUp_71 ?_
      refine G_iload C dX7_lineUp_74 rfl ?_
      refine G_iconst C dX7_lineUp_76 ?_
      refine G_isub C dX7_lineUp_77 ?_
      refine G_iald C ly_49 (by decide) h.1 dX7_lineUp_78 ?_
      have h := h.2
      refine G_iast C ly_49 (by decide) h.1 dX7_lineUp_79 ?_
      have h := h.2
      have h := h _ rfl
      obtain ⟨s4, e4⟩ : ∃ z, z = up s2 49 v4 (s2 49 (v4 - 1)) := ⟨_, rfl⟩
      rw [← e4] at h ⊢
      refine G_iinc (L' := [rv 46, rv 3, iv v2, iv v3, iv (v4 + (-1))]) C dX7_lineUp_80 (by decide) rfl rfl ?_
      refine G_goto (tgt := 41) C dX7_lineUp_83 (by decide) ?_
      exact h
set_option maxRecDepth 20000 in
theorem kb_X7_lineUp_102 {X : Cx} {d : Nat} {P : Sto → Prop} (C : Ok LY X RX7 cX7_lineUp 5 d) (r : RetV LY X cX7_lineUp P) {v2 v3 : Int} {s : Sto} (h : ((rg v3 ∧ rg (s 5 0)) ∧ (((s 5 0) ≤ v3 → P s) ∧ (v3 < (s 5 0) → ((0 ≤ v3 ∧ v3 < 20) ∧ ((0 ≤ (s 49 v3) ∧ (s 49 v3) < 20) ∧ (∀ s1 : Sto, s1 = up s 50 (s 49 v3) v3 → G LY X 102 [rv 46, rv 3, iv v2, iv (v3 + 1), none] [] s1))))))) : G LY X 102 [rv 46, rv 3, iv v2, iv v3, none] [] s := by
  refine G_iload_n C dX7_lineUp_102 rfl ?_
  refine G_aload_n C dX7_lineUp_103 rfl ?_
  refine gR_X2_5 C ly_3 rfl wf_X7_27 dX7_lineUp_104 ?_
  refine gI_X6_0 C ly_5 rfl wf_X7_33 dX7_lineUp_107 ?_
  refine G_icmp_ge (tgt := 131) C dX7_lineUp_110 (by decide) ⟨h.1.1, h.1.2⟩ (fun q => ?_) (fun q => ?_)
  · have h := h.2.1 q
    exact r _ _ _ dX7_lineUp_131 h
  · have h := h.2.2 q
    refine G_aload_n C dX7_lineUp_113 rfl ?_
    refine gR_X7_3 C ly_46 rfl wf_X7_21 dX7_lineUp_114 ?_
    refine G_aload_n C dX7_lineUp_117 rfl ?_
    refine gR_X7_2 C ly_46 rfl wf_X7_18 dX7_lineUp_118 ?_
    refine G_iload_n C dX7_lineUp_121 rfl ?_
    refine G_iald C ly_49 (by decide) h.1 dX7_lineUp_122 ?_
    have h := h.2
    refine G_iload_n C dX7_lineUp_123 rfl ?_
    refine G_iast C ly_50 (by decide) h.1 dX7_lineUp_124 ?_
    have h := h.2
    have h := h _ rfl
    obtain ⟨s1, e1⟩ : ∃ z, z = up s 50 (s 49 v3) v3 := ⟨_, rfl⟩
    rw [← e1] at h ⊢
    refine G_iinc (L' := [rv 46, rv 3, iv v2, iv (v3 + 1), none]) C dX7_lineUp_125 (by decide) rfl rfl ?_
    refine G_goto (tgt := 102) C dX7_lineUp_128 (by decide) ?_
    exact h
set_option maxRecDepth 20000 in
theorem kb_X11_worthBy_0 {X : Cx} {d : Nat} {P : Int → Sto → Prop} (C : Ok LY X RX11 cX11_worthBy 3 d) (r : RetI LY X cX11_worthBy P) {v1 v2 : Int} {s : Sto} (h : (CallV LY d MX7_payPlaces [.inr 46, .inr 3] s (fun s1 => (CallV LY d MX7_lineUp [.inr 46, .inr 3, .inl v2] s1 (fun s2 => (CallI LY d MX7_worthOf [.inr 46, .inl v1] s2 (fun r3 s3 => P r3 s3))))))) : G LY X 0 [rv 0, iv v1, iv v2] [] s := by
  refine G_aload_n C dX11_worthBy_0 rfl ?_
  refine gR_X11_5 C ly_0 rfl wf_X11_40 dX11_worthBy_1 ?_
  refine G_aload_n C dX11_worthBy_4 rfl ?_
  refine gR_X11_1 C ly_0 rfl wf_X11_19 dX11_worthBy_5 ?_
  refine G_callVV (K := []) (args := [.inr 3]) (T := TX7) (N := 5) C ly_46 rfl (Nat.le_of_ble_eq_true rfl) mo_X7_payPlaces wc_X11_193 rfl dX11_worthBy_8 h (fun s1 h => ?_)
  refine G_aload_n C dX11_worthBy_11 rfl ?_
  refine gR_X11_5 C ly_0 rfl wf_X11_40 dX11_worthBy_12 ?_
  refine G_aload_n C dX11_worthBy_15 rfl ?_
  refine gR_X11_1 C ly_0 rfl wf_X11_19 dX11_worthBy_16 ?_
  refine G_iload_n C dX11_worthBy_19 rfl ?_
  refine G_callVV (K := []) (args := [.inr 3, .inl v2]) (T := TX7) (N := 5) C ly_46 rfl (Nat.le_of_ble_eq_true rfl) mo_X7_lineUp wc_X11_176 rfl dX11_worthBy_20 h (fun s2 h => ?_)
  refine G_aload_n C dX11_worthBy_23 rfl ?_
  refine gR_X11_5 C ly_0 rfl wf_X11_40 dX11_worthBy_24 ?_
  refine G_iload_n C dX11_worthBy_27 rfl ?_
  refine G_callVI (K := []) (args := [.inl v1]) (T := TX7) (N := 5) C ly_46 rfl (Nat.le_of_ble_eq_true rfl) mo_X7_worthOf wc_X11_197 rfl dX11_worthBy_28 h (fun r3 s3 h => ?_)
  exact r _ _ _ _ dX11_worthBy_31 h
set_option maxRecDepth 20000 in
theorem kb_X11_commonPart_0 {X : Cx} {d : Nat} {P : Int → Sto → Prop} (C : Ok LY X RX11 cX11_commonPart 6 d) (r : RetI LY X cX11_commonPart P) {v0 v1 : Int} {s : Sto} (h : G LY X 7 [iv v0, iv v1, iv v0, iv v1, iv 0, none] [] s) : G LY X 0 [iv v0, iv v1, none, none, none, none] [] s := by
  refine G_iload_n C dX11_commonPart_0 rfl ?_
  refine G_istore_n (L' := [iv v0, iv v1, iv v0, none, none, none]) C dX11_commonPart_1 (by decide) rfl ?_
  refine G_iload_n C dX11_commonPart_2 rfl ?_
  refine G_istore_n (L' := [iv v0, iv v1, iv v0, iv v1, none, none]) C dX11_commonPart_3 (by decide) rfl ?_
  refine G_iconst C dX11_commonPart_4 ?_
  refine G_istore (L' := [iv v0, iv v1, iv v0, iv v1, iv 0, none]) C dX11_commonPart_5 (by decide) rfl ?_
  exact h
set_option maxRecDepth 20000 in
theorem kb_X11_commonPart_7 {X : Cx} {d : Nat} {P : Int → Sto → Prop} (C : Ok LY X RX11 cX11_commonPart 6 d) (r : RetI LY X cX11_commonPart P) {v0 v1 v2 v3 v4 : Int} {s : Sto} (h : ((rg v4) ∧ ((64 ≤ v4 → P v2 s) ∧ (v4 < 64 → ((rg v3) ∧ ((v3 = 0 → P v2 s) ∧ (v3 ≠ 0 → ((rg v3 ∧ v3 ≠ 0) ∧ G LY X 7 [iv v0, iv v1, iv v3, iv (xrem v2 v3), iv (v4 + 1), none] [] s)))))))) : G LY X 7 [iv v0, iv v1, iv v2, iv v3, iv v4, none] [] s := by
  refine G_iload C dX11_commonPart_7 rfl ?_
  refine G_bipush C dX11_commonPart_9 bi_64 ?_
  refine G_icmp_ge (tgt := 34) C dX11_commonPart_11 (by decide) ⟨h.1, (by decide)⟩ (fun q => ?_) (fun q => ?_)
  · have h := h.2.1 q
    refine G_iload_n C dX11_commonPart_34 rfl ?_
    exact r _ _ _ _ dX11_commonPart_35 h
  · have h := h.2.2 q
    refine G_iload_n C dX11_commonPart_14 rfl ?_
    refine G_if_eq (tgt := 34) C dX11_commonPart_15 (by decide) h.1 (fun q => ?_) (fun q => ?_)
    · have h := h.2.1 q
      refine G_iload_n C dX11_commonPart_34 rfl ?_
      exact r _ _ _ _ dX11_commonPart_35 h
    · have h := h.2.2 q
      refine G_iload_n C dX11_commonPart_18 rfl ?_
      refine G_iload_n C dX11_commonPart_19 rfl ?_
      refine G_irem C dX11_commonPart_20 h.1 ?_
      have h := h.2
      refine G_istore (L' := [iv v0, iv v1, iv v2, iv v3, iv v4, iv (xrem v2 v3)]) C dX11_commonPart_21 (by decide) rfl ?_
      refine G_iload_n C dX11_commonPart_23 rfl ?_
      refine G_istore_n (L' := [iv v0, iv v1, iv v3, iv v3, iv v4, iv (xrem v2 v3)]) C dX11_commonPart_24 (by decide) rfl ?_
      refine G_iload C dX11_commonPart_25 rfl ?_
      refine G_istore_n (L' := [iv v0, iv v1, iv v3, iv (xrem v2 v3), iv v4, iv (xrem v2 v3)]) C dX11_commonPart_27 (by decide) rfl ?_
      refine G_iinc (L' := [iv v0, iv v1, iv v3, iv (xrem v2 v3), iv (v4 + 1), iv (xrem v2 v3)]) C dX11_commonPart_28 (by decide) rfl rfl ?_
      refine G_goto (tgt := 7) C dX11_commonPart_31 (by decide) ?_
      refine G_drop (i := 5) (L' := [iv v0, iv v1, iv v3, iv (xrem v2 v3), iv (v4 + 1), none]) rfl ?_
      exact h
set_option maxRecDepth 20000 in
theorem kb_X7_payPlaces_0 {X : Cx} {d : Nat} {P : Sto → Prop} (C : Ok LY X RX7 cX7_payPlaces 6 d) (r : RetV LY X cX7_payPlaces P) {s : Sto} (h : G LY X 10 [rv 46, rv 3, iv (s 5 0), iv 0, none, none] [] s) : G LY X 0 [rv 46, rv 3, none, none, none, none] [] s := by
  refine G_aload_n C dX7_payPlaces_0 rfl ?_
  refine gR_X2_5 C ly_3 rfl wf_X7_27 dX7_payPlaces_1 ?_
  refine gI_X6_0 C ly_5 rfl wf_X7_33 dX7_payPlaces_4 ?_
  refine G_istore_n (L' := [rv 46, rv 3, iv (s 5 0), none, none, none]) C dX7_payPlaces_7 (by decide) rfl ?_
  refine G_iconst C dX7_payPlaces_8 ?_
  refine G_istore_n (L' := [rv 46, rv 3, iv (s 5 0), iv 0, none, none]) C dX7_payPlaces_9 (by decide) rfl ?_
  exact h
set_option maxRecDepth 20000 in
theorem kb_X7_payPlaces_10 {X : Cx} {d : Nat} {P : Sto → Prop} (C : Ok LY X RX7 cX7_payPlaces 6 d) (r : RetV LY X cX7_payPlaces P) {v2 v3 : Int} {s : Sto} (h : ((rg v3 ∧ rg v2) ∧ ((v2 ≤ v3 → G LY X 30 [rv 46, rv 3, iv v2, iv 0, none, none] [] s) ∧ (v3 < v2 → ((0 ≤ v3 ∧ v3 < 20) ∧ (∀ s1 : Sto, s1 = up s 51 v3 0 → G LY X 10 [rv 46, rv 3, iv v2, iv (v3 + 1), none, none] [] s1)))))) : G LY X 10 [rv 46, rv 3, iv v2, iv v3, none, none] [] s := by
  refine G_iload_n C dX7_payPlaces_10 rfl ?_
  refine G_iload_n C dX7_payPlaces_11 rfl ?_
  refine G_icmp_ge (tgt := 28) C dX7_payPlaces_12 (by decide) ⟨h.1.1, h.1.2⟩ (fun q => ?_) (fun q => ?_)
  · have h := h.2.1 q
    refine G_iconst C dX7_payPlaces_28 ?_
    refine G_istore_n (L' := [rv 46, rv 3, iv v2, iv 0, none, none]) C dX7_payPlaces_29 (by decide) rfl ?_
    exact h
  · have h := h.2.2 q
    refine G_aload_n C dX7_payPlaces_15 rfl ?_
    refine gR_X7_4 C ly_46 rfl wf_X7_24 dX7_payPlaces_16 ?_
    refine G_iload_n C dX7_payPlaces_19 rfl ?_
    refine G_iconst C dX7_payPlaces_20 ?_
    refine G_iast C ly_51 (by decide) h.1 dX7_payPlaces_21 ?_
    have h := h.2
    have h := h _ rfl
    obtain ⟨s1, e1⟩ : ∃ z, z = up s 51 v3 0 := ⟨_, rfl⟩
    rw [← e1] at h ⊢
    refine G_iinc (L' := [rv 46, rv 3, iv v2, iv (v3 + 1), none, none]) C dX7_payPlaces_22 (by decide) rfl rfl ?_
    refine G_goto (tgt := 10) C dX7_payPlaces_25 (by decide) ?_
    exact h
set_option maxRecDepth 20000 in
theorem kb_X7_payPlaces_30 {X : Cx} {d : Nat} {P : Sto → Prop} (C : Ok LY X RX7 cX7_payPlaces 6 d) (r : RetV LY X cX7_payPlaces P) {v2 v3 : Int} {s : Sto} (h : ((rg (v3 + 4)) ∧ ((24 < (v3 + 4) → P s) ∧ ((v3 + 4) ≤ 24 → ((0 ≤ v3 ∧ v3 < 24) ∧ ((rg (s 10 v3)) ∧ (((s 10 v3) ≠ 1 → G LY X 61 [rv 46, rv 3, iv v2, iv v3, iv 0, iv 0] [] s) ∧ ((s 10 v3) = 1 → G LY X 61 [rv 46, rv 3, iv v2, iv v3, iv 1, iv 0] [] s)))))))) : G LY X 30 [rv 46, rv 3, iv v2, iv v3, none, none] [] s := by
  refine G_iload_n C dX7_payPlaces_30 rfl ?_
  refine G_iconst C dX7_payPlaces_31 ?_
  refine G_iadd C dX7_payPlaces_32 ?_
  refine G_aload_n C dX7_payPlaces_33 rfl ?_
  refine gR_X2_6 C ly_3 rfl wf_X7_39 dX7_payPlaces_34 ?_
  refine G_alen C ly_10 dX7_payPlaces_37 ?_
  refine G_top (b := 24) rfl ?_
  refine G_icmp_gt (tgt := 138) C dX7_payPlaces_38 (by decide) ⟨h.1, (by decide)⟩ (fun q => ?_) (fun q => ?_)
  · have h := h.2.1 q
    exact r _ _ _ dX7_payPlaces_138 h
  · have h := h.2.2 q
    refine G_aload_n C dX7_payPlaces_41 rfl ?_
    refine gR_X2_6 C ly_3 rfl wf_X7_39 dX7_payPlaces_42 ?_
    refine G_iload_n C dX7_payPlaces_45 rfl ?_
    refine G_iald C ly_10 (by decide) h.1 dX7_payPlaces_46 ?_
    have h := h.2
    refine G_iconst C dX7_payPlaces_47 ?_
    refine G_icmp_ne (tgt := 55) C dX7_payPlaces_48 (by decide) ⟨h.1, (by decide)⟩ (fun q => ?_) (fun q => ?_)
    · have h := h.2.1 q
      refine G_iconst C dX7_payPlaces_55 ?_
      refine G_istore (L' := [rv 46, rv 3, iv v2, iv v3, iv 0, none]) C dX7_payPlaces_56 (by decide) rfl ?_
      refine G_iconst C dX7_payPlaces_58 ?_
      refine G_istore (L' := [rv 46, rv 3, iv v2, iv v3, iv 0, iv 0]) C dX7_payPlaces_59 (by decide) rfl ?_
      exact h
    · have h := h.2.2 q
      refine G_iconst C dX7_payPlaces_51 ?_
      refine G_goto (tgt := 56) C dX7_payPlaces_52 (by decide) ?_
      refine G_istore (L' := [rv 46, rv 3, iv v2, iv v3, iv 1, none]) C dX7_payPlaces_56 (by decide) rfl ?_
      refine G_iconst C dX7_payPlaces_58 ?_
      refine G_istore (L' := [rv 46, rv 3, iv v2, iv v3, iv 1, iv 0]) C dX7_payPlaces_59 (by decide) rfl ?_
      exact h
set_option maxRecDepth 20000 in
theorem kb_X7_payPlaces_61 {X : Cx} {d : Nat} {P : Sto → Prop} (C : Ok LY X RX7 cX7_payPlaces 6 d) (r : RetV LY X cX7_payPlaces P) {v2 v3 v4 v5 : Int} {s : Sto} (h : ((rg v5 ∧ rg v2) ∧ ((v2 ≤ v5 → G LY X 30 [rv 46, rv 3, iv v2, iv (v3 + 4), none, none] [] s) ∧ (v5 < v2 → ((0 ≤ (v3 + 3) ∧ (v3 + 3) < 24) ∧ ((rg v5 ∧ rg (s 10 (v3 + 3))) ∧ (((s 10 (v3 + 3)) ≤ v5 → G LY X 30 [rv 46, rv 3, iv v2, iv (v3 + 4), none, none] [] s) ∧ (v5 < (s 10 (v3 + 3)) → ((rg v4) ∧ ((v4 = 0 → ((0 ≤ v5 ∧ v5 < 20) ∧ ((0 ≤ (v3 + 1) ∧ (v3 + 1) < 24) ∧ ((0 ≤ (v3 + 2) ∧ (v3 + 2) < 24) ∧ (CallI LY d MX7_share [.inl (s 10 (v3 + 1)), .inl (v5 * (s 10 (v3 + 2)))] s (fun r1 s1 => ((0 ≤ v5 ∧ v5 < 20) ∧ (∀ s2 : Sto, s2 = up s1 51 v5 ((s 51 v5) + r1) → G LY X 61 [rv 46, rv 3, iv v2, iv v3, iv v4, iv (v5 + 1)] [] s2)))))))) ∧ (v4 ≠ 0 → ((0 ≤ ((v2 - 1) - v5) ∧ ((v2 - 1) - v5) < 20) ∧ ((0 ≤ (v3 + 1) ∧ (v3 + 1) < 24) ∧ ((0 ≤ (v3 + 2) ∧ (v3 + 2) < 24) ∧ (CallI LY d MX7_share [.inl (s 10 (v3 + 1)), .inl (v5 * (s 10 (v3 + 2)))] s (fun r3 s3 => ((0 ≤ ((v2 - 1) - v5) ∧ ((v2 - 1) - v5) < 20) ∧ (∀ s4 : Sto, s4 = up s3 51 ((v2 - 1) - v5) ((s 51 ((v2 - 1) - v5)) + r3) → G LY X 61 [rv 46, rv 3, iv v2, iv v3, iv v4, iv (v5 + 1)] [] s4)))))))))))))))))) : G LY X 61 [rv 46, rv 3, iv v2, iv v3, iv v4, iv v5] [] s := by
  refine G_iload C dX7_payPlaces_61 rfl ?_
  refine G_iload_n C dX7_payPlaces_63 rfl ?_
  refine G_icmp_ge (tgt := 132) C dX7_payPlaces_64 (by decide) ⟨h.1.1, h.1.2⟩ (fun q => ?_) (fun q => ?_)
  · have h := h.2.1 q
    refine G_iinc (L' := [rv 46, rv 3, iv v2, iv (v3 + 4), iv v4, iv v5]) C dX7_payPlaces_132 (by decide) rfl rfl ?_
    refine G_goto (tgt := 30) C dX7_payPlaces_135 (by decide) ?_
    refine G_drop (i := 4) (L' := [rv 46, rv 3, iv v2, iv (v3 + 4), none, iv v5]) rfl ?_
    refine G_drop (i := 5) (L' := [rv 46, rv 3, iv v2, iv (v3 + 4), none, none]) rfl ?_
    exact h
  · have h := h.2.2 q
    refine G_iload C dX7_payPlaces_67 rfl ?_
    refine G_aload_n C dX7_payPlaces_69 rfl ?_
    refine gR_X2_6 C ly_3 rfl wf_X7_39 dX7_payPlaces_70 ?_
    refine G_iload_n C dX7_payPlaces_73 rfl ?_
    refine G_iconst C dX7_payPlaces_74 ?_
    refine G_iadd C dX7_payPlaces_75 ?_
    refine G_iald C ly_10 (by decide) h.1 dX7_payPlaces_76 ?_
    have h := h.2
    refine G_icmp_ge (tgt := 132) C dX7_payPlaces_77 (by decide) ⟨h.1.1, h.1.2⟩ (fun q => ?_) (fun q => ?_)
    · have h := h.2.1 q
      refine G_iinc (L' := [rv 46, rv 3, iv v2, iv (v3 + 4), iv v4, iv v5]) C dX7_payPlaces_132 (by decide) rfl rfl ?_
      refine G_goto (tgt := 30) C dX7_payPlaces_135 (by decide) ?_
      refine G_drop (i := 4) (L' := [rv 46, rv 3, iv v2, iv (v3 + 4), none, iv v5]) rfl ?_
      refine G_drop (i := 5) (L' := [rv 46, rv 3, iv v2, iv (v3 + 4), none, none]) rfl ?_
      exact h
    · have h := h.2.2 q
      refine G_aload_n C dX7_payPlaces_80 rfl ?_
      refine gR_X7_4 C ly_46 rfl wf_X7_24 dX7_payPlaces_81 ?_
      refine G_iload C dX7_payPlaces_84 rfl ?_
      refine G_if_eq (tgt := 98) C dX7_payPlaces_86 (by decide) h.1 (fun q => ?_) (fun q => ?_)
      · have h := h.2.1 q
        refine G_iload C dX7_payPlaces_98 rfl ?_
        refine G_dup2 C dX7_payPlaces_100 ?_
        refine G_iald C ly_51 (by decide) h.1 dX7_payPlaces_101 ?_
        have h := h.2
        refine G_aload_n C dX7_payPlaces_102 rfl ?_
        refine gR_X2_6 C ly_3 rfl wf_X7_39 dX7_payPlaces_103 ?_
        refine G_iload_n C dX7_payPlaces_106 rfl ?_
        refine G_iconst C dX7_payPlaces_107 ?_
        refine G_iadd C dX7_payPlaces_108 ?_
        refine G_iald C ly_10 (by decide) h.1 dX7_payPlaces_109 ?_
        have h := h.2
        refine G_iload C dX7_payPlaces_110 rfl ?_
        refine G_aload_n C dX7_payPlaces_112 rfl ?_
        refine gR_X2_6 C ly_3 rfl wf_X7_39 dX7_payPlaces_113 ?_
        refine G_iload_n C dX7_payPlaces_116 rfl ?_
        refine G_iconst C dX7_payPlaces_117 ?_
        refine G_iadd C dX7_payPlaces_118 ?_
        refine G_iald C ly_10 (by decide) h.1 dX7_payPlaces_119 ?_
        have h := h.2
        refine G_imul C dX7_payPlaces_120 ?_
        refine G_callSI (K := [.inl (s 51 v5), .inl v5, .inr 51]) (args := [.inl (s 10 (v3 + 1)), .inl (v5 * (s 10 (v3 + 2)))]) C (Nat.le_of_ble_eq_true rfl) mo_X7_share wc_X7_42 rfl dX7_payPlaces_121 h (fun r1 s1 h => ?_)
        refine G_iadd C dX7_payPlaces_124 ?_
        refine G_iast C ly_51 (by decide) h.1 dX7_payPlaces_125 ?_
        have h := h.2
        have h := h _ rfl
        obtain ⟨s2, e2⟩ : ∃ z, z = up s1 51 v5 ((s 51 v5) + r1) := ⟨_, rfl⟩
        rw [← e2] at h ⊢
        refine G_iinc (L' := [rv 46, rv 3, iv v2, iv v3, iv v4, iv (v5 + 1)]) C dX7_payPlaces_126 (by decide) rfl rfl ?_
        refine G_goto (tgt := 61) C dX7_payPlaces_129 (by decide) ?_
        exact h
      · have h := h.2.2 q
        refine G_iload_n C dX7_payPlaces_89 rfl ?_
        refine G_iconst C dX7_payPlaces_90 ?_
        refine G_isub C dX7_payPlaces_91 ?_
        refine G_iload C dX7_payPlaces_92 rfl ?_
        refine G_isub C dX7_payPlaces_94 ?_
        refine G_goto (tgt := 100) C dX7_payPlaces_95 (by decide) ?_
        refine G_dup2 C dX7_payPlaces_100 ?_
        refine G_iald C ly_51 (by decide) h.1 dX7_payPlaces_101 ?_
        have h := h.2
        refine G_aload_n C dX7_payPlaces_102 rfl ?_
        refine gR_X2_6 C ly_3 rfl wf_X7_39 dX7_payPlaces_103 ?_
        refine G_iload_n C dX7_payPlaces_106 rfl ?_
        refine G_iconst C dX7_payPlaces_107 ?_
        refine G_iadd C dX7_payPlaces_108 ?_
        refine G_iald C ly_10 (by decide) h.1 dX7_payPlaces_109 ?_
        have h := h.2
        refine G_iload C dX7_payPlaces_110 rfl ?_
        refine G_aload_n C dX7_payPlaces_112 rfl ?_
        refine gR_X2_6 C ly_3 rfl wf_X7_39 dX7_payPlaces_113 ?_
        refine G_iload_n C dX7_payPlaces_116 rfl ?_
        refine G_iconst C dX7_payPlaces_117 ?_
        refine G_iadd C dX7_payPlaces_118 ?_
        refine G_iald C ly_10 (by decide) h.1 dX7_payPlaces_119 ?_
        have h := h.2
        refine G_imul C dX7_payPlaces_120 ?_
        refine G_callSI (K := [.inl (s 51 ((v2 - 1) - v5)), .inl ((v2 - 1) - v5), .inr 51]) (args := [.inl (s 10 (v3 + 1)), .inl (v5 * (s 10 (v3 + 2)))]) C (Nat.le_of_ble_eq_true rfl) mo_X7_share wc_X7_42 rfl dX7_payPlaces_121 h (fun r3 s3 h => ?_)
        refine G_iadd C dX7_payPlaces_124 ?_
        refine G_iast C ly_51 (by decide) h.1 dX7_payPlaces_125 ?_
        have h := h.2
        have h := h _ rfl
        obtain ⟨s4, e4⟩ : ∃ z, z = up s3 51 ((v2 - 1) - v5) ((s 51 ((v2 - 1) - v5)) + r3) := ⟨_, rfl⟩
        rw [← e4] at h ⊢
        refine G_iinc (L' := [rv 46, rv 3, iv v2, iv v3, iv v4, iv (v5 + 1)]) C dX7_payPlaces_126 (by decide) rfl rfl ?_
        refine G_goto (tgt := 61) C dX7_payPlaces_129 (by decide) ?_
        exact h
set_option maxRecDepth 20000 in
theorem kb_X7_worthOf_0 {X : Cx} {d : Nat} {P : Int → Sto → Prop} (C : Ok LY X RX7 cX7_worthOf 2 d) (r : RetI LY X cX7_worthOf P) {v1 : Int} {s : Sto} (h : ((0 ≤ v1 ∧ v1 < 20) ∧ ((0 ≤ (s 50 v1) ∧ (s 50 v1) < 20) ∧ P (s 51 (s 50 v1)) s))) : G LY X 0 [rv 46, iv v1] [] s := by
  refine G_aload_n C dX7_worthOf_0 rfl ?_
  refine gR_X7_4 C ly_46 rfl wf_X7_24 dX7_worthOf_1 ?_
  refine G_aload_n C dX7_worthOf_4 rfl ?_
  refine gR_X7_3 C ly_46 rfl wf_X7_21 dX7_worthOf_5 ?_
  refine G_iload_n C dX7_worthOf_8 rfl ?_
  refine G_iald C ly_50 (by decide) h.1 dX7_worthOf_9 ?_
  have h := h.2
  refine G_iald C ly_51 (by decide) h.1 dX7_worthOf_10 ?_
  have h := h.2
  exact r _ _ _ _ dX7_worthOf_11 h
set_option maxRecDepth 20000 in
theorem kb_X1_feeOf_0 {X : Cx} {d : Nat} {P : Int → Sto → Prop} (C : Ok LY X RX1 cX1_feeOf 11 d) (r : RetI LY X cX1_feeOf P) {v2 v3 : Int} {s : Sto} (h : (CallI LY d MX5_nameLength [.inl v3] s (fun r1 s1 => G LY X 9 [rv 52, rv 4, iv v2, iv v3, iv r1, iv 0, none, none, none, none, none] [] s1))) : G LY X 0 [rv 52, rv 4, iv v2, iv v3, none, none, none, none, none, none, none] [] s := by
  refine G_iload_n C dX1_feeOf_0 rfl ?_
  refine G_callSI (K := []) (args := [.inl v3]) C (Nat.le_of_ble_eq_true rfl) mo_X5_nameLength wc_X1_21 rfl dX1_feeOf_1 h (fun r1 s1 h => ?_)
  refine G_istore (L' := [rv 52, rv 4, iv v2, iv v3, iv r1, none, none, none, none, none, none]) C dX1_feeOf_4 (by decide) rfl ?_
  refine G_iconst C dX1_feeOf_6 ?_
  refine G_istore (L' := [rv 52, rv 4, iv v2, iv v3, iv r1, iv 0, none, none, none, none, none]) C dX1_feeOf_7 (by decide) rfl ?_
  exact h
set_option maxRecDepth 20000 in
theorem kb_X1_feeOf_9 {X : Cx} {d : Nat} {P : Int → Sto → Prop} (C : Ok LY X RX1 cX1_feeOf 11 d) (r : RetI LY X cX1_feeOf P) {v2 v3 v4 v5 : Int} {s : Sto} (h : ((rg v5 ∧ rg v4) ∧ ((v4 < v5 → G LY X 38 [rv 52, rv 4, iv v2, iv v3, iv v4, iv 0, none, none, none, none, none] [] s) ∧ (v5 ≤ v4 → ((0 ≤ v5 ∧ v5 < 7) ∧ (∀ s1 : Sto, s1 = up s 55 v5 (v5 * (s 4 3)) → G LY X 9 [rv 52, rv 4, iv v2, iv v3, iv v4, iv (v5 + 1), none, none, none, none, none] [] s1)))))) : G LY X 9 [rv 52, rv 4, iv v2, iv v3, iv v4, iv v5, none, none, none, none, none] [] s := by
  refine G_iload C dX1_feeOf_9 rfl ?_
  refine G_iload C dX1_feeOf_11 rfl ?_
  refine G_icmp_gt (tgt := 35) C dX1_feeOf_13 (by decide) ⟨h.1.1, h.1.2⟩ (fun q => ?_) (fun q => ?_)
  · have h := h.2.1 q
    refine G_iconst C dX1_feeOf_35 ?_
    refine G_istore (L' := [rv 52, rv 4, iv v2, iv v3, iv v4, iv 0, none, none, none, none, none]) C dX1_feeOf_36 (by decide) rfl ?_
    exact h
  · have h := h.2.2 q
    refine G_aload_n C dX1_feeOf_16 rfl ?_
    refine gR_X1_2 C ly_52 rfl wf_X1_18 dX1_feeOf_17 ?_
    refine G_iload C dX1_feeOf_20 rfl ?_
    refine G_iload C dX1_feeOf_22 rfl ?_
    refine G_aload_n C dX1_feeOf_24 rfl ?_
    refine G_iconst C dX1_feeOf_25 ?_
    refine G_iald C ly_4 (by decide) (by decide) dX1_feeOf_26 ?_
    refine G_imul C dX1_feeOf_27 ?_
    refine G_iast C ly_55 (by decide) h.1 dX1_feeOf_28 ?_
    have h := h.2
    have h := h _ rfl
    obtain ⟨s1, e1⟩ : ∃ z, z = up s 55 v5 (v5 * (s 4 3)) := ⟨_, rfl⟩
    rw [← e1] at h ⊢
    refine G_iinc (L' := [rv 52, rv 4, iv v2, iv v3, iv v4, iv (v5 + 1), none, none, none, none, none]) C dX1_feeOf_29 (by decide) rfl rfl ?_
    refine G_goto (tgt := 9) C dX1_feeOf_32 (by decide) ?_
    exact h
set_option maxRecDepth 20000 in
theorem kb_X1_feeOf_38 {X : Cx} {d : Nat} {P : Int → Sto → Prop} (C : Ok LY X RX1 cX1_feeOf 11 d) (r : RetI LY X cX1_feeOf P) {v2 v3 v4 v5 : Int} {s : Sto} (h : (CallI LY d MX5_nameLength [.inl v2] s (fun r1 s1 => ((rg v5 ∧ rg r1) ∧ ((r1 ≤ v5 → ((0 ≤ v4 ∧ v4 < 7) ∧ P (s1 55 v4) s1)) ∧ (v5 < r1 → (∀ s2 : Sto, s2 = up s1 55 0 ((s1 55 0) + (s1 4 4)) → G LY X 70 [rv 52, rv 4, iv v2, iv v3, iv v4, iv v5, iv (s1 55 0), iv 1, none, none, none] [] s2))))))) : G LY X 38 [rv 52, rv 4, iv v2, iv v3, iv v4, iv v5, none, none, none, none, none] [] s := by
  refine G_iload C dX1_feeOf_38 rfl ?_
  refine G_iload_n C dX1_feeOf_40 rfl ?_
  refine G_callSI (K := [.inl v5]) (args := [.inl v2]) C (Nat.le_of_ble_eq_true rfl) mo_X5_nameLength wc_X1_21 rfl dX1_feeOf_41 h (fun r1 s1 h => ?_)
  refine G_icmp_ge (tgt := 182) C dX1_feeOf_44 (by decide) ⟨h.1.1, h.1.2⟩ (fun q => ?_) (fun q => ?_)
  · have h := h.2.1 q
    refine G_aload_n C dX1_feeOf_182 rfl ?_
    refine gR_X1_2 C ly_52 rfl wf_X1_18 dX1_feeOf_183 ?_
    refine G_iload C dX1_feeOf_186 rfl ?_
    refine G_iald C ly_55 (by decide) h.1 dX1_feeOf_188 ?_
    have h := h.2
    exact r _ _ _ _ dX1_feeOf_189 h
  · have h := h.2.2 q
    refine G_aload_n C dX1_feeOf_47 rfl ?_
    refine gR_X1_2 C ly_52 rfl wf_X1_18 dX1_feeOf_48 ?_
    refine G_iconst C dX1_feeOf_51 ?_
    refine G_iald C ly_55 (by decide) (by decide) dX1_feeOf_52 ?_
    refine G_istore (L' := [rv 52, rv 4, iv v2, iv v3, iv v4, iv v5, iv (s1 55 0), none, none, none, none]) C dX1_feeOf_53 (by decide) rfl ?_
    refine G_aload_n C dX1_feeOf_55 rfl ?_
    refine gR_X1_2 C ly_52 rfl wf_X1_18 dX1_feeOf_56 ?_
    refine G_iconst C dX1_feeOf_59 ?_
    refine G_dup2 C dX1_feeOf_60 ?_
    refine G_iald C ly_55 (by decide) (by decide) dX1_feeOf_61 ?_
    refine G_aload_n C dX1_feeOf_62 rfl ?_
    refine G_iconst C dX1_feeOf_63 ?_
    refine G_iald C ly_4 (by decide) (by decide) dX1_feeOf_64 ?_
    refine G_iadd C dX1_feeOf_65 ?_
    refine G_iast C ly_55 (by decide) (by decide) dX1_feeOf_66 ?_
    have h := h _ rfl
    obtain ⟨s2, e2⟩ : ∃ z, z = up s1 55 0 ((s1 55 0) + (s1 4 4)) := ⟨_, rfl⟩
    rw [← e2] at h ⊢
    refine G_iconst C dX1_feeOf_67 ?_
    refine G_istore (L' := [rv 52, rv 4, iv v2, iv v3, iv v4, iv v5, iv (s1 55 0), iv 1, none, none, none]) C dX1_feeOf_68 (by decide) rfl ?_
    exact h
set_option maxRecDepth 20000 in
theorem kb_X1_feeOf_70 {X : Cx} {d : Nat} {P : Int → Sto → Prop} (C : Ok LY X RX1 cX1_feeOf 11 d) (r : RetI LY X cX1_feeOf P) (h1d : 1 ≤ d) {v2 v3 v4 v5 v6 v7 : Int} {s : Sto} (h : ((rg v7 ∧ rg v4) ∧ ((v4 < v7 → G LY X 38 [rv 52, rv 4, iv v2, iv v3, iv v4, iv (v5 + 1), none, none, none, none, none] [] s) ∧ (v7 ≤ v4 → (CallI LY d MX5_nameLetter [.inl v2, .inl v5] s (fun r1 s1 => (CallI LY d MX5_nameLetter [.inl v3, .inl (v7 - 1)] s1 (fun r2 s2 => ((rg r1 ∧ rg r2) ∧ ((r1 ≠ r2 → ((0 ≤ v7 ∧ v7 < 7) ∧ ((0 ≤ v7 ∧ v7 < 7) ∧ ((0 ≤ (v7 - 1) ∧ (v7 - 1) < 7) ∧ ((rg ((s2 55 v7) + (s2 4 4)) ∧ rg ((s2 55 (v7 - 1)) + (s2 4 3))) ∧ ((rg (v6 + (s2 4 2)) ∧ rg (min ((s2 55 v7) + (s2 4 4)) ((s2 55 (v7 - 1)) + (s2 4 3)))) ∧ ((0 ≤ v7 ∧ v7 < 7) ∧ (∀ s3 : Sto, s3 = up s2 55 v7 (min (v6 + (s2 4 2)) (min ((s2 55 v7) + (s2 4 4)) ((s2 55 (v7 - 1)) + (s2 4 3)))) → G LY X 70 [rv 52, rv 4, iv v2, iv v3, iv v4, iv v5, iv (s2 55 v7), iv (v7 + 1), none, none, none] [] s3)))))))) ∧ (r1 = r2 → ((0 ≤ v7 ∧ v7 < 7) ∧ ((0 ≤ v7 ∧ v7 < 7) ∧ ((0 ≤ (v7 - 1) ∧ (v7 - 1) < 7) ∧ ((rg ((s2 55 v7) + (s2 4 4)) ∧ rg ((s2 55 (v7 - 1)) + (s2 4 3))) ∧ ((rg (v6 + 0) ∧ rg (min ((s2 55 v7) + (s2 4 4)) ((s2 55 (v7 - 1)) + (s2 4 3)))) ∧ ((0 ≤ v7 ∧ v7 < 7) ∧ (∀ s4 : Sto, s4 = up s2 55 v7 (min (v6 + 0) (min ((s2 55 v7) + (s2 4 4)) ((s2 55 (v7 - 1)) + (s2 4 3)))) → G LY X 70 [rv 52, rv 4, iv v2, iv v3, iv v4, iv v5, iv (s2 55 v7), iv (v7 + 1), none, none, none] [] s4)))))))))))))))))) : G LY X 70 [rv 52, rv 4, iv v2, iv v3, iv v4, iv v5, iv v6, iv v7, none, none, none] [] s := by
  refine G_iload C dX1_feeOf_70 rfl ?_
  refine G_iload C dX1_feeOf_72 rfl ?_
  refine G_icmp_gt (tgt := 176) C dX1_feeOf_74 (by decide) ⟨h.1.1, h.1.2⟩ (fun q => ?_) (fun q => ?_)
  · have h := h.2.1 q
    refine G_iinc (L' := [rv 52, rv 4, iv v2, iv v3, iv v4, iv (v5 + 1), iv v6, iv v7, none, none, none]) C dX1_feeOf_176 (by decide) rfl rfl ?_
    refine G_goto (tgt := 38) C dX1_feeOf_179 (by decide) ?_
    refine G_drop (i := 6) (L' := [rv 52, rv 4, iv v2, iv v3, iv v4, iv (v5 + 1), none, iv v7, none, none, none]) rfl ?_
    refine G_drop (i := 7) (L' := [rv 52, rv 4, iv v2, iv v3, iv v4, iv (v5 + 1), none, none, none, none, none]) rfl ?_
    exact h
  · have h := h.2.2 q
    refine G_iload_n C dX1_feeOf_77 rfl ?_
    refine G_iload C dX1_feeOf_78 rfl ?_
    refine G_callSI (K := []) (args := [.inl v2, .inl v5]) C (Nat.le_of_ble_eq_true rfl) mo_X5_nameLetter wc_X1_27 rfl dX1_feeOf_80 h (fun r1 s1 h => ?_)
    refine G_iload_n C dX1_feeOf_83 rfl ?_
    refine G_iload C dX1_feeOf_84 rfl ?_
    refine G_iconst C dX1_feeOf_86 ?_
    refine G_isub C dX1_feeOf_87 ?_
    refine G_callSI (K := [.inl r1]) (args := [.inl v3, .inl (v7 - 1)]) C (Nat.le_of_ble_eq_true rfl) mo_X5_nameLetter wc_X1_27 rfl dX1_feeOf_88 h (fun r2 s2 h => ?_)
    refine G_icmp_ne (tgt := 98) C dX1_feeOf_91 (by decide) ⟨h.1.1, h.1.2⟩ (fun q => ?_) (fun q => ?_)
    · have h := h.2.1 q
      refine G_iconst C dX1_feeOf_98 ?_
      refine G_istore (L' := [rv 52, rv 4, iv v2, iv v3, iv v4, iv v5, iv v6, iv v7, iv 0, none, none]) C dX1_feeOf_99 (by decide) rfl ?_
      refine G_iload C dX1_feeOf_101 rfl ?_
      refine G_iload C dX1_feeOf_103 rfl ?_
      refine G_if_eq (tgt := 112) C dX1_feeOf_105 (by decide) (by decide) (fun q => ?_) (fun q => ?_)
      rotate_left
      · exact absurd q (by decide)
      refine G_aload_n C dX1_feeOf_112 rfl ?_
      refine G_iconst C dX1_feeOf_113 ?_
      refine G_iald C ly_4 (by decide) (by decide) dX1_feeOf_114 ?_
      refine G_iadd C dX1_feeOf_115 ?_
      refine G_istore (L' := [rv 52, rv 4, iv v2, iv v3, iv v4, iv v5, iv v6, iv v7, iv 0, iv (v6 + (s2 4 2)), none]) C dX1_feeOf_116 (by decide) rfl ?_
      refine G_aload_n C dX1_feeOf_118 rfl ?_
      refine gR_X1_2 C ly_52 rfl wf_X1_18 dX1_feeOf_119 ?_
      refine G_iload C dX1_feeOf_122 rfl ?_
      refine G_iald C ly_55 (by decide) h.1 dX1_feeOf_124 ?_
      have h := h.2
      refine G_istore (L' := [rv 52, rv 4, iv v2, iv v3, iv v4, iv v5, iv (s2 55 v7), iv v7, iv 0, iv (v6 + (s2 4 2)), none]) C dX1_feeOf_125 (by decide) rfl ?_
      refine G_aload_n C dX1_feeOf_127 rfl ?_
      refine gR_X1_2 C ly_52 rfl wf_X1_18 dX1_feeOf_128 ?_
      refine G_iload C dX1_feeOf_131 rfl ?_
      refine G_iald C ly_55 (by decide) h.1 dX1_feeOf_133 ?_
      have h := h.2
      refine G_aload_n C dX1_feeOf_134 rfl ?_
      refine G_iconst C dX1_feeOf_135 ?_
      refine G_iald C ly_4 (by decide) (by decide) dX1_feeOf_136 ?_
      refine G_iadd C dX1_feeOf_137 ?_
      refine G_aload_n C dX1_feeOf_138 rfl ?_
      refine gR_X1_2 C ly_52 rfl wf_X1_18 dX1_feeOf_139 ?_
      refine G_iload C dX1_feeOf_142 rfl ?_
      refine G_iconst C dX1_feeOf_144 ?_
      refine G_isub C dX1_feeOf_145 ?_
      refine G_iald C ly_55 (by decide) h.1 dX1_feeOf_146 ?_
      have h := h.2
      refine G_aload_n C dX1_feeOf_147 rfl ?_
      refine G_iconst C dX1_feeOf_148 ?_
      refine G_iald C ly_4 (by decide) (by decide) dX1_feeOf_149 ?_
      refine G_iadd C dX1_feeOf_150 ?_
      refine G_min C ⟨h.1.1, h.1.2⟩ h1d (Nat.le_of_ble_eq_true rfl) ws_892 mminw dX1_feeOf_151 ?_
      have h := h.2
      refine G_istore (L' := [rv 52, rv 4, iv v2, iv v3, iv v4, iv v5, iv (s2 55 v7), iv v7, iv 0, iv (v6 + (s2 4 2)), iv (min ((s2 55 v7) + (s2 4 4)) ((s2 55 (v7 - 1)) + (s2 4 3)))]) C dX1_feeOf_154 (by decide) rfl ?_
      refine G_aload_n C dX1_feeOf_156 rfl ?_
      refine gR_X1_2 C ly_52 rfl wf_X1_18 dX1_feeOf_157 ?_
      refine G_iload C dX1_feeOf_160 rfl ?_
      refine G_iload C dX1_feeOf_162 rfl ?_
      refine G_iload C dX1_feeOf_164 rfl ?_
      refine G_min C ⟨h.1.1, h.1.2⟩ h1d (Nat.le_of_ble_eq_true rfl) ws_892 mminw dX1_feeOf_166 ?_
      have h := h.2
      refine G_iast C ly_55 (by decide) h.1 dX1_feeOf_169 ?_
      have h := h.2
      have h := h _ rfl
      obtain ⟨s3, e3⟩ : ∃ z, z = up s2 55 v7 (min (v6 + (s2 4 2)) (min ((s2 55 v7) + (s2 4 4)) ((s2 55 (v7 - 1)) + (s2 4 3)))) := ⟨_, rfl⟩
      rw [← e3] at h ⊢
      refine G_iinc (L' := [rv 52, rv 4, iv v2, iv v3, iv v4, iv v5, iv (s2 55 v7), iv (v7 + 1), iv 0, iv (v6 + (s2 4 2)), iv (min ((s2 55 v7) + (s2 4 4)) ((s2 55 (v7 - 1)) + (s2 4 3)))]) C dX1_feeOf_170 (by decide) rfl rfl ?_
      refine G_goto (tgt := 70) C dX1_feeOf_173 (by decide) ?_
      refine G_drop (i := 8) (L' := [rv 52, rv 4, iv v2, iv v3, iv v4, iv v5, iv (s2 55 v7), iv (v7 + 1), none, iv (v6 + (s2 4 2)), iv (min ((s2 55 v7) + (s2 4 4)) ((s2 55 (v7 - 1)) + (s2 4 3)))]) rfl ?_
      refine G_drop (i := 9) (L' := [rv 52, rv 4, iv v2, iv v3, iv v4, iv v5, iv (s2 55 v7), iv (v7 + 1), none, none, iv (min ((s2 55 v7) + (s2 4 4)) ((s2 55 (v7 - 1)) + (s2 4 3)))]) rfl ?_
      refine G_drop (i := 10) (L' := [rv 52, rv 4, iv v2, iv v3, iv v4, iv v5, iv (s2 55 v7), iv (v7 + 1), none, none, none]) rfl ?_
      exact h
    · have h := h.2.2 q
      refine G_iconst C dX1_feeOf_94 ?_
      refine G_goto (tgt := 99) C dX1_feeOf_95 (by decide) ?_
      refine G_istore (L' := [rv 52, rv 4, iv v2, iv v3, iv v4, iv v5, iv v6, iv v7, iv 1, none, none]) C dX1_feeOf_99 (by decide) rfl ?_
      refine G_iload C dX1_feeOf_101 rfl ?_
      refine G_iload C dX1_feeOf_103 rfl ?_
      refine G_if_eq (tgt := 112) C dX1_feeOf_105 (by decide) (by decide) (fun q => ?_) (fun q => ?_)
      · exact absurd q (by decide)
      refine G_iconst C dX1_feeOf_108 ?_
      refine G_goto (tgt := 115) C dX1_feeOf_109 (by decide) ?_
      refine G_iadd C dX1_feeOf_115 ?_
      refine G_istore (L' := [rv 52, rv 4, iv v2, iv v3, iv v4, iv v5, iv v6, iv v7, iv 1, iv (v6 + 0), none]) C dX1_feeOf_116 (by decide) rfl ?_
      refine G_aload_n C dX1_feeOf_118 rfl ?_
      refine gR_X1_2 C ly_52 rfl wf_X1_18 dX1_feeOf_119 ?_
      refine G_iload C dX1_feeOf_122 rfl ?_
      refine G_iald C ly_55 (by decide) h.1 dX1_feeOf_124 ?_
      have h := h.2
      refine G_istore (L' := [rv 52, rv 4, iv v2, iv v3, iv v4, iv v5, iv (s2 55 v7), iv v7, iv 1, iv (v6 + 0), none]) C dX1_feeOf_125 (by decide) rfl ?_
      refine G_aload_n C dX1_feeOf_127 rfl ?_
      refine gR_X1_2 C ly_52 rfl wf_X1_18 dX1_feeOf_128 ?_
      refine G_iload C dX1_feeOf_131 rfl ?_
      refine G_iald C ly_55 (by decide) h.1 dX1_feeOf_133 ?_
      have h := h.2
      refine G_aload_n C dX1_feeOf_134 rfl ?_
      refine G_iconst C dX1_feeOf_135 ?_
      refine G_iald C ly_4 (by decide) (by decide) dX1_feeOf_136 ?_
      refine G_iadd C dX1_feeOf_137 ?_
      refine G_aload_n C dX1_feeOf_138 rfl ?_
      refine gR_X1_2 C ly_52 rfl wf_X1_18 dX1_feeOf_139 ?_
      refine G_iload C dX1_feeOf_142 rfl ?_
      refine G_iconst C dX1_feeOf_144 ?_
      refine G_isub C dX1_feeOf_145 ?_
      refine G_iald C ly_55 (by decide) h.1 dX1_feeOf_146 ?_
      have h := h.2
      refine G_aload_n C dX1_feeOf_147 rfl ?_
      refine G_iconst C dX1_feeOf_148 ?_
      refine G_iald C ly_4 (by decide) (by decide) dX1_feeOf_149 ?_
      refine G_iadd C dX1_feeOf_150 ?_
      refine G_min C ⟨h.1.1, h.1.2⟩ h1d (Nat.le_of_ble_eq_true rfl) ws_892 mminw dX1_feeOf_151 ?_
      have h := h.2
      refine G_istore (L' := [rv 52, rv 4, iv v2, iv v3, iv v4, iv v5, iv (s2 55 v7), iv v7, iv 1, iv (v6 + 0), iv (min ((s2 55 v7) + (s2 4 4)) ((s2 55 (v7 - 1)) + (s2 4 3)))]) C dX1_feeOf_154 (by decide) rfl ?_
      refine G_aload_n C dX1_feeOf_156 rfl ?_
      refine gR_X1_2 C ly_52 rfl wf_X1_18 dX1_feeOf_157 ?_
      refine G_iload C dX1_feeOf_160 rfl ?_
      refine G_iload C dX1_feeOf_162 rfl ?_
      refine G_iload C dX1_feeOf_164 rfl ?_
      refine G_min C ⟨h.1.1, h.1.2⟩ h1d (Nat.le_of_ble_eq_true rfl) ws_892 mminw dX1_feeOf_166 ?_
      have h := h.2
      refine G_iast C ly_55 (by decide) h.1 dX1_feeOf_169 ?_
      have h := h.2
      have h := h _ rfl
      obtain ⟨s4, e4⟩ : ∃ z, z = up s2 55 v7 (min (v6 + 0) (min ((s2 55 v7) + (s2 4 4)) ((s2 55 (v7 - 1)) + (s2 4 3)))) := ⟨_, rfl⟩
      rw [← e4] at h ⊢
      refine G_iinc (L' := [rv 52, rv 4, iv v2, iv v3, iv v4, iv v5, iv (s2 55 v7), iv (v7 + 1), iv 1, iv (v6 + 0), iv (min ((s2 55 v7) + (s2 4 4)) ((s2 55 (v7 - 1)) + (s2 4 3)))]) C dX1_feeOf_170 (by decide) rfl rfl ?_
      refine G_goto (tgt := 70) C dX1_feeOf_173 (by decide) ?_
      refine G_drop (i := 8) (L' := [rv 52, rv 4, iv v2, iv v3, iv v4, iv v5, iv (s2 55 v7), iv (v7 + 1), none, iv (v6 + 0), iv (min ((s2 55 v7) + (s2 4 4)) ((s2 55 (v7 - 1)) + (s2 4 3)))]) rfl ?_
      refine G_drop (i := 9) (L' := [rv 52, rv 4, iv v2, iv v3, iv v4, iv v5, iv (s2 55 v7), iv (v7 + 1), none, none, iv (min ((s2 55 v7) + (s2 4 4)) ((s2 55 (v7 - 1)) + (s2 4 3)))]) rfl ?_
      refine G_drop (i := 10) (L' := [rv 52, rv 4, iv v2, iv v3, iv v4, iv v5, iv (s2 55 v7), iv (v7 + 1), none, none, none]) rfl ?_
      exact h
set_option maxRecDepth 20000 in
theorem kb_X7_worthWith_0 {X : Cx} {d : Nat} {P : Int → Sto → Prop} (C : Ok LY X RX7 cX7_worthWith 7 d) (r : RetI LY X cX7_worthWith P) {v2 v3 : Int} {s : Sto} (h : ((0 ≤ v2 ∧ v2 < 20) ∧ (CallI LY d MX7_keyOf [.inr 46, .inl v3] s (fun r1 s1 => ((0 ≤ v2 ∧ v2 < 20) ∧ (∀ s2 : Sto, s2 = up s1 48 v2 r1 → G LY X 25 [rv 46, rv 3, iv v2, iv v3, iv (s 48 v2), iv 0, iv 0] [] s2)))))) : G LY X 0 [rv 46, rv 3, iv v2, iv v3, none, none, none] [] s := by
  refine G_aload_n C dX7_worthWith_0 rfl ?_
  refine gR_X7_1 C ly_46 rfl wf_X7_15 dX7_worthWith_1 ?_
  refine G_iload_n C dX7_worthWith_4 rfl ?_
  refine G_iald C ly_48 (by decide) h.1 dX7_worthWith_5 ?_
  have h := h.2
  refine G_istore (L' := [rv 46, rv 3, iv v2, iv v3, iv (s 48 v2), none, none]) C dX7_worthWith_6 (by decide) rfl ?_
  refine G_aload_n C dX7_worthWith_8 rfl ?_
  refine gR_X7_1 C ly_46 rfl wf_X7_15 dX7_worthWith_9 ?_
  refine G_iload_n C dX7_worthWith_12 rfl ?_
  refine G_aload_n C dX7_worthWith_13 rfl ?_
  refine G_iload_n C dX7_worthWith_14 rfl ?_
  refine G_callVI (K := [.inl v2, .inr 48]) (args := [.inl v3]) (T := TX7) (N := 5) C ly_46 rfl (Nat.le_of_ble_eq_true rfl) mo_X7_keyOf wc_X7_61 rfl dX7_worthWith_15 h (fun r1 s1 h => ?_)
  refine G_iast C ly_48 (by decide) h.1 dX7_worthWith_18 ?_
  have h := h.2
  have h := h _ rfl
  obtain ⟨s2, e2⟩ : ∃ z, z = up s1 48 v2 r1 := ⟨_, rfl⟩
  rw [← e2] at h ⊢
  refine G_iconst C dX7_worthWith_19 ?_
  refine G_istore (L' := [rv 46, rv 3, iv v2, iv v3, iv (s 48 v2), iv 0, none]) C dX7_worthWith_20 (by decide) rfl ?_
  refine G_iconst C dX7_worthWith_22 ?_
  refine G_istore (L' := [rv 46, rv 3, iv v2, iv v3, iv (s 48 v2), iv 0, iv 0]) C dX7_worthWith_23 (by decide) rfl ?_
  exact h
set_option maxRecDepth 20000 in
theorem kb_X7_worthWith_25 {X : Cx} {d : Nat} {P : Int → Sto → Prop} (C : Ok LY X RX7 cX7_worthWith 7 d) (r : RetI LY X cX7_worthWith P) {v2 v3 v4 v5 v6 : Int} {s : Sto} (h : ((rg v6 ∧ rg (s 5 0)) ∧ (((s 5 0) ≤ v6 → ((0 ≤ v2 ∧ v2 < 20) ∧ (∀ s1 : Sto, s1 = up s 48 v2 v4 → ((0 ≤ v5 ∧ v5 < 20) ∧ P (s1 51 v5) s1)))) ∧ (v6 < (s 5 0) → ((rg v6 ∧ rg v2) ∧ ((v6 = v2 → G LY X 25 [rv 46, rv 3, iv v2, iv v3, iv v4, iv v5, iv (v6 + 1)] [] s) ∧ (v6 ≠ v2 → (CallI LY d MX7_isAhead [.inr 46, .inr 3, .inl v6, .inl v2] s (fun r2 s2 => ((rg r2) ∧ ((r2 = 0 → G LY X 25 [rv 46, rv 3, iv v2, iv v3, iv v4, iv v5, iv (v6 + 1)] [] s2) ∧ (r2 ≠ 0 → G LY X 25 [rv 46, rv 3, iv v2, iv v3, iv v4, iv (v5 + 1), iv (v6 + 1)] [] s2)))))))))))) : G LY X 25 [rv 46, rv 3, iv v2, iv v3, iv v4, iv v5, iv v6] [] s := by
  refine G_iload C dX7_worthWith_25 rfl ?_
  refine G_aload_n C dX7_worthWith_27 rfl ?_
  refine gR_X2_5 C ly_3 rfl wf_X7_27 dX7_worthWith_28 ?_
  refine gI_X6_0 C ly_5 rfl wf_X7_33 dX7_worthWith_31 ?_
  refine G_icmp_ge (tgt := 63) C dX7_worthWith_34 (by decide) ⟨h.1.1, h.1.2⟩ (fun q => ?_) (fun q => ?_)
  · have h := h.2.1 q
    refine G_aload_n C dX7_worthWith_63 rfl ?_
    refine gR_X7_1 C ly_46 rfl wf_X7_15 dX7_worthWith_64 ?_
    refine G_iload_n C dX7_worthWith_67 rfl ?_
    refine G_iload C dX7_worthWith_68 rfl ?_
    refine G_iast C ly_48 (by decide) h.1 dX7_worthWith_70 ?_
    have h := h.2
    have h := h _ rfl
    obtain ⟨s1, e1⟩ : ∃ z, z = up s 48 v2 v4 := ⟨_, rfl⟩
    rw [← e1] at h ⊢
    refine G_aload_n C dX7_worthWith_71 rfl ?_
    refine gR_X7_4 C ly_46 rfl wf_X7_24 dX7_worthWith_72 ?_
    refine G_iload C dX7_worthWith_75 rfl ?_
    refine G_iald C ly_51 (by decide) h.1 dX7_worthWith_77 ?_
    have h := h.2
    exact r _ _ _ _ dX7_worthWith_78 h
  · have h := h.2.2 q
    refine G_iload C dX7_worthWith_37 rfl ?_
    refine G_iload_n C dX7_worthWith_39 rfl ?_
    refine G_icmp_eq (tgt := 57) C dX7_worthWith_40 (by decide) ⟨h.1.1, h.1.2⟩ (fun q => ?_) (fun q => ?_)
    · have h := h.2.1 q
      refine G_iinc (L' := [rv 46, rv 3, iv v2, iv v3, iv v4, iv v5, iv (v6 + 1)]) C dX7_worthWith_57 (by decide) rfl rfl ?_
      refine G_goto (tgt := 25) C dX7_worthWith_60 (by decide) ?_
      exact h
    · have h := h.2.2 q
      refine G_aload_n C dX7_worthWith_43 rfl ?_
      refine G_aload_n C dX7_worthWith_44 rfl ?_
      refine G_iload C dX7_worthWith_45 rfl ?_
      refine G_iload_n C dX7_worthWith_47 rfl ?_
      refine G_callVI (K := []) (args := [.inr 3, .inl v6, .inl v2]) (T := TX7) (N := 5) C ly_46 rfl (Nat.le_of_ble_eq_true rfl) mo_X7_isAhead wc_X7_65 rfl dX7_worthWith_48 h (fun r2 s2 h => ?_)
      refine G_if_eq (tgt := 57) C dX7_worthWith_51 (by decide) h.1 (fun q => ?_) (fun q => ?_)
      · have h := h.2.1 q
        refine G_iinc (L' := [rv 46, rv 3, iv v2, iv v3, iv v4, iv v5, iv (v6 + 1)]) C dX7_worthWith_57 (by decide) rfl rfl ?_
        refine G_goto (tgt := 25) C dX7_worthWith_60 (by decide) ?_
        exact h
      · have h := h.2.2 q
        refine G_iinc (L' := [rv 46, rv 3, iv v2, iv v3, iv v4, iv (v5 + 1), iv v6]) C dX7_worthWith_54 (by decide) rfl rfl ?_
        refine G_iinc (L' := [rv 46, rv 3, iv v2, iv v3, iv v4, iv (v5 + 1), iv (v6 + 1)]) C dX7_worthWith_57 (by decide) rfl rfl ?_
        refine G_goto (tgt := 25) C dX7_worthWith_60 (by decide) ?_
        exact h
set_option maxRecDepth 20000 in
theorem kb_X1_allows_0 {X : Cx} {d : Nat} {P : Int → Sto → Prop} (C : Ok LY X RX1 cX1_allows 9 d) (r : RetZ LY X cX1_allows P) {v2 v3 v4 v5 : Int} {s : Sto} (h : (CallV LY d MX1_gatherFacts [.inr 52, .inr 3, .inl v4] s (fun s1 => (CallI LY d MX1_lettersInCommon [.inl v3, .inl v4] s1 (fun r2 s2 => (∀ s3 : Sto, s3 = up s2 53 3 r2 → ((0 ≤ v2 ∧ v2 < 20) ∧ (∀ s4 : Sto, s4 = up s3 53 6 (s3 8 v2) → ((0 ≤ v2 ∧ v2 < 20) ∧ (∀ s5 : Sto, s5 = up s4 53 7 (s4 9 v2) → ((0 ≤ v2 ∧ v2 < 20) ∧ (∀ s6 : Sto, s6 = up s5 53 8 (s5 7 v2) → (∀ s7 : Sto, s7 = up s6 53 9 v5 → G LY X 82 [rv 52, rv 3, iv v2, iv v3, iv v4, iv v5, iv 0, iv 0, none] [] s7))))))))))))) : G LY X 0 [rv 52, rv 3, iv v2, iv v3, iv v4, iv v5, none, none, none] [] s := by
  refine G_aload_n C dX1_allows_0 rfl ?_
  refine G_aload_n C dX1_allows_1 rfl ?_
  refine G_iload C dX1_allows_2 rfl ?_
  refine G_callVV (K := []) (args := [.inr 3, .inl v4]) (T := TX1) (N := 3) C ly_52 rfl (Nat.le_of_ble_eq_true rfl) mo_X1_gatherFacts wc_X1_36 rfl dX1_allows_4 h (fun s1 h => ?_)
  refine G_aload_n C dX1_allows_7 rfl ?_
  refine gR_X1_0 C ly_52 rfl wf_X1_9 dX1_allows_8 ?_
  refine G_iconst C dX1_allows_11 ?_
  refine G_iload_n C dX1_allows_12 rfl ?_
  refine G_iload C dX1_allows_13 rfl ?_
  refine G_callSI (K := [.inl 3, .inr 53]) (args := [.inl v3, .inl v4]) C (Nat.le_of_ble_eq_true rfl) mo_X1_lettersInCommon wc_X1_40 rfl dX1_allows_15 h (fun r2 s2 h => ?_)
  refine G_iast C ly_53 (by decide) (by decide) dX1_allows_18 ?_
  have h := h _ rfl
  obtain ⟨s3, e3⟩ : ∃ z, z = up s2 53 3 r2 := ⟨_, rfl⟩
  rw [← e3] at h ⊢
  refine G_aload_n C dX1_allows_19 rfl ?_
  refine gR_X1_0 C ly_52 rfl wf_X1_9 dX1_allows_20 ?_
  refine G_bipush C dX1_allows_23 bi_6 ?_
  refine G_aload_n C dX1_allows_25 rfl ?_
  refine gR_X2_5 C ly_3 rfl wf_X1_43 dX1_allows_26 ?_
  refine gR_X6_3 C ly_5 rfl wf_X1_49 dX1_allows_29 ?_
  refine G_iload_n C dX1_allows_32 rfl ?_
  refine G_iald C ly_8 (by decide) h.1 dX1_allows_33 ?_
  have h := h.2
  refine G_iast C ly_53 (by decide) (by decide) dX1_allows_34 ?_
  have h := h _ rfl
  obtain ⟨s4, e4⟩ : ∃ z, z = up s3 53 6 (s3 8 v2) := ⟨_, rfl⟩
  rw [← e4] at h ⊢
  refine G_aload_n C dX1_allows_35 rfl ?_
  refine gR_X1_0 C ly_52 rfl wf_X1_9 dX1_allows_36 ?_
  refine G_bipush C dX1_allows_39 bi_7 ?_
  refine G_aload_n C dX1_allows_41 rfl ?_
  refine gR_X2_5 C ly_3 rfl wf_X1_43 dX1_allows_42 ?_
  refine gR_X6_4 C ly_5 rfl wf_X1_54 dX1_allows_45 ?_
  refine G_iload_n C dX1_allows_48 rfl ?_
  refine G_iald C ly_9 (by decide) h.1 dX1_allows_49 ?_
  have h := h.2
  refine G_iast C ly_53 (by decide) (by decide) dX1_allows_50 ?_
  have h := h _ rfl
  obtain ⟨s5, e5⟩ : ∃ z, z = up s4 53 7 (s4 9 v2) := ⟨_, rfl⟩
  rw [← e5] at h ⊢
  refine G_aload_n C dX1_allows_51 rfl ?_
  refine gR_X1_0 C ly_52 rfl wf_X1_9 dX1_allows_52 ?_
  refine G_bipush C dX1_allows_55 bi_8 ?_
  refine G_aload_n C dX1_allows_57 rfl ?_
  refine gR_X2_5 C ly_3 rfl wf_X1_43 dX1_allows_58 ?_
  refine gR_X6_2 C ly_5 rfl wf_X1_57 dX1_allows_61 ?_
  refine G_iload_n C dX1_allows_64 rfl ?_
  refine G_iald C ly_7 (by decide) h.1 dX1_allows_65 ?_
  have h := h.2
  refine G_iast C ly_53 (by decide) (by decide) dX1_allows_66 ?_
  have h := h _ rfl
  obtain ⟨s6, e6⟩ : ∃ z, z = up s5 53 8 (s5 7 v2) := ⟨_, rfl⟩
  rw [← e6] at h ⊢
  refine G_aload_n C dX1_allows_67 rfl ?_
  refine gR_X1_0 C ly_52 rfl wf_X1_9 dX1_allows_68 ?_
  refine G_bipush C dX1_allows_71 bi_9 ?_
  refine G_iload C dX1_allows_73 rfl ?_
  refine G_iast C ly_53 (by decide) (by decide) dX1_allows_75 ?_
  have h := h _ rfl
  obtain ⟨s7, e7⟩ : ∃ z, z = up s6 53 9 v5 := ⟨_, rfl⟩
  rw [← e7] at h ⊢
  refine G_iconst C dX1_allows_76 ?_
  refine G_istore (L' := [rv 52, rv 3, iv v2, iv v3, iv v4, iv v5, iv 0, none, none]) C dX1_allows_77 (by decide) rfl ?_
  refine G_iconst C dX1_allows_79 ?_
  refine G_istore (L' := [rv 52, rv 3, iv v2, iv v3, iv v4, iv v5, iv 0, iv 0, none]) C dX1_allows_80 (by decide) rfl ?_
  exact h
set_option maxRecDepth 20000 in
theorem kb_X1_allows_82 {X : Cx} {d : Nat} {P : Int → Sto → Prop} (C : Ok LY X RX1 cX1_allows 9 d) (r : RetZ LY X cX1_allows P) {v2 v3 v4 v5 v6 v7 : Int} {s : Sto} (h : ((rg v7 ∧ rg (s 17 0)) ∧ (((s 17 0) ≤ v7 → P 1 s) ∧ (v7 < (s 17 0) → ((0 ≤ v7 ∧ v7 < 16) ∧ ((rg v6 ∧ rg (s 19 v7)) ∧ ((v6 = (s 19 v7) → ((0 ≤ v7 ∧ v7 < 16) ∧ ((rg (s 18 v7)) ∧ (((s 18 v7) ≠ 10000 → P 0 s) ∧ ((s 18 v7) = 10000 → P 1 s))))) ∧ (v6 ≠ (s 19 v7) → (CallI LY d MX1_holds [.inr 52, .inr 20, .inl v6, .inl (s 19 v7)] s (fun r1 s1 => ((rg r1) ∧ ((r1 = 0 → G LY X 82 [rv 52, rv 3, iv v2, iv v3, iv v4, iv v5, iv (s 19 v7), iv (v7 + 1), none] [] s1) ∧ (r1 ≠ 0 → ((0 ≤ v7 ∧ v7 < 16) ∧ ((rg (s1 18 v7)) ∧ (((s1 18 v7) ≠ 10000 → P 0 s1) ∧ ((s1 18 v7) = 10000 → P 1 s1))))))))))))))))) : G LY X 82 [rv 52, rv 3, iv v2, iv v3, iv v4, iv v5, iv v6, iv v7, none] [] s := by
  refine G_iload C dX1_allows_82 rfl ?_
  refine G_aload_n C dX1_allows_84 rfl ?_
  refine gR_X2_15 C ly_3 rfl wf_X1_60 dX1_allows_85 ?_
  refine gI_X4_0 C ly_17 rfl wf_X1_64 dX1_allows_88 ?_
  refine G_icmp_ge (tgt := 163) C dX1_allows_91 (by decide) ⟨h.1.1, h.1.2⟩ (fun q => ?_) (fun q => ?_)
  · have h := h.2.1 q
    refine G_iconst C dX1_allows_163 ?_
    exact r _ _ _ _ dX1_allows_164 (by decide) h
  · have h := h.2.2 q
    refine G_aload_n C dX1_allows_94 rfl ?_
    refine gR_X2_15 C ly_3 rfl wf_X1_60 dX1_allows_95 ?_
    refine gR_X4_3 C ly_17 rfl wf_X1_70 dX1_allows_98 ?_
    refine G_iload C dX1_allows_101 rfl ?_
    refine G_iald C ly_19 (by decide) h.1 dX1_allows_103 ?_
    have h := h.2
    refine G_istore (L' := [rv 52, rv 3, iv v2, iv v3, iv v4, iv v5, iv v6, iv v7, iv (s 19 v7)]) C dX1_allows_104 (by decide) rfl ?_
    refine G_iload C dX1_allows_106 rfl ?_
    refine G_iload C dX1_allows_108 rfl ?_
    refine G_icmp_eq (tgt := 131) C dX1_allows_110 (by decide) ⟨h.1.1, h.1.2⟩ (fun q => ?_) (fun q => ?_)
    · have h := h.2.1 q
      refine G_aload_n C dX1_allows_131 rfl ?_
      refine gR_X2_15 C ly_3 rfl wf_X1_60 dX1_allows_132 ?_
      refine gR_X4_2 C ly_17 rfl wf_X1_80 dX1_allows_135 ?_
      refine G_iload C dX1_allows_138 rfl ?_
      refine G_iald C ly_18 (by decide) h.1 dX1_allows_140 ?_
      have h := h.2
      refine G_sipush C dX1_allows_141 si_10000 ?_
      refine G_icmp_ne (tgt := 151) C dX1_allows_144 (by decide) ⟨h.1, (by decide)⟩ (fun q => ?_) (fun q => ?_)
      · have h := h.2.1 q
        refine G_iconst C dX1_allows_151 ?_
        exact r _ _ _ _ dX1_allows_152 (by decide) h
      · have h := h.2.2 q
        refine G_iconst C dX1_allows_147 ?_
        refine G_goto (tgt := 152) C dX1_allows_148 (by decide) ?_
        exact r _ _ _ _ dX1_allows_152 (by decide) h
    · have h := h.2.2 q
      refine G_aload_n C dX1_allows_113 rfl ?_
      refine G_aload_n C dX1_allows_114 rfl ?_
      refine gR_X2_15 C ly_3 rfl wf_X1_60 dX1_allows_115 ?_
      refine gR_X4_4 C ly_17 rfl wf_X1_73 dX1_allows_118 ?_
      refine G_iload C dX1_allows_121 rfl ?_
      refine G_iload C dX1_allows_123 rfl ?_
      refine G_callVI (K := []) (args := [.inr 20, .inl v6, .inl (s 19 v7)]) (T := TX1) (N := 3) C ly_52 rfl (Nat.le_of_ble_eq_true rfl) mo_X1_holds wc_X1_76 rfl dX1_allows_125 h (fun r1 s1 h => ?_)
      refine G_if_eq (tgt := 153) C dX1_allows_128 (by decide) h.1 (fun q => ?_) (fun q => ?_)
      · have h := h.2.1 q
        refine G_iload C dX1_allows_153 rfl ?_
        refine G_istore (L' := [rv 52, rv 3, iv v2, iv v3, iv v4, iv v5, iv (s 19 v7), iv v7, iv (s 19 v7)]) C dX1_allows_155 (by decide) rfl ?_
        refine G_iinc (L' := [rv 52, rv 3, iv v2, iv v3, iv v4, iv v5, iv (s 19 v7), iv (v7 + 1), iv (s 19 v7)]) C dX1_allows_157 (by decide) rfl rfl ?_
        refine G_goto (tgt := 82) C dX1_allows_160 (by decide) ?_
        refine G_drop (i := 8) (L' := [rv 52, rv 3, iv v2, iv v3, iv v4, iv v5, iv (s 19 v7), iv (v7 + 1), none]) rfl ?_
        exact h
      · have h := h.2.2 q
        refine G_aload_n C dX1_allows_131 rfl ?_
        refine gR_X2_15 C ly_3 rfl wf_X1_60 dX1_allows_132 ?_
        refine gR_X4_2 C ly_17 rfl wf_X1_80 dX1_allows_135 ?_
        refine G_iload C dX1_allows_138 rfl ?_
        refine G_iald C ly_18 (by decide) h.1 dX1_allows_140 ?_
        have h := h.2
        refine G_sipush C dX1_allows_141 si_10000 ?_
        refine G_icmp_ne (tgt := 151) C dX1_allows_144 (by decide) ⟨h.1, (by decide)⟩ (fun q => ?_) (fun q => ?_)
        · have h := h.2.1 q
          refine G_iconst C dX1_allows_151 ?_
          exact r _ _ _ _ dX1_allows_152 (by decide) h
        · have h := h.2.2 q
          refine G_iconst C dX1_allows_147 ?_
          refine G_goto (tgt := 152) C dX1_allows_148 (by decide) ?_
          exact r _ _ _ _ dX1_allows_152 (by decide) h
set_option maxRecDepth 20000 in
theorem kb_X10_goThrough_0 {X : Cx} {d : Nat} {P : Sto → Prop} (C : Ok LY X RX10 cX10_goThrough 7 d) (r : RetV LY X cX10_goThrough P) (h1d : 1 ≤ d) {s : Sto} (h : ((((0 : Int) ≤ 0 ∧ (0 : Int) ≤ 0 ∧ (0 : Int) ≤ (s 5 0)) ∧ 0 + (s 5 0) ≤ ((20 : Nat) : Int) ∧ 0 + (s 5 0) ≤ ((20 : Nat) : Int)) ∧ (∀ s1 : Sto, s1 = cpy s 6 57 0 0 (s 5 0) → (CallV LY d MX7_payPlaces [.inr 46, .inr 3] s1 (fun s2 => (CallV LY d MX7_lineUp [.inr 46, .inr 3, .inl (s2 3 2)] s2 (fun s3 => (∀ s4 : Sto, s4 = up s3 56 2 (-1) → (∀ s5 : Sto, s5 = up s4 56 3 0 → (∀ s6 : Sto, s6 = up s5 56 4 0 → G LY X 59 [rv 56, rv 3, rv 46, rv 52, iv (s 5 0), iv 0, none] [] s6)))))))))) : G LY X 0 [rv 56, rv 3, rv 46, rv 52, none, none, none] [] s := by
  refine G_aload_n C dX10_goThrough_0 rfl ?_
  refine gR_X2_5 C ly_3 rfl wf_X10_28 dX10_goThrough_1 ?_
  refine gI_X6_0 C ly_5 rfl wf_X10_34 dX10_goThrough_4 ?_
  refine G_istore (L' := [rv 56, rv 3, rv 46, rv 52, iv (s 5 0), none, none]) C dX10_goThrough_7 (by decide) rfl ?_
  refine G_aload_n C dX10_goThrough_9 rfl ?_
  refine gR_X2_5 C ly_3 rfl wf_X10_28 dX10_goThrough_10 ?_
  refine gR_X6_1 C ly_5 rfl wf_X10_39 dX10_goThrough_13 ?_
  refine G_iconst C dX10_goThrough_16 ?_
  refine G_aload_n C dX10_goThrough_17 rfl ?_
  refine gR_X10_0 C ly_56 rfl wf_X10_9 dX10_goThrough_18 ?_
  refine G_iconst C dX10_goThrough_21 ?_
  refine G_iload C dX10_goThrough_22 rfl ?_
  refine G_copy C ly_6 ly_57 (by decide) h.1 h1d (Nat.le_of_ble_eq_true rfl) ws_924 arw dX10_goThrough_24 ?_
  have h := h.2
  have h := h _ rfl
  obtain ⟨s1, e1⟩ : ∃ z, z = cpy s 6 57 0 0 (s 5 0) := ⟨_, rfl⟩
  rw [← e1] at h ⊢
  refine G_aload_n C dX10_goThrough_27 rfl ?_
  refine G_aload_n C dX10_goThrough_28 rfl ?_
  refine G_callVV (K := []) (args := [.inr 3]) (T := TX7) (N := 5) C ly_46 rfl (Nat.le_of_ble_eq_true rfl) mo_X7_payPlaces wc_X10_46 rfl dX10_goThrough_29 h (fun s2 h => ?_)
  refine G_aload_n C dX10_goThrough_32 rfl ?_
  refine G_aload_n C dX10_goThrough_33 rfl ?_
  refine G_aload_n C dX10_goThrough_34 rfl ?_
  refine gI_X2_2 C ly_3 rfl wf_X10_52 dX10_goThrough_35 ?_
  refine G_callVV (K := []) (args := [.inr 3, .inl (s2 3 2)]) (T := TX7) (N := 5) C ly_46 rfl (Nat.le_of_ble_eq_true rfl) mo_X7_lineUp wc_X10_55 rfl dX10_goThrough_38 h (fun s3 h => ?_)
  refine G_aload_n C dX10_goThrough_41 rfl ?_
  refine G_iconst C dX10_goThrough_42 ?_
  refine gP_X10_2 C ly_56 rfl wf_X10_18 dX10_goThrough_43 ?_
  have h := h _ rfl
  obtain ⟨s4, e4⟩ : ∃ z, z = up s3 56 2 (-1) := ⟨_, rfl⟩
  rw [← e4] at h ⊢
  refine G_aload_n C dX10_goThrough_46 rfl ?_
  refine G_iconst C dX10_goThrough_47 ?_
  refine gP_X10_3 C ly_56 rfl wf_X10_22 dX10_goThrough_48 ?_
  have h := h _ rfl
  obtain ⟨s5, e5⟩ : ∃ z, z = up s4 56 3 0 := ⟨_, rfl⟩
  rw [← e5] at h ⊢
  refine G_aload_n C dX10_goThrough_51 rfl ?_
  refine G_iconst C dX10_goThrough_52 ?_
  refine gP_X10_4 C ly_56 rfl wf_X10_25 dX10_goThrough_53 ?_
  have h := h _ rfl
  obtain ⟨s6, e6⟩ : ∃ z, z = up s5 56 4 0 := ⟨_, rfl⟩
  rw [← e6] at h ⊢
  refine G_iconst C dX10_goThrough_56 ?_
  refine G_istore (L' := [rv 56, rv 3, rv 46, rv 52, iv (s 5 0), iv 0, none]) C dX10_goThrough_57 (by decide) rfl ?_
  exact h
set_option maxRecDepth 20000 in
theorem kb_X10_goThrough_59 {X : Cx} {d : Nat} {P : Sto → Prop} (C : Ok LY X RX10 cX10_goThrough 7 d) (r : RetV LY X cX10_goThrough P) (h1d : 1 ≤ d) {v4 v5 : Int} {s : Sto} (h : ((rg v5) ∧ ((40 ≤ v5 → P s) ∧ (v5 < 40 → ((((0 : Int) ≤ 0 ∧ (0 : Int) ≤ (v5 * 20) ∧ (0 : Int) ≤ v4) ∧ 0 + v4 ≤ ((20 : Nat) : Int) ∧ (v5 * 20) + v4 ≤ ((800 : Nat) : Int)) ∧ (∀ s1 : Sto, s1 = cpy s 57 58 0 (v5 * 20) v4 → (CallV LY d MX10_goRound [.inr 56, .inr 3, .inr 46, .inr 52] s1 (fun s2 => ((rg (s2 56 4) ∧ rg (s1 56 4)) ∧ (((s2 56 4) ≠ (s1 56 4) → (CallI LY d MX10_roundsSinceSame [.inr 56, .inl v5, .inl v4] s2 (fun r3 s3 => (∀ s4 : Sto, s4 = up s3 56 3 r3 → ((rg (s4 56 3)) ∧ (((s4 56 3) ≤ 0 → G LY X 59 [rv 56, rv 3, rv 46, rv 52, iv v4, iv (v5 + 1), none] [] s4) ∧ (0 < (s4 56 3) → P s4))))))) ∧ ((s2 56 4) = (s1 56 4) → (∀ s5 : Sto, s5 = up s2 56 2 v5 → P s5)))))))))))) : G LY X 59 [rv 56, rv 3, rv 46, rv 52, iv v4, iv v5, none] [] s := by
  refine G_iload C dX10_goThrough_59 rfl ?_
  refine G_bipush C dX10_goThrough_61 bi_40 ?_
  refine G_icmp_ge (tgt := 140) C dX10_goThrough_63 (by decide) ⟨h.1, (by decide)⟩ (fun q => ?_) (fun q => ?_)
  · have h := h.2.1 q
    exact r _ _ _ dX10_goThrough_140 h
  · have h := h.2.2 q
    refine G_aload_n C dX10_goThrough_66 rfl ?_
    refine gR_X10_0 C ly_56 rfl wf_X10_9 dX10_goThrough_67 ?_
    refine G_iconst C dX10_goThrough_70 ?_
    refine G_aload_n C dX10_goThrough_71 rfl ?_
    refine gR_X10_1 C ly_56 rfl wf_X10_15 dX10_goThrough_72 ?_
    refine G_iload C dX10_goThrough_75 rfl ?_
    refine G_bipush C dX10_goThrough_77 bi_20 ?_
    refine G_imul C dX10_goThrough_79 ?_
    refine G_iload C dX10_goThrough_80 rfl ?_
    refine G_copy C ly_57 ly_58 (by decide) h.1 h1d (Nat.le_of_ble_eq_true rfl) ws_924 arw dX10_goThrough_82 ?_
    have h := h.2
    have h := h _ rfl
    obtain ⟨s1, e1⟩ : ∃ z, z = cpy s 57 58 0 (v5 * 20) v4 := ⟨_, rfl⟩
    rw [← e1] at h ⊢
    refine G_aload_n C dX10_goThrough_85 rfl ?_
    refine gI_X10_4 C ly_56 rfl wf_X10_25 dX10_goThrough_86 ?_
    refine G_istore (L' := [rv 56, rv 3, rv 46, rv 52, iv v4, iv v5, iv (s1 56 4)]) C dX10_goThrough_89 (by decide) rfl ?_
    refine G_aload_n C dX10_goThrough_91 rfl ?_
    refine G_aload_n C dX10_goThrough_92 rfl ?_
    refine G_aload_n C dX10_goThrough_93 rfl ?_
    refine G_aload_n C dX10_goThrough_94 rfl ?_
    refine G_callVV (K := []) (args := [.inr 3, .inr 46, .inr 52]) (T := TX10) (N := 5) C ly_56 rfl (Nat.le_of_ble_eq_true rfl) mo_X10_goRound wc_X10_59 rfl dX10_goThrough_95 h (fun s2 h => ?_)
    refine G_aload_n C dX10_goThrough_98 rfl ?_
    refine gI_X10_4 C ly_56 rfl wf_X10_25 dX10_goThrough_99 ?_
    refine G_iload C dX10_goThrough_102 rfl ?_
    refine G_icmp_ne (tgt := 114) C dX10_goThrough_104 (by decide) ⟨h.1.1, h.1.2⟩ (fun q => ?_) (fun q => ?_)
    · have h := h.2.1 q
      refine G_aload_n C dX10_goThrough_114 rfl ?_
      refine G_aload_n C dX10_goThrough_115 rfl ?_
      refine G_iload C dX10_goThrough_116 rfl ?_
      refine G_iload C dX10_goThrough_118 rfl ?_
      refine G_callVI (K := [.inr 56]) (args := [.inl v5, .inl v4]) (T := TX10) (N := 5) C ly_56 rfl (Nat.le_of_ble_eq_true rfl) mo_X10_roundsSinceSame wc_X10_63 rfl dX10_goThrough_120 h (fun r3 s3 h => ?_)
      refine gP_X10_3 C ly_56 rfl wf_X10_22 dX10_goThrough_123 ?_
      have h := h _ rfl
      obtain ⟨s4, e4⟩ : ∃ z, z = up s3 56 3 r3 := ⟨_, rfl⟩
      rw [← e4] at h ⊢
      refine G_aload_n C dX10_goThrough_126 rfl ?_
      refine gI_X10_3 C ly_56 rfl wf_X10_22 dX10_goThrough_127 ?_
      refine G_if_le (tgt := 134) C dX10_goThrough_130 (by decide) h.1 (fun q => ?_) (fun q => ?_)
      · have h := h.2.1 q
        refine G_iinc (L' := [rv 56, rv 3, rv 46, rv 52, iv v4, iv (v5 + 1), iv (s1 56 4)]) C dX10_goThrough_134 (by decide) rfl rfl ?_
        refine G_goto (tgt := 59) C dX10_goThrough_137 (by decide) ?_
        refine G_drop (i := 6) (L' := [rv 56, rv 3, rv 46, rv 52, iv v4, iv (v5 + 1), none]) rfl ?_
        exact h
      · have h := h.2.2 q
        exact r _ _ _ dX10_goThrough_133 h
    · have h := h.2.2 q
      refine G_aload_n C dX10_goThrough_107 rfl ?_
      refine G_iload C dX10_goThrough_108 rfl ?_
      refine gP_X10_2 C ly_56 rfl wf_X10_18 dX10_goThrough_110 ?_
      have h := h _ rfl
      obtain ⟨s5, e5⟩ : ∃ z, z = up s2 56 2 v5 := ⟨_, rfl⟩
      rw [← e5] at h ⊢
      exact r _ _ _ dX10_goThrough_113 h
set_option maxRecDepth 20000 in
theorem kb_X11_partnerOf_0 {X : Cx} {d : Nat} {P : Int → Sto → Prop} (C : Ok LY X RX11 cX11_partnerOf 4 d) (r : RetI LY X cX11_partnerOf P) {v1 : Int} {s : Sto} (h : (CallI LY d MX11_betterOnes [.inr 0, .inl v1] s (fun r1 s1 => G LY X 8 [rv 0, iv v1, iv r1, iv 0] [] s1))) : G LY X 0 [rv 0, iv v1, none, none] [] s := by
  refine G_aload_n C dX11_partnerOf_0 rfl ?_
  refine G_iload_n C dX11_partnerOf_1 rfl ?_
  refine G_callVI (K := []) (args := [.inl v1]) (T := TX11) (N := 10) C ly_0 rfl (Nat.le_of_ble_eq_true rfl) mo_X11_betterOnes wc_X11_242 rfl dX11_partnerOf_2 h (fun r1 s1 h => ?_)
  refine G_istore_n (L' := [rv 0, iv v1, iv r1, none]) C dX11_partnerOf_5 (by decide) rfl ?_
  refine G_iconst C dX11_partnerOf_6 ?_
  refine G_istore_n (L' := [rv 0, iv v1, iv r1, iv 0]) C dX11_partnerOf_7 (by decide) rfl ?_
  exact h
set_option maxRecDepth 20000 in
theorem kb_X11_partnerOf_8 {X : Cx} {d : Nat} {P : Int → Sto → Prop} (C : Ok LY X RX11 cX11_partnerOf 4 d) (r : RetI LY X cX11_partnerOf P) {v1 v2 v3 : Int} {s : Sto} (h : ((rg v3 ∧ rg (s 5 0)) ∧ (((s 5 0) ≤ v3 → P (-1) s) ∧ (v3 < (s 5 0) → ((0 ≤ v3 ∧ v3 < 20) ∧ ((0 ≤ v1 ∧ v1 < 20) ∧ ((rg (s 7 v3) ∧ rg (s 7 v1)) ∧ (((s 7 v3) = (s 7 v1) → G LY X 8 [rv 0, iv v1, iv v2, iv (v3 + 1)] [] s) ∧ ((s 7 v3) ≠ (s 7 v1) → (CallI LY d MX11_betterOnes [.inr 0, .inl v3] s (fun r1 s1 => ((rg r1 ∧ rg v2) ∧ ((r1 ≠ v2 → G LY X 8 [rv 0, iv v1, iv v2, iv (v3 + 1)] [] s1) ∧ (r1 = v2 → P v3 s1)))))))))))))) : G LY X 8 [rv 0, iv v1, iv v2, iv v3] [] s := by
  refine G_iload_n C dX11_partnerOf_8 rfl ?_
  refine G_aload_n C dX11_partnerOf_9 rfl ?_
  refine gR_X11_1 C ly_0 rfl wf_X11_19 dX11_partnerOf_10 ?_
  refine gR_X2_5 C ly_3 rfl wf_X11_116 dX11_partnerOf_13 ?_
  refine gI_X6_0 C ly_5 rfl wf_X11_245 dX11_partnerOf_16 ?_
  refine G_icmp_ge (tgt := 66) C dX11_partnerOf_19 (by decide) ⟨h.1.1, h.1.2⟩ (fun q => ?_) (fun q => ?_)
  · have h := h.2.1 q
    refine G_iconst C dX11_partnerOf_66 ?_
    exact r _ _ _ _ dX11_partnerOf_67 h
  · have h := h.2.2 q
    refine G_aload_n C dX11_partnerOf_22 rfl ?_
    refine gR_X11_1 C ly_0 rfl wf_X11_19 dX11_partnerOf_23 ?_
    refine gR_X2_5 C ly_3 rfl wf_X11_116 dX11_partnerOf_26 ?_
    refine gR_X6_2 C ly_5 rfl wf_X11_162 dX11_partnerOf_29 ?_
    refine G_iload_n C dX11_partnerOf_32 rfl ?_
    refine G_iald C ly_7 (by decide) h.1 dX11_partnerOf_33 ?_
    have h := h.2
    refine G_aload_n C dX11_partnerOf_34 rfl ?_
    refine gR_X11_1 C ly_0 rfl wf_X11_19 dX11_partnerOf_35 ?_
    refine gR_X2_5 C ly_3 rfl wf_X11_116 dX11_partnerOf_38 ?_
    refine gR_X6_2 C ly_5 rfl wf_X11_162 dX11_partnerOf_41 ?_
    refine G_iload_n C dX11_partnerOf_44 rfl ?_
    refine G_iald C ly_7 (by decide) h.1 dX11_partnerOf_45 ?_
    have h := h.2
    refine G_icmp_eq (tgt := 60) C dX11_partnerOf_46 (by decide) ⟨h.1.1, h.1.2⟩ (fun q => ?_) (fun q => ?_)
    · have h := h.2.1 q
      refine G_iinc (L' := [rv 0, iv v1, iv v2, iv (v3 + 1)]) C dX11_partnerOf_60 (by decide) rfl rfl ?_
      refine G_goto (tgt := 8) C dX11_partnerOf_63 (by decide) ?_
      exact h
    · have h := h.2.2 q
      refine G_aload_n C dX11_partnerOf_49 rfl ?_
      refine G_iload_n C dX11_partnerOf_50 rfl ?_
      refine G_callVI (K := []) (args := [.inl v3]) (T := TX11) (N := 10) C ly_0 rfl (Nat.le_of_ble_eq_true rfl) mo_X11_betterOnes wc_X11_242 rfl dX11_partnerOf_51 h (fun r1 s1 h => ?_)
      refine G_iload_n C dX11_partnerOf_54 rfl ?_
      refine G_icmp_ne (tgt := 60) C dX11_partnerOf_55 (by decide) ⟨h.1.1, h.1.2⟩ (fun q => ?_) (fun q => ?_)
      · have h := h.2.1 q
        refine G_iinc (L' := [rv 0, iv v1, iv v2, iv (v3 + 1)]) C dX11_partnerOf_60 (by decide) rfl rfl ?_
        refine G_goto (tgt := 8) C dX11_partnerOf_63 (by decide) ?_
        exact h
      · have h := h.2.2 q
        refine G_iload_n C dX11_partnerOf_58 rfl ?_
        exact r _ _ _ _ dX11_partnerOf_59 h
set_option maxRecDepth 20000 in
theorem kb_X2_addVoter_0 {X : Cx} {d : Nat} {P : Int → Sto → Prop} (C : Ok LY X RX2 cX2_addVoter 4 d) (r : RetI LY X cX2_addVoter P) {v1 v2 v3 : Int} {s : Sto} (h : ((rg (s 3 11)) ∧ (((s 3 11) < 12 → ((0 ≤ (s 3 11) ∧ (s 3 11) < 12) ∧ (∀ s1 : Sto, s1 = up s 14 (s 3 11) v1 → ((0 ≤ (s1 3 11) ∧ (s1 3 11) < 12) ∧ (∀ s2 : Sto, s2 = up s1 15 (s1 3 11) v2 → ((0 ≤ (s2 3 11) ∧ (s2 3 11) < 12) ∧ (∀ s3 : Sto, s3 = up s2 16 (s2 3 11) v3 → (∀ s4 : Sto, s4 = up s3 3 11 ((s3 3 11) + 1) → P ((s4 3 11) - 1) s4)))))))) ∧ (12 ≤ (s 3 11) → P (-1) s)))) : G LY X 0 [rv 3, iv v1, iv v2, iv v3] [] s := by
  refine G_aload_n C dX2_addVoter_0 rfl ?_
  refine gI_X2_11 C ly_3 rfl wf_X2_79 dX2_addVoter_1 ?_
  refine G_bipush C dX2_addVoter_4 bi_12 ?_
  refine G_icmp_lt (tgt := 11) C dX2_addVoter_6 (by decide) ⟨h.1, (by decide)⟩ (fun q => ?_) (fun q => ?_)
  · have h := h.2.1 q
    refine G_aload_n C dX2_addVoter_11 rfl ?_
    refine gR_X2_12 C ly_3 rfl wf_X2_34 dX2_addVoter_12 ?_
    refine G_aload_n C dX2_addVoter_15 rfl ?_
    refine gI_X2_11 C ly_3 rfl wf_X2_79 dX2_addVoter_16 ?_
    refine G_iload_n C dX2_addVoter_19 rfl ?_
    refine G_iast C ly_14 (by decide) h.1 dX2_addVoter_20 ?_
    have h := h.2
    have h := h _ rfl
    obtain ⟨s1, e1⟩ : ∃ z, z = up s 14 (s 3 11) v1 := ⟨_, rfl⟩
    rw [← e1] at h ⊢
    refine G_aload_n C dX2_addVoter_21 rfl ?_
    refine gR_X2_13 C ly_3 rfl wf_X2_37 dX2_addVoter_22 ?_
    refine G_aload_n C dX2_addVoter_25 rfl ?_
    refine gI_X2_11 C ly_3 rfl wf_X2_79 dX2_addVoter_26 ?_
    refine G_iload_n C dX2_addVoter_29 rfl ?_
    refine G_iast C ly_15 (by decide) h.1 dX2_addVoter_30 ?_
    have h := h.2
    have h := h _ rfl
    obtain ⟨s2, e2⟩ : ∃ z, z = up s1 15 (s1 3 11) v2 := ⟨_, rfl⟩
    rw [← e2] at h ⊢
    refine G_aload_n C dX2_addVoter_31 rfl ?_
    refine gR_X2_14 C ly_3 rfl wf_X2_40 dX2_addVoter_32 ?_
    refine G_aload_n C dX2_addVoter_35 rfl ?_
    refine gI_X2_11 C ly_3 rfl wf_X2_79 dX2_addVoter_36 ?_
    refine G_iload_n C dX2_addVoter_39 rfl ?_
    refine G_iast C ly_16 (by decide) h.1 dX2_addVoter_40 ?_
    have h := h.2
    have h := h _ rfl
    obtain ⟨s3, e3⟩ : ∃ z, z = up s2 16 (s2 3 11) v3 := ⟨_, rfl⟩
    rw [← e3] at h ⊢
    refine G_aload_n C dX2_addVoter_41 rfl ?_
    refine G_dup C dX2_addVoter_42 ?_
    refine gI_X2_11 C ly_3 rfl wf_X2_79 dX2_addVoter_43 ?_
    refine G_iconst C dX2_addVoter_46 ?_
    refine G_iadd C dX2_addVoter_47 ?_
    refine gP_X2_11 C ly_3 rfl wf_X2_79 dX2_addVoter_48 ?_
    have h := h _ rfl
    obtain ⟨s4, e4⟩ : ∃ z, z = up s3 3 11 ((s3 3 11) + 1) := ⟨_, rfl⟩
    rw [← e4] at h ⊢
    refine G_aload_n C dX2_addVoter_51 rfl ?_
    refine gI_X2_11 C ly_3 rfl wf_X2_79 dX2_addVoter_52 ?_
    refine G_iconst C dX2_addVoter_55 ?_
    refine G_isub C dX2_addVoter_56 ?_
    exact r _ _ _ _ dX2_addVoter_57 h
  · have h := h.2.2 q
    refine G_iconst C dX2_addVoter_9 ?_
    exact r _ _ _ _ dX2_addVoter_10 h
set_option maxRecDepth 20000 in
theorem kb_X11_areTwoLetters_0 {X : Cx} {d : Nat} {P : Int → Sto → Prop} (C : Ok LY X RX11 cX11_areTwoLetters 3 d) (r : RetZ LY X cX11_areTwoLetters P) {v1 v2 : Int} {s : Sto} (h : ((rg v1) ∧ ((v1 < 0 → P 0 s) ∧ (0 ≤ v1 → ((rg v1 ∧ rg (s 3 0)) ∧ (((s 3 0) ≤ v1 → P 0 s) ∧ (v1 < (s 3 0) → ((rg v2) ∧ ((v2 < 0 → P 0 s) ∧ (0 ≤ v2 → ((rg v2 ∧ rg (s 3 0)) ∧ (((s 3 0) ≤ v2 → P 0 s) ∧ (v2 < (s 3 0) → ((rg v1 ∧ rg v2) ∧ ((v1 = v2 → P 0 s) ∧ (v1 ≠ v2 → P 1 s)))))))))))))))) : G LY X 0 [rv 0, iv v1, iv v2] [] s := by
  refine G_iload_n C dX11_areTwoLetters_0 rfl ?_
  refine G_if_lt (tgt := 39) C dX11_areTwoLetters_1 (by decide) h.1 (fun q => ?_) (fun q => ?_)
  · have h := h.2.1 q
    refine G_iconst C dX11_areTwoLetters_39 ?_
    exact r _ _ _ _ dX11_areTwoLetters_40 (by decide) h
  · have h := h.2.2 q
    refine G_iload_n C dX11_areTwoLetters_4 rfl ?_
    refine G_aload_n C dX11_areTwoLetters_5 rfl ?_
    refine gR_X11_1 C ly_0 rfl wf_X11_19 dX11_areTwoLetters_6 ?_
    refine gI_X2_0 C ly_3 rfl wf_X11_133 dX11_areTwoLetters_9 ?_
    refine G_icmp_ge (tgt := 39) C dX11_areTwoLetters_12 (by decide) ⟨h.1.1, h.1.2⟩ (fun q => ?_) (fun q => ?_)
    · have h := h.2.1 q
      refine G_iconst C dX11_areTwoLetters_39 ?_
      exact r _ _ _ _ dX11_areTwoLetters_40 (by decide) h
    · have h := h.2.2 q
      refine G_iload_n C dX11_areTwoLetters_15 rfl ?_
      refine G_if_lt (tgt := 39) C dX11_areTwoLetters_16 (by decide) h.1 (fun q => ?_) (fun q => ?_)
      · have h := h.2.1 q
        refine G_iconst C dX11_areTwoLetters_39 ?_
        exact r _ _ _ _ dX11_areTwoLetters_40 (by decide) h
      · have h := h.2.2 q
        refine G_iload_n C dX11_areTwoLetters_19 rfl ?_
        refine G_aload_n C dX11_areTwoLetters_20 rfl ?_
        refine gR_X11_1 C ly_0 rfl wf_X11_19 dX11_areTwoLetters_21 ?_
        refine gI_X2_0 C ly_3 rfl wf_X11_133 dX11_areTwoLetters_24 ?_
        refine G_icmp_ge (tgt := 39) C dX11_areTwoLetters_27 (by decide) ⟨h.1.1, h.1.2⟩ (fun q => ?_) (fun q => ?_)
        · have h := h.2.1 q
          refine G_iconst C dX11_areTwoLetters_39 ?_
          exact r _ _ _ _ dX11_areTwoLetters_40 (by decide) h
        · have h := h.2.2 q
          refine G_iload_n C dX11_areTwoLetters_30 rfl ?_
          refine G_iload_n C dX11_areTwoLetters_31 rfl ?_
          refine G_icmp_eq (tgt := 39) C dX11_areTwoLetters_32 (by decide) ⟨h.1.1, h.1.2⟩ (fun q => ?_) (fun q => ?_)
          · have h := h.2.1 q
            refine G_iconst C dX11_areTwoLetters_39 ?_
            exact r _ _ _ _ dX11_areTwoLetters_40 (by decide) h
          · have h := h.2.2 q
            refine G_iconst C dX11_areTwoLetters_35 ?_
            refine G_goto (tgt := 40) C dX11_areTwoLetters_36 (by decide) ?_
            exact r _ _ _ _ dX11_areTwoLetters_40 (by decide) h
set_option maxRecDepth 20000 in
theorem kb_X0_count_0 {X : Cx} {d : Nat} {P : Sto → Prop} (C : Ok LY X RX0 cX0_count 7 d) (r : RetV LY X cX0_count P) {s : Sto} (h : G LY X 2 [rv 59, rv 3, iv 0, none, none, none, none] [] s) : G LY X 0 [rv 59, rv 3, none, none, none, none, none] [] s := by
  refine G_iconst C dX0_count_0 ?_
  refine G_istore_n (L' := [rv 59, rv 3, iv 0, none, none, none, none]) C dX0_count_1 (by decide) rfl ?_
  exact h
set_option maxRecDepth 20000 in
theorem kb_X0_count_2 {X : Cx} {d : Nat} {P : Sto → Prop} (C : Ok LY X RX0 cX0_count 7 d) (r : RetV LY X cX0_count P) {v2 : Int} {s : Sto} (h : ((rg v2) ∧ ((64 ≤ v2 → G LY X 26 [rv 59, rv 3, iv 0, none, none, none, none] [] s) ∧ (v2 < 64 → ((0 ≤ v2 ∧ v2 < 64) ∧ (∀ s1 : Sto, s1 = up s 60 v2 0 → G LY X 2 [rv 59, rv 3, iv (v2 + 1), none, none, none, none] [] s1)))))) : G LY X 2 [rv 59, rv 3, iv v2, none, none, none, none] [] s := by
  refine G_iload_n C dX0_count_2 rfl ?_
  refine G_aload_n C dX0_count_3 rfl ?_
  refine gR_X0_0 C ly_59 rfl wf_X0_9 dX0_count_4 ?_
  refine G_alen C ly_60 dX0_count_7 ?_
  refine G_top (b := 64) rfl ?_
  refine G_icmp_ge (tgt := 24) C dX0_count_8 (by decide) ⟨h.1, (by decide)⟩ (fun q => ?_) (fun q => ?_)
  · have h := h.2.1 q
    refine G_iconst C dX0_count_24 ?_
    refine G_istore_n (L' := [rv 59, rv 3, iv 0, none, none, none, none]) C dX0_count_25 (by decide) rfl ?_
    exact h
  · have h := h.2.2 q
    refine G_aload_n C dX0_count_11 rfl ?_
    refine gR_X0_0 C ly_59 rfl wf_X0_9 dX0_count_12 ?_
    refine G_iload_n C dX0_count_15 rfl ?_
    refine G_iconst C dX0_count_16 ?_
    refine G_iast C ly_60 (by decide) h.1 dX0_count_17 ?_
    have h := h.2
    have h := h _ rfl
    obtain ⟨s1, e1⟩ : ∃ z, z = up s 60 v2 0 := ⟨_, rfl⟩
    rw [← e1] at h ⊢
    refine G_iinc (L' := [rv 59, rv 3, iv (v2 + 1), none, none, none, none]) C dX0_count_18 (by decide) rfl rfl ?_
    refine G_goto (tgt := 2) C dX0_count_21 (by decide) ?_
    exact h
set_option maxRecDepth 20000 in
theorem kb_X0_count_26 {X : Cx} {d : Nat} {P : Sto → Prop} (C : Ok LY X RX0 cX0_count 7 d) (r : RetV LY X cX0_count P) {v2 : Int} {s : Sto} (h : ((rg v2 ∧ rg (s 3 11)) ∧ (((s 3 11) ≤ v2 → P s) ∧ (v2 < (s 3 11) → G LY X 36 [rv 59, rv 3, iv v2, iv 0, none, none, none] [] s)))) : G LY X 26 [rv 59, rv 3, iv v2, none, none, none, none] [] s := by
  refine G_iload_n C dX0_count_26 rfl ?_
  refine G_aload_n C dX0_count_27 rfl ?_
  refine gI_X2_11 C ly_3 rfl wf_X0_51 dX0_count_28 ?_
  refine G_icmp_ge (tgt := 131) C dX0_count_31 (by decide) ⟨h.1.1, h.1.2⟩ (fun q => ?_) (fun q => ?_)
  · have h := h.2.1 q
    exact r _ _ _ dX0_count_131 h
  · have h := h.2.2 q
    refine G_iconst C dX0_count_34 ?_
    refine G_istore_n (L' := [rv 59, rv 3, iv v2, iv 0, none, none, none]) C dX0_count_35 (by decide) rfl ?_
    exact h
set_option maxRecDepth 20000 in
theorem kb_X0_count_36 {X : Cx} {d : Nat} {P : Sto → Prop} (C : Ok LY X RX0 cX0_count 7 d) (r : RetV LY X cX0_count P) {v2 v3 : Int} {s : Sto} (h : ((rg v3 ∧ rg (s 3 0)) ∧ (((s 3 0) ≤ v3 → G LY X 26 [rv 59, rv 3, iv (v2 + 1), none, none, none, none] [] s) ∧ (v3 < (s 3 0) → ((0 ≤ v2 ∧ v2 < 12) ∧ (CallI LY d MX5_orderLetter [.inl (s 14 v2), .inl (s 3 0), .inl v3] s (fun r1 s1 => G LY X 65 [rv 59, rv 3, iv v2, iv v3, iv r1, iv (v3 + 1), none] [] s1))))))) : G LY X 36 [rv 59, rv 3, iv v2, iv v3, none, none, none] [] s := by
  refine G_iload_n C dX0_count_36 rfl ?_
  refine G_aload_n C dX0_count_37 rfl ?_
  refine gI_X2_0 C ly_3 rfl wf_X0_56 dX0_count_38 ?_
  refine G_icmp_ge (tgt := 125) C dX0_count_41 (by decide) ⟨h.1.1, h.1.2⟩ (fun q => ?_) (fun q => ?_)
  · have h := h.2.1 q
    refine G_iinc (L' := [rv 59, rv 3, iv (v2 + 1), iv v3, none, none, none]) C dX0_count_125 (by decide) rfl rfl ?_
    refine G_goto (tgt := 26) C dX0_count_128 (by decide) ?_
    refine G_drop (i := 3) (L' := [rv 59, rv 3, iv (v2 + 1), none, none, none, none]) rfl ?_
    exact h
  · have h := h.2.2 q
    refine G_aload_n C dX0_count_44 rfl ?_
    refine gR_X2_12 C ly_3 rfl wf_X0_59 dX0_count_45 ?_
    refine G_iload_n C dX0_count_48 rfl ?_
    refine G_iald C ly_14 (by decide) h.1 dX0_count_49 ?_
    have h := h.2
    refine G_aload_n C dX0_count_50 rfl ?_
    refine gI_X2_0 C ly_3 rfl wf_X0_56 dX0_count_51 ?_
    refine G_iload_n C dX0_count_54 rfl ?_
    refine G_callSI (K := []) (args := [.inl (s 14 v2), .inl (s 3 0), .inl v3]) C (Nat.le_of_ble_eq_true rfl) mo_X5_orderLetter wc_X0_62 rfl dX0_count_55 h (fun r1 s1 h => ?_)
    refine G_istore (L' := [rv 59, rv 3, iv v2, iv v3, iv r1, none, none]) C dX0_count_58 (by decide) rfl ?_
    refine G_iload_n C dX0_count_60 rfl ?_
    refine G_iconst C dX0_count_61 ?_
    refine G_iadd C dX0_count_62 ?_
    refine G_istore (L' := [rv 59, rv 3, iv v2, iv v3, iv r1, iv (v3 + 1), none]) C dX0_count_63 (by decide) rfl ?_
    exact h
set_option maxRecDepth 20000 in
theorem kb_X0_count_65 {X : Cx} {d : Nat} {P : Sto → Prop} (C : Ok LY X RX0 cX0_count 7 d) (r : RetV LY X cX0_count P) {v2 v3 v4 v5 : Int} {s : Sto} (h : ((rg v5 ∧ rg (s 3 0)) ∧ (((s 3 0) ≤ v5 → G LY X 36 [rv 59, rv 3, iv v2, iv (v3 + 1), none, none, none] [] s) ∧ (v5 < (s 3 0) → ((0 ≤ v2 ∧ v2 < 12) ∧ (CallI LY d MX5_orderLetter [.inl (s 14 v2), .inl (s 3 0), .inl v5] s (fun r1 s1 => ((0 ≤ ((v4 * 8) + r1) ∧ ((v4 * 8) + r1) < 64) ∧ ((0 ≤ v2 ∧ v2 < 12) ∧ ((0 ≤ ((v4 * 8) + r1) ∧ ((v4 * 8) + r1) < 64) ∧ (∀ s2 : Sto, s2 = up s1 60 ((v4 * 8) + r1) ((s1 60 ((v4 * 8) + r1)) + (s1 15 v2)) → G LY X 65 [rv 59, rv 3, iv v2, iv v3, iv v4, iv (v5 + 1), none] [] s2))))))))))) : G LY X 65 [rv 59, rv 3, iv v2, iv v3, iv v4, iv v5, none] [] s := by
  refine G_iload C dX0_count_65 rfl ?_
  refine G_aload_n C dX0_count_67 rfl ?_
  refine gI_X2_0 C ly_3 rfl wf_X0_56 dX0_count_68 ?_
  refine G_icmp_ge (tgt := 119) C dX0_count_71 (by decide) ⟨h.1.1, h.1.2⟩ (fun q => ?_) (fun q => ?_)
  · have h := h.2.1 q
    refine G_iinc (L' := [rv 59, rv 3, iv v2, iv (v3 + 1), iv v4, iv v5, none]) C dX0_count_119 (by decide) rfl rfl ?_
    refine G_goto (tgt := 36) C dX0_count_122 (by decide) ?_
    refine G_drop (i := 4) (L' := [rv 59, rv 3, iv v2, iv (v3 + 1), none, iv v5, none]) rfl ?_
    refine G_drop (i := 5) (L' := [rv 59, rv 3, iv v2, iv (v3 + 1), none, none, none]) rfl ?_
    exact h
  · have h := h.2.2 q
    refine G_aload_n C dX0_count_74 rfl ?_
    refine gR_X2_12 C ly_3 rfl wf_X0_59 dX0_count_75 ?_
    refine G_iload_n C dX0_count_78 rfl ?_
    refine G_iald C ly_14 (by decide) h.1 dX0_count_79 ?_
    have h := h.2
    refine G_aload_n C dX0_count_80 rfl ?_
    refine gI_X2_0 C ly_3 rfl wf_X0_56 dX0_count_81 ?_
    refine G_iload C dX0_count_84 rfl ?_
    refine G_callSI (K := []) (args := [.inl (s 14 v2), .inl (s 3 0), .inl v5]) C (Nat.le_of_ble_eq_true rfl) mo_X5_orderLetter wc_X0_62 rfl dX0_count_86 h (fun r1 s1 h => ?_)
    refine G_istore (L' := [rv 59, rv 3, iv v2, iv v3, iv v4, iv v5, iv r1]) C dX0_count_89 (by decide) rfl ?_
    refine G_aload_n C dX0_count_91 rfl ?_
    refine gR_X0_0 C ly_59 rfl wf_X0_9 dX0_count_92 ?_
    refine G_iload C dX0_count_95 rfl ?_
    refine G_bipush C dX0_count_97 bi_8 ?_
    refine G_imul C dX0_count_99 ?_
    refine G_iload C dX0_count_100 rfl ?_
    refine G_iadd C dX0_count_102 ?_
    refine G_dup2 C dX0_count_103 ?_
    refine G_iald C ly_60 (by decide) h.1 dX0_count_104 ?_
    have h := h.2
    refine G_aload_n C dX0_count_105 rfl ?_
    refine gR_X2_13 C ly_3 rfl wf_X0_68 dX0_count_106 ?_
    refine G_iload_n C dX0_count_109 rfl ?_
    refine G_iald C ly_15 (by decide) h.1 dX0_count_110 ?_
    have h := h.2
    refine G_iadd C dX0_count_111 ?_
    refine G_iast C ly_60 (by decide) h.1 dX0_count_112 ?_
    have h := h.2
    have h := h _ rfl
    obtain ⟨s2, e2⟩ : ∃ z, z = up s1 60 ((v4 * 8) + r1) ((s1 60 ((v4 * 8) + r1)) + (s1 15 v2)) := ⟨_, rfl⟩
    rw [← e2] at h ⊢
    refine G_iinc (L' := [rv 59, rv 3, iv v2, iv v3, iv v4, iv (v5 + 1), iv r1]) C dX0_count_113 (by decide) rfl rfl ?_
    refine G_goto (tgt := 65) C dX0_count_116 (by decide) ?_
    refine G_drop (i := 6) (L' := [rv 59, rv 3, iv v2, iv v3, iv v4, iv (v5 + 1), none]) rfl ?_
    exact h
set_option maxRecDepth 20000 in
theorem kb_X0_supportOf_0 {X : Cx} {d : Nat} {P : Int → Sto → Prop} (C : Ok LY X RX0 cX0_supportOf 3 d) (r : RetI LY X cX0_supportOf P) {v1 v2 : Int} {s : Sto} (h : ((0 ≤ ((v1 * 8) + v2) ∧ ((v1 * 8) + v2) < 64) ∧ P (s 60 ((v1 * 8) + v2)) s)) : G LY X 0 [rv 59, iv v1, iv v2] [] s := by
  refine G_aload_n C dX0_supportOf_0 rfl ?_
  refine gR_X0_0 C ly_59 rfl wf_X0_9 dX0_supportOf_1 ?_
  refine G_iload_n C dX0_supportOf_4 rfl ?_
  refine G_bipush C dX0_supportOf_5 bi_8 ?_
  refine G_imul C dX0_supportOf_7 ?_
  refine G_iload_n C dX0_supportOf_8 rfl ?_
  refine G_iadd C dX0_supportOf_9 ?_
  refine G_iald C ly_60 (by decide) h.1 dX0_supportOf_10 ?_
  have h := h.2
  exact r _ _ _ _ dX0_supportOf_11 h
set_option maxRecDepth 20000 in
theorem kb_X0_orderBy_0 {X : Cx} {d : Nat} {P : Int → Sto → Prop} (C : Ok LY X RX0 cX0_orderBy 3 d) (r : RetI LY X cX0_orderBy P) {v2 : Int} {s : Sto} (h : ((rg (s 3 11)) ∧ (((s 3 11) ≠ 0 → (CallV LY d MX0_count [.inr 59, .inr 3] s (fun s1 => ((rg v2) ∧ ((v2 ≠ 2 → (CallI LY d MX0_orderByMerit [.inr 59, .inl (s1 3 0), .inl v2] s1 (fun r2 s2 => P r2 s2))) ∧ (v2 = 2 → (CallV LY d MX0_findNearest [.inr 59, .inl (s1 3 0)] s1 (fun s3 => ((0 ≤ ((xshl 1 (s3 3 0)) - 1) ∧ ((xshl 1 (s3 3 0)) - 1) < 256) ∧ P (s3 63 ((xshl 1 (s3 3 0)) - 1)) s3))))))))) ∧ ((s 3 11) = 0 → P (s 3 2) s)))) : G LY X 0 [rv 59, rv 3, iv v2] [] s := by
  refine G_aload_n C dX0_orderBy_0 rfl ?_
  refine gI_X2_11 C ly_3 rfl wf_X0_51 dX0_orderBy_1 ?_
  refine G_if_ne (tgt := 12) C dX0_orderBy_4 (by decide) h.1 (fun q => ?_) (fun q => ?_)
  · have h := h.2.1 q
    refine G_aload_n C dX0_orderBy_12 rfl ?_
    refine G_aload_n C dX0_orderBy_13 rfl ?_
    refine G_callVV (K := []) (args := [.inr 3]) (T := TX0) (N := 11) C ly_59 rfl (Nat.le_of_ble_eq_true rfl) mo_X0_count wc_X0_74 rfl dX0_orderBy_14 h (fun s1 h => ?_)
    refine G_iload_n C dX0_orderBy_17 rfl ?_
    refine G_iconst C dX0_orderBy_18 ?_
    refine G_icmp_ne (tgt := 44) C dX0_orderBy_19 (by decide) ⟨h.1, (by decide)⟩ (fun q => ?_) (fun q => ?_)
    · have h := h.2.1 q
      refine G_aload_n C dX0_orderBy_44 rfl ?_
      refine G_aload_n C dX0_orderBy_45 rfl ?_
      refine gI_X2_0 C ly_3 rfl wf_X0_56 dX0_orderBy_46 ?_
      refine G_iload_n C dX0_orderBy_49 rfl ?_
      refine G_callVI (K := []) (args := [.inl (s1 3 0), .inl v2]) (T := TX0) (N := 11) C ly_59 rfl (Nat.le_of_ble_eq_true rfl) mo_X0_orderByMerit wc_X0_82 rfl dX0_orderBy_50 h (fun r2 s2 h => ?_)
      exact r _ _ _ _ dX0_orderBy_53 h
    · have h := h.2.2 q
      refine G_aload_n C dX0_orderBy_22 rfl ?_
      refine G_aload_n C dX0_orderBy_23 rfl ?_
      refine gI_X2_0 C ly_3 rfl wf_X0_56 dX0_orderBy_24 ?_
      refine G_callVV (K := []) (args := [.inl (s1 3 0)]) (T := TX0) (N := 11) C ly_59 rfl (Nat.le_of_ble_eq_true rfl) mo_X0_findNearest wc_X0_78 rfl dX0_orderBy_27 h (fun s3 h => ?_)
      refine G_aload_n C dX0_orderBy_30 rfl ?_
      refine gR_X0_3 C ly_59 rfl wf_X0_22 dX0_orderBy_31 ?_
      refine G_iconst C dX0_orderBy_34 ?_
      refine G_aload_n C dX0_orderBy_35 rfl ?_
      refine gI_X2_0 C ly_3 rfl wf_X0_56 dX0_orderBy_36 ?_
      refine G_ishl C dX0_orderBy_39 ?_
      refine G_iconst C dX0_orderBy_40 ?_
      refine G_isub C dX0_orderBy_41 ?_
      refine G_iald C ly_63 (by decide) h.1 dX0_orderBy_42 ?_
      have h := h.2
      exact r _ _ _ _ dX0_orderBy_43 h
  · have h := h.2.2 q
    refine G_aload_n C dX0_orderBy_7 rfl ?_
    refine gI_X2_2 C ly_3 rfl wf_X0_71 dX0_orderBy_8 ?_
    exact r _ _ _ _ dX0_orderBy_11 h
set_option maxRecDepth 20000 in
theorem kb_X5_orderLetter_0 {X : Cx} {d : Nat} {P : Int → Sto → Prop} (C : Ok LY X RX5 cX5_orderLetter 3 d) (r : RetI LY X cX5_orderLetter P) {v0 v1 v2 : Int} {s : Sto} (h : P (xand (xshr v0 (3 * ((v1 - 1) - v2))) 7) s) : G LY X 0 [iv v0, iv v1, iv v2] [] s := by
  refine G_iload_n C dX5_orderLetter_0 rfl ?_
  refine G_iconst C dX5_orderLetter_1 ?_
  refine G_iload_n C dX5_orderLetter_2 rfl ?_
  refine G_iconst C dX5_orderLetter_3 ?_
  refine G_isub C dX5_orderLetter_4 ?_
  refine G_iload_n C dX5_orderLetter_5 rfl ?_
  refine G_isub C dX5_orderLetter_6 ?_
  refine G_imul C dX5_orderLetter_7 ?_
  refine G_ishr C dX5_orderLetter_8 ?_
  refine G_bipush C dX5_orderLetter_9 bi_7 ?_
  refine G_iand C dX5_orderLetter_11 ?_
  exact r _ _ _ _ dX5_orderLetter_12 h
set_option maxRecDepth 20000 in
theorem kb_X0_lettersInCircles_0 {X : Cx} {d : Nat} {P : Int → Sto → Prop} (C : Ok LY X RX0 cX0_lettersInCircles 5 d) (r : RetI LY X cX0_lettersInCircles P) {v1 : Int} {s : Sto} (h : G LY X 2 [rv 59, iv v1, iv 0, none, none] [] s) : G LY X 0 [rv 59, iv v1, none, none, none] [] s := by
  refine G_iconst C dX0_lettersInCircles_0 ?_
  refine G_istore_n (L' := [rv 59, iv v1, iv 0, none, none]) C dX0_lettersInCircles_1 (by decide) rfl ?_
  exact h
set_option maxRecDepth 20000 in
theorem kb_X0_lettersInCircles_2 {X : Cx} {d : Nat} {P : Int → Sto → Prop} (C : Ok LY X RX0 cX0_lettersInCircles 5 d) (r : RetI LY X cX0_lettersInCircles P) {v1 v2 : Int} {s : Sto} (h : ((rg v2 ∧ rg v1) ∧ ((v1 ≤ v2 → G LY X 45 [rv 59, iv v1, iv 0, none, none] [] s) ∧ (v2 < v1 → G LY X 9 [rv 59, iv v1, iv v2, iv 0, none] [] s)))) : G LY X 2 [rv 59, iv v1, iv v2, none, none] [] s := by
  refine G_iload_n C dX0_lettersInCircles_2 rfl ?_
  refine G_iload_n C dX0_lettersInCircles_3 rfl ?_
  refine G_icmp_ge (tgt := 43) C dX0_lettersInCircles_4 (by decide) ⟨h.1.1, h.1.2⟩ (fun q => ?_) (fun q => ?_)
  · have h := h.2.1 q
    refine G_iconst C dX0_lettersInCircles_43 ?_
    refine G_istore_n (L' := [rv 59, iv v1, iv 0, none, none]) C dX0_lettersInCircles_44 (by decide) rfl ?_
    exact h
  · have h := h.2.2 q
    refine G_iconst C dX0_lettersInCircles_7 ?_
    refine G_istore_n (L' := [rv 59, iv v1, iv v2, iv 0, none]) C dX0_lettersInCircles_8 (by decide) rfl ?_
    exact h
set_option maxRecDepth 20000 in
theorem kb_X0_lettersInCircles_9 {X : Cx} {d : Nat} {P : Int → Sto → Prop} (C : Ok LY X RX0 cX0_lettersInCircles 5 d) (r : RetI LY X cX0_lettersInCircles P) {v1 v2 v3 : Int} {s : Sto} (h : ((rg v3 ∧ rg v1) ∧ ((v1 ≤ v3 → G LY X 2 [rv 59, iv v1, iv (v2 + 1), none, none] [] s) ∧ (v3 < v1 → (CallI LY d MX0_beats [.inr 59, .inl v2, .inl v3] s (fun r1 s1 => ((0 ≤ ((v2 * 8) + v3) ∧ ((v2 * 8) + v3) < 64) ∧ ((r1 = 0 ∨ r1 = 1) ∧ (∀ s2 : Sto, s2 = up s1 61 ((v2 * 8) + v3) r1 → G LY X 9 [rv 59, iv v1, iv v2, iv (v3 + 1), none] [] s2))))))))) : G LY X 9 [rv 59, iv v1, iv v2, iv v3, none] [] s := by
  refine G_iload_n C dX0_lettersInCircles_9 rfl ?_
  refine G_iload_n C dX0_lettersInCircles_10 rfl ?_
  refine G_icmp_ge (tgt := 37) C dX0_lettersInCircles_11 (by decide) ⟨h.1.1, h.1.2⟩ (fun q => ?_) (fun q => ?_)
  · have h := h.2.1 q
    refine G_iinc (L' := [rv 59, iv v1, iv (v2 + 1), iv v3, none]) C dX0_lettersInCircles_37 (by decide) rfl rfl ?_
    refine G_goto (tgt := 2) C dX0_lettersInCircles_40 (by decide) ?_
    refine G_drop (i := 3) (L' := [rv 59, iv v1, iv (v2 + 1), none, none]) rfl ?_
    exact h
  · have h := h.2.2 q
    refine G_aload_n C dX0_lettersInCircles_14 rfl ?_
    refine gR_X0_1 C ly_59 rfl wf_X0_15 dX0_lettersInCircles_15 ?_
    refine G_iload_n C dX0_lettersInCircles_18 rfl ?_
    refine G_bipush C dX0_lettersInCircles_19 bi_8 ?_
    refine G_imul C dX0_lettersInCircles_21 ?_
    refine G_iload_n C dX0_lettersInCircles_22 rfl ?_
    refine G_iadd C dX0_lettersInCircles_23 ?_
    refine G_aload_n C dX0_lettersInCircles_24 rfl ?_
    refine G_iload_n C dX0_lettersInCircles_25 rfl ?_
    refine G_iload_n C dX0_lettersInCircles_26 rfl ?_
    refine G_callVI (K := [.inl ((v2 * 8) + v3), .inr 61]) (args := [.inl v2, .inl v3]) (T := TX0) (N := 11) C ly_59 rfl (Nat.le_of_ble_eq_true rfl) mo_X0_beats wc_X0_92 rfl dX0_lettersInCircles_27 h (fun r1 s1 h => ?_)
    refine G_zast C ly_61 (by decide) h.1 (h.2.1) dX0_lettersInCircles_30 ?_
    have h := h.2.2
    have h := h _ rfl
    obtain ⟨s2, e2⟩ : ∃ z, z = up s1 61 ((v2 * 8) + v3) r1 := ⟨_, rfl⟩
    rw [← e2] at h ⊢
    refine G_iinc (L' := [rv 59, iv v1, iv v2, iv (v3 + 1), none]) C dX0_lettersInCircles_31 (by decide) rfl rfl ?_
    refine G_goto (tgt := 9) C dX0_lettersInCircles_34 (by decide) ?_
    exact h
set_option maxRecDepth 20000 in
theorem kb_X0_lettersInCircles_45 {X : Cx} {d : Nat} {P : Int → Sto → Prop} (C : Ok LY X RX0 cX0_lettersInCircles 5 d) (r : RetI LY X cX0_lettersInCircles P) {v1 v2 : Int} {s : Sto} (h : ((rg v2 ∧ rg v1) ∧ ((v1 ≤ v2 → G LY X 137 [rv 59, iv v1, iv 0, iv 0, none] [] s) ∧ (v2 < v1 → G LY X 52 [rv 59, iv v1, iv v2, iv 0, none] [] s)))) : G LY X 45 [rv 59, iv v1, iv v2, none, none] [] s := by
  refine G_iload_n C dX0_lettersInCircles_45 rfl ?_
  refine G_iload_n C dX0_lettersInCircles_46 rfl ?_
  refine G_icmp_ge (tgt := 133) C dX0_lettersInCircles_47 (by decide) ⟨h.1.1, h.1.2⟩ (fun q => ?_) (fun q => ?_)
  · have h := h.2.1 q
    refine G_iconst C dX0_lettersInCircles_133 ?_
    refine G_istore_n (L' := [rv 59, iv v1, iv 0, none, none]) C dX0_lettersInCircles_134 (by decide) rfl ?_
    refine G_iconst C dX0_lettersInCircles_135 ?_
    refine G_istore_n (L' := [rv 59, iv v1, iv 0, iv 0, none]) C dX0_lettersInCircles_136 (by decide) rfl ?_
    exact h
  · have h := h.2.2 q
    refine G_iconst C dX0_lettersInCircles_50 ?_
    refine G_istore_n (L' := [rv 59, iv v1, iv v2, iv 0, none]) C dX0_lettersInCircles_51 (by decide) rfl ?_
    exact h
set_option maxRecDepth 20000 in
theorem kb_X0_lettersInCircles_52 {X : Cx} {d : Nat} {P : Int → Sto → Prop} (C : Ok LY X RX0 cX0_lettersInCircles 5 d) (r : RetI LY X cX0_lettersInCircles P) {v1 v2 v3 : Int} {s : Sto} (h : ((rg v3 ∧ rg v1) ∧ ((v1 ≤ v3 → G LY X 45 [rv 59, iv v1, iv (v2 + 1), none, none] [] s) ∧ (v3 < v1 → G LY X 60 [rv 59, iv v1, iv v2, iv v3, iv 0] [] s)))) : G LY X 52 [rv 59, iv v1, iv v2, iv v3, none] [] s := by
  refine G_iload_n C dX0_lettersInCircles_52 rfl ?_
  refine G_iload_n C dX0_lettersInCircles_53 rfl ?_
  refine G_icmp_ge (tgt := 127) C dX0_lettersInCircles_54 (by decide) ⟨h.1.1, h.1.2⟩ (fun q => ?_) (fun q => ?_)
  · have h := h.2.1 q
    refine G_iinc (L' := [rv 59, iv v1, iv (v2 + 1), iv v3, none]) C dX0_lettersInCircles_127 (by decide) rfl rfl ?_
    refine G_goto (tgt := 45) C dX0_lettersInCircles_130 (by decide) ?_
    refine G_drop (i := 3) (L' := [rv 59, iv v1, iv (v2 + 1), none, none]) rfl ?_
    exact h
  · have h := h.2.2 q
    refine G_iconst C dX0_lettersInCircles_57 ?_
    refine G_istore (L' := [rv 59, iv v1, iv v2, iv v3, iv 0]) C dX0_lettersInCircles_58 (by decide) rfl ?_
    exact h
set_option maxRecDepth 20000 in
theorem kb_X0_lettersInCircles_60 {X : Cx} {d : Nat} {P : Int → Sto → Prop} (C : Ok LY X RX0 cX0_lettersInCircles 5 d) (r : RetI LY X cX0_lettersInCircles P) {v1 v2 v3 v4 : Int} {s : Sto} (h : ((rg v4 ∧ rg v1) ∧ ((v1 ≤ v4 → G LY X 52 [rv 59, iv v1, iv v2, iv (v3 + 1), none] [] s) ∧ (v4 < v1 → ((0 ≤ ((v3 * 8) + v4) ∧ ((v3 * 8) + v4) < 64) ∧ ((0 ≤ ((v3 * 8) + v2) ∧ ((v3 * 8) + v2) < 64) ∧ ((rg (s 61 ((v3 * 8) + v2))) ∧ (((s 61 ((v3 * 8) + v2)) = 0 → ((0 ≤ ((v3 * 8) + v4) ∧ ((v3 * 8) + v4) < 64) ∧ (((xor_ (s 61 ((v3 * 8) + v4)) 0) = 0 ∨ (xor_ (s 61 ((v3 * 8) + v4)) 0) = 1) ∧ (∀ s1 : Sto, s1 = up s 61 ((v3 * 8) + v4) (xor_ (s 61 ((v3 * 8) + v4)) 0) → G LY X 60 [rv 59, iv v1, iv v2, iv v3, iv (v4 + 1)] [] s1)))) ∧ ((s 61 ((v3 * 8) + v2)) ≠ 0 → ((0 ≤ ((v2 * 8) + v4) ∧ ((v2 * 8) + v4) < 64) ∧ ((rg (s 61 ((v2 * 8) + v4))) ∧ (((s 61 ((v2 * 8) + v4)) = 0 → ((0 ≤ ((v3 * 8) + v4) ∧ ((v3 * 8) + v4) < 64) ∧ (((xor_ (s 61 ((v3 * 8) + v4)) 0) = 0 ∨ (xor_ (s 61 ((v3 * 8) + v4)) 0) = 1) ∧ (∀ s2 : Sto, s2 = up s 61 ((v3 * 8) + v4) (xor_ (s 61 ((v3 * 8) + v4)) 0) → G LY X 60 [rv 59, iv v1, iv v2, iv v3, iv (v4 + 1)] [] s2)))) ∧ ((s 61 ((v2 * 8) + v4)) ≠ 0 → ((0 ≤ ((v3 * 8) + v4) ∧ ((v3 * 8) + v4) < 64) ∧ (((xor_ (s 61 ((v3 * 8) + v4)) 1) = 0 ∨ (xor_ (s 61 ((v3 * 8) + v4)) 1) = 1) ∧ (∀ s3 : Sto, s3 = up s 61 ((v3 * 8) + v4) (xor_ (s 61 ((v3 * 8) + v4)) 1) → G LY X 60 [rv 59, iv v1, iv v2, iv v3, iv (v4 + 1)] [] s3)))))))))))))))) : G LY X 60 [rv 59, iv v1, iv v2, iv v3, iv v4] [] s := by
  refine G_iload C dX0_lettersInCircles_60 rfl ?_
  refine G_iload_n C dX0_lettersInCircles_62 rfl ?_
  refine G_icmp_ge (tgt := 121) C dX0_lettersInCircles_63 (by decide) ⟨h.1.1, h.1.2⟩ (fun q => ?_) (fun q => ?_)
  · have h := h.2.1 q
    refine G_iinc (L' := [rv 59, iv v1, iv v2, iv (v3 + 1), iv v4]) C dX0_lettersInCircles_121 (by decide) rfl rfl ?_
    refine G_goto (tgt := 52) C dX0_lettersInCircles_124 (by decide) ?_
    refine G_drop (i := 4) (L' := [rv 59, iv v1, iv v2, iv (v3 + 1), none]) rfl ?_
    exact h
  · have h := h.2.2 q
    refine G_aload_n C dX0_lettersInCircles_66 rfl ?_
    refine gR_X0_1 C ly_59 rfl wf_X0_15 dX0_lettersInCircles_67 ?_
    refine G_iload_n C dX0_lettersInCircles_70 rfl ?_
    refine G_bipush C dX0_lettersInCircles_71 bi_8 ?_
    refine G_imul C dX0_lettersInCircles_73 ?_
    refine G_iload C dX0_lettersInCircles_74 rfl ?_
    refine G_iadd C dX0_lettersInCircles_76 ?_
    refine G_dup2 C dX0_lettersInCircles_77 ?_
    refine G_zald C ly_61 (by decide) h.1 dX0_lettersInCircles_78 ?_
    have h := h.2
    refine G_aload_n C dX0_lettersInCircles_79 rfl ?_
    refine gR_X0_1 C ly_59 rfl wf_X0_15 dX0_lettersInCircles_80 ?_
    refine G_iload_n C dX0_lettersInCircles_83 rfl ?_
    refine G_bipush C dX0_lettersInCircles_84 bi_8 ?_
    refine G_imul C dX0_lettersInCircles_86 ?_
    refine G_iload_n C dX0_lettersInCircles_87 rfl ?_
    refine G_iadd C dX0_lettersInCircles_88 ?_
    refine G_zald C ly_61 (by decide) h.1 dX0_lettersInCircles_89 ?_
    have h := h.2
    refine G_if_eq (tgt := 112) C dX0_lettersInCircles_90 (by decide) h.1 (fun q => ?_) (fun q => ?_)
    · have h := h.2.1 q
      refine G_iconst C dX0_lettersInCircles_112 ?_
      refine G_ior C dX0_lettersInCircles_113 ?_
      refine G_zast C ly_61 (by decide) h.1 (h.2.1) dX0_lettersInCircles_114 ?_
      have h := h.2.2
      have h := h _ rfl
      obtain ⟨s1, e1⟩ : ∃ z, z = up s 61 ((v3 * 8) + v4) (xor_ (s 61 ((v3 * 8) + v4)) 0) := ⟨_, rfl⟩
      rw [← e1] at h ⊢
      refine G_iinc (L' := [rv 59, iv v1, iv v2, iv v3, iv (v4 + 1)]) C dX0_lettersInCircles_115 (by decide) rfl rfl ?_
      refine G_goto (tgt := 60) C dX0_lettersInCircles_118 (by decide) ?_
      exact h
    · have h := h.2.2 q
      refine G_aload_n C dX0_lettersInCircles_93 rfl ?_
      refine gR_X0_1 C ly_59 rfl wf_X0_15 dX0_lettersInCircles_94 ?_
      refine G_iload_n C dX0_lettersInCircles_97 rfl ?_
      refine G_bipush C dX0_lettersInCircles_98 bi_8 ?_
      refine G_imul C dX0_lettersInCircles_100 ?_
      refine G_iload C dX0_lettersInCircles_101 rfl ?_
      refine G_iadd C dX0_lettersInCircles_103 ?_
      refine G_zald C ly_61 (by decide) h.1 dX0_lettersInCircles_104 ?_
      have h := h.2
      refine G_if_eq (tgt := 112) C dX0_lettersInCircles_105 (by decide) h.1 (fun q => ?_) (fun q => ?_)
      · have h := h.2.1 q
        refine G_iconst C dX0_lettersInCircles_112 ?_
        refine G_ior C dX0_lettersInCircles_113 ?_
        refine G_zast C ly_61 (by decide) h.1 (h.2.1) dX0_lettersInCircles_114 ?_
        have h := h.2.2
        have h := h _ rfl
        obtain ⟨s2, e2⟩ : ∃ z, z = up s 61 ((v3 * 8) + v4) (xor_ (s 61 ((v3 * 8) + v4)) 0) := ⟨_, rfl⟩
        rw [← e2] at h ⊢
        refine G_iinc (L' := [rv 59, iv v1, iv v2, iv v3, iv (v4 + 1)]) C dX0_lettersInCircles_115 (by decide) rfl rfl ?_
        refine G_goto (tgt := 60) C dX0_lettersInCircles_118 (by decide) ?_
        exact h
      · have h := h.2.2 q
        refine G_iconst C dX0_lettersInCircles_108 ?_
        refine G_goto (tgt := 113) C dX0_lettersInCircles_109 (by decide) ?_
        refine G_ior C dX0_lettersInCircles_113 ?_
        refine G_zast C ly_61 (by decide) h.1 (h.2.1) dX0_lettersInCircles_114 ?_
        have h := h.2.2
        have h := h _ rfl
        obtain ⟨s3, e3⟩ : ∃ z, z = up s 61 ((v3 * 8) + v4) (xor_ (s 61 ((v3 * 8) + v4)) 1) := ⟨_, rfl⟩
        rw [← e3] at h ⊢
        refine G_iinc (L' := [rv 59, iv v1, iv v2, iv v3, iv (v4 + 1)]) C dX0_lettersInCircles_115 (by decide) rfl rfl ?_
        refine G_goto (tgt := 60) C dX0_lettersInCircles_118 (by decide) ?_
        exact h
set_option maxRecDepth 20000 in
theorem kb_X0_lettersInCircles_137 {X : Cx} {d : Nat} {P : Int → Sto → Prop} (C : Ok LY X RX0 cX0_lettersInCircles 5 d) (r : RetI LY X cX0_lettersInCircles P) {v1 v2 v3 : Int} {s : Sto} (h : ((rg v3 ∧ rg v1) ∧ ((v1 ≤ v3 → P v2 s) ∧ (v3 < v1 → ((0 ≤ ((v3 * 8) + v3) ∧ ((v3 * 8) + v3) < 64) ∧ ((rg (s 61 ((v3 * 8) + v3))) ∧ (((s 61 ((v3 * 8) + v3)) = 0 → G LY X 137 [rv 59, iv v1, iv (v2 + 0), iv (v3 + 1), none] [] s) ∧ ((s 61 ((v3 * 8) + v3)) ≠ 0 → G LY X 137 [rv 59, iv v1, iv (v2 + 1), iv (v3 + 1), none] [] s)))))))) : G LY X 137 [rv 59, iv v1, iv v2, iv v3, none] [] s := by
  refine G_iload_n C dX0_lettersInCircles_137 rfl ?_
  refine G_iload_n C dX0_lettersInCircles_138 rfl ?_
  refine G_icmp_ge (tgt := 170) C dX0_lettersInCircles_139 (by decide) ⟨h.1.1, h.1.2⟩ (fun q => ?_) (fun q => ?_)
  · have h := h.2.1 q
    refine G_iload_n C dX0_lettersInCircles_170 rfl ?_
    exact r _ _ _ _ dX0_lettersInCircles_171 h
  · have h := h.2.2 q
    refine G_iload_n C dX0_lettersInCircles_142 rfl ?_
    refine G_aload_n C dX0_lettersInCircles_143 rfl ?_
    refine gR_X0_1 C ly_59 rfl wf_X0_15 dX0_lettersInCircles_144 ?_
    refine G_iload_n C dX0_lettersInCircles_147 rfl ?_
    refine G_bipush C dX0_lettersInCircles_148 bi_8 ?_
    refine G_imul C dX0_lettersInCircles_150 ?_
    refine G_iload_n C dX0_lettersInCircles_151 rfl ?_
    refine G_iadd C dX0_lettersInCircles_152 ?_
    refine G_zald C ly_61 (by decide) h.1 dX0_lettersInCircles_153 ?_
    have h := h.2
    refine G_if_eq (tgt := 161) C dX0_lettersInCircles_154 (by decide) h.1 (fun q => ?_) (fun q => ?_)
    · have h := h.2.1 q
      refine G_iconst C dX0_lettersInCircles_161 ?_
      refine G_iadd C dX0_lettersInCircles_162 ?_
      refine G_istore_n (L' := [rv 59, iv v1, iv (v2 + 0), iv v3, none]) C dX0_lettersInCircles_163 (by decide) rfl ?_
      refine G_iinc (L' := [rv 59, iv v1, iv (v2 + 0), iv (v3 + 1), none]) C dX0_lettersInCircles_164 (by decide) rfl rfl ?_
      refine G_goto (tgt := 137) C dX0_lettersInCircles_167 (by decide) ?_
      exact h
    · have h := h.2.2 q
      refine G_iconst C dX0_lettersInCircles_157 ?_
      refine G_goto (tgt := 162) C dX0_lettersInCircles_158 (by decide) ?_
      refine G_iadd C dX0_lettersInCircles_162 ?_
      refine G_istore_n (L' := [rv 59, iv v1, iv (v2 + 1), iv v3, none]) C dX0_lettersInCircles_163 (by decide) rfl ?_
      refine G_iinc (L' := [rv 59, iv v1, iv (v2 + 1), iv (v3 + 1), none]) C dX0_lettersInCircles_164 (by decide) rfl rfl ?_
      refine G_goto (tgt := 137) C dX0_lettersInCircles_167 (by decide) ?_
      exact h
set_option maxRecDepth 20000 in
theorem kb_X0_buyCheapest_0 {X : Cx} {d : Nat} {P : Sto → Prop} (C : Ok LY X RX0 cX0_buyCheapest 7 d) (r : RetV LY X cX0_buyCheapest P) (h1d : 1 ≤ d) {v2 v3 v4 : Int} {s : Sto} (h : (∀ s1 : Sto, s1 = up s 59 9 (-1) → (∀ s2 : Sto, s2 = up s1 59 10 (-1) → ((rg (s2 3 11)) ∧ (((s2 3 11) ≠ 0 → (CallV LY d MX0_count [.inr 59, .inr 3] s2 (fun s3 => (∀ s4 : Sto, s4 = cpy s3 60 68 0 0 64 → (CallV LY d MX0_notePassed [.inr 59, .inr 3, .inl v2] s4 (fun s5 => ((rg v4) ∧ ((v4 ≠ 2 → G LY X 72 [rv 59, rv 3, iv v2, iv v3, iv v4, iv 0, none] [] s5) ∧ (v4 = 2 → (CallV LY d MX0_splitAround [.inr 59, .inl (s5 3 0), .inl v2] s5 (fun s6 => G LY X 72 [rv 59, rv 3, iv v2, iv v3, iv v4, iv 0, none] [] s6))))))))))) ∧ ((s2 3 11) = 0 → (CallV LY d MX0_buyWithoutVoters [.inr 59, .inr 3, .inl v2, .inl v3] s2 (fun s7 => P s7)))))))) : G LY X 0 [rv 59, rv 3, iv v2, iv v3, iv v4, none, none] [] s := by
  refine G_aload_n C dX0_buyCheapest_0 rfl ?_
  refine G_iconst C dX0_buyCheapest_1 ?_
  refine gP_X0_9 C ly_59 rfl wf_X0_40 dX0_buyCheapest_2 ?_
  have h := h _ rfl
  obtain ⟨s1, e1⟩ : ∃ z, z = up s 59 9 (-1) := ⟨_, rfl⟩
  rw [← e1] at h ⊢
  refine G_aload_n C dX0_buyCheapest_5 rfl ?_
  refine G_iconst C dX0_buyCheapest_6 ?_
  refine gP_X0_10 C ly_59 rfl wf_X0_44 dX0_buyCheapest_7 ?_
  have h := h _ rfl
  obtain ⟨s2, e2⟩ : ∃ z, z = up s1 59 10 (-1) := ⟨_, rfl⟩
  rw [← e2] at h ⊢
  refine G_aload_n C dX0_buyCheapest_10 rfl ?_
  refine gI_X2_11 C ly_3 rfl wf_X0_51 dX0_buyCheapest_11 ?_
  refine G_if_ne (tgt := 25) C dX0_buyCheapest_14 (by decide) h.1 (fun q => ?_) (fun q => ?_)
  · have h := h.2.1 q
    refine G_aload_n C dX0_buyCheapest_25 rfl ?_
    refine G_aload_n C dX0_buyCheapest_26 rfl ?_
    refine G_callVV (K := []) (args := [.inr 3]) (T := TX0) (N := 11) C ly_59 rfl (Nat.le_of_ble_eq_true rfl) mo_X0_count wc_X0_74 rfl dX0_buyCheapest_27 h (fun s3 h => ?_)
    refine G_aload_n C dX0_buyCheapest_30 rfl ?_
    refine gR_X0_0 C ly_59 rfl wf_X0_9 dX0_buyCheapest_31 ?_
    refine G_iconst C dX0_buyCheapest_34 ?_
    refine G_aload_n C dX0_buyCheapest_35 rfl ?_
    refine gR_X0_8 C ly_59 rfl wf_X0_37 dX0_buyCheapest_36 ?_
    refine G_iconst C dX0_buyCheapest_39 ?_
    refine G_aload_n C dX0_buyCheapest_40 rfl ?_
    refine gR_X0_0 C ly_59 rfl wf_X0_9 dX0_buyCheapest_41 ?_
    refine G_alen C ly_60 dX0_buyCheapest_44 ?_
    refine G_top (b := 64) rfl ?_
    refine G_copy C ly_60 ly_68 (by decide) (by decide) h1d (Nat.le_of_ble_eq_true rfl) ws_1042 arw dX0_buyCheapest_45 ?_
    have h := h _ rfl
    obtain ⟨s4, e4⟩ : ∃ z, z = cpy s3 60 68 0 0 64 := ⟨_, rfl⟩
    rw [← e4] at h ⊢
    refine G_aload_n C dX0_buyCheapest_48 rfl ?_
    refine G_aload_n C dX0_buyCheapest_49 rfl ?_
    refine G_iload_n C dX0_buyCheapest_50 rfl ?_
    refine G_callVV (K := []) (args := [.inr 3, .inl v2]) (T := TX0) (N := 11) C ly_59 rfl (Nat.le_of_ble_eq_true rfl) mo_X0_notePassed wc_X0_115 rfl dX0_buyCheapest_51 h (fun s5 h => ?_)
    refine G_iload C dX0_buyCheapest_54 rfl ?_
    refine G_iconst C dX0_buyCheapest_56 ?_
    refine G_icmp_ne (tgt := 69) C dX0_buyCheapest_57 (by decide) ⟨h.1, (by decide)⟩ (fun q => ?_) (fun q => ?_)
    · have h := h.2.1 q
      refine G_iconst C dX0_buyCheapest_69 ?_
      refine G_istore (L' := [rv 59, rv 3, iv v2, iv v3, iv v4, iv 0, none]) C dX0_buyCheapest_70 (by decide) rfl ?_
      exact h
    · have h := h.2.2 q
      refine G_aload_n C dX0_buyCheapest_60 rfl ?_
      refine G_aload_n C dX0_buyCheapest_61 rfl ?_
      refine gI_X2_0 C ly_3 rfl wf_X0_56 dX0_buyCheapest_62 ?_
      refine G_iload_n C dX0_buyCheapest_65 rfl ?_
      refine G_callVV (K := []) (args := [.inl (s5 3 0), .inl v2]) (T := TX0) (N := 11) C ly_59 rfl (Nat.le_of_ble_eq_true rfl) mo_X0_splitAround wc_X0_119 rfl dX0_buyCheapest_66 h (fun s6 h => ?_)
      refine G_iconst C dX0_buyCheapest_69 ?_
      refine G_istore (L' := [rv 59, rv 3, iv v2, iv v3, iv v4, iv 0, none]) C dX0_buyCheapest_70 (by decide) rfl ?_
      exact h
  · have h := h.2.2 q
    refine G_aload_n C dX0_buyCheapest_17 rfl ?_
    refine G_aload_n C dX0_buyCheapest_18 rfl ?_
    refine G_iload_n C dX0_buyCheapest_19 rfl ?_
    refine G_iload_n C dX0_buyCheapest_20 rfl ?_
    refine G_callVV (K := []) (args := [.inr 3, .inl v2, .inl v3]) (T := TX0) (N := 11) C ly_59 rfl (Nat.le_of_ble_eq_true rfl) mo_X0_buyWithoutVoters wc_X0_105 rfl dX0_buyCheapest_21 h (fun s7 h => ?_)
    exact r _ _ _ dX0_buyCheapest_24 h
set_option maxRecDepth 20000 in
theorem kb_X0_buyCheapest_72 {X : Cx} {d : Nat} {P : Sto → Prop} (C : Ok LY X RX0 cX0_buyCheapest 7 d) (r : RetV LY X cX0_buyCheapest P) {v2 v3 v4 v5 : Int} {s : Sto} (h : ((rg v5) ∧ (((xshl 1 (s 3 11)) ≤ v5 → P s) ∧ (v5 < (xshl 1 (s 3 11)) → (CallI LY d MX0_priceOf [.inr 3, .inl v5] s (fun r1 s1 => (CallI LY d MX0_isCheaper [.inr 59, .inl v5, .inl r1] s1 (fun r2 s2 => ((rg r2) ∧ ((r2 = 0 → G LY X 72 [rv 59, rv 3, iv v2, iv v3, iv v4, iv (v5 + 1), none] [] s2) ∧ (r2 ≠ 0 → (CallV LY d MX0_sway [.inr 59, .inr 3, .inl v5, .inl v2] s2 (fun s3 => ((rg v4) ∧ ((v4 ≠ 2 → (CallI LY d MX0_isAheadByMerit [.inr 59, .inl v2, .inl v3, .inl (s3 3 0), .inl v4] s3 (fun r4 s4 => ((rg r4) ∧ ((r4 = 0 → G LY X 72 [rv 59, rv 3, iv v2, iv v3, iv v4, iv (v5 + 1), none] [] s4) ∧ (r4 ≠ 0 → (∀ s5 : Sto, s5 = up s4 59 9 v5 → (∀ s6 : Sto, s6 = up s5 59 10 r1 → G LY X 72 [rv 59, rv 3, iv v2, iv v3, iv v4, iv (v5 + 1), none] [] s6)))))))) ∧ (v4 = 2 → (CallI LY d MX0_isAheadByNearest [.inr 59, .inl (s3 3 0), .inl v2, .inl v3] s3 (fun r7 s7 => ((rg r7) ∧ ((r7 = 0 → G LY X 72 [rv 59, rv 3, iv v2, iv v3, iv v4, iv (v5 + 1), none] [] s7) ∧ (r7 ≠ 0 → (∀ s8 : Sto, s8 = up s7 59 9 v5 → (∀ s9 : Sto, s9 = up s8 59 10 r1 → G LY X 72 [rv 59, rv 3, iv v2, iv v3, iv v4, iv (v5 + 1), none] [] s9))))))))))))))))))))))) : G LY X 72 [rv 59, rv 3, iv v2, iv v3, iv v4, iv v5, none] [] s := by
  refine G_iload C dX0_buyCheapest_72 rfl ?_
  refine G_iconst C dX0_buyCheapest_74 ?_
  refine G_aload_n C dX0_buyCheapest_75 rfl ?_
  refine gI_X2_11 C ly_3 rfl wf_X0_51 dX0_buyCheapest_76 ?_
  refine G_ishl C dX0_buyCheapest_79 ?_
  refine G_icmp_ge (tgt := 165) C dX0_buyCheapest_80 (by decide) ⟨h.1, (oI_rg _)⟩ (fun q => ?_) (fun q => ?_)
  · have h := h.2.1 q
    exact r _ _ _ dX0_buyCheapest_165 h
  · have h := h.2.2 q
    refine G_aload_n C dX0_buyCheapest_83 rfl ?_
    refine G_iload C dX0_buyCheapest_84 rfl ?_
    refine G_callSI (K := []) (args := [.inr 3, .inl v5]) C (Nat.le_of_ble_eq_true rfl) mo_X0_priceOf wc_X0_123 rfl dX0_buyCheapest_86 h (fun r1 s1 h => ?_)
    refine G_istore (L' := [rv 59, rv 3, iv v2, iv v3, iv v4, iv v5, iv r1]) C dX0_buyCheapest_89 (by decide) rfl ?_
    refine G_aload_n C dX0_buyCheapest_91 rfl ?_
    refine G_iload C dX0_buyCheapest_92 rfl ?_
    refine G_iload C dX0_buyCheapest_94 rfl ?_
    refine G_callVI (K := []) (args := [.inl v5, .inl r1]) (T := TX0) (N := 11) C ly_59 rfl (Nat.le_of_ble_eq_true rfl) mo_X0_isCheaper wc_X0_127 rfl dX0_buyCheapest_96 h (fun r2 s2 h => ?_)
    refine G_if_eq (tgt := 159) C dX0_buyCheapest_99 (by decide) h.1 (fun q => ?_) (fun q => ?_)
    · have h := h.2.1 q
      refine G_iinc (L' := [rv 59, rv 3, iv v2, iv v3, iv v4, iv (v5 + 1), iv r1]) C dX0_buyCheapest_159 (by decide) rfl rfl ?_
      refine G_goto (tgt := 72) C dX0_buyCheapest_162 (by decide) ?_
      refine G_drop (i := 6) (L' := [rv 59, rv 3, iv v2, iv v3, iv v4, iv (v5 + 1), none]) rfl ?_
      exact h
    · have h := h.2.2 q
      refine G_aload_n C dX0_buyCheapest_102 rfl ?_
      refine G_aload_n C dX0_buyCheapest_103 rfl ?_
      refine G_iload C dX0_buyCheapest_104 rfl ?_
      refine G_iload_n C dX0_buyCheapest_106 rfl ?_
      refine G_callVV (K := []) (args := [.inr 3, .inl v5, .inl v2]) (T := TX0) (N := 11) C ly_59 rfl (Nat.le_of_ble_eq_true rfl) mo_X0_sway wc_X0_130 rfl dX0_buyCheapest_107 h (fun s3 h => ?_)
      refine G_iload C dX0_buyCheapest_110 rfl ?_
      refine G_iconst C dX0_buyCheapest_112 ?_
      refine G_icmp_ne (tgt := 132) C dX0_buyCheapest_113 (by decide) ⟨h.1, (by decide)⟩ (fun q => ?_) (fun q => ?_)
      · have h := h.2.1 q
        refine G_aload_n C dX0_buyCheapest_132 rfl ?_
        refine G_iload_n C dX0_buyCheapest_133 rfl ?_
        refine G_iload_n C dX0_buyCheapest_134 rfl ?_
        refine G_aload_n C dX0_buyCheapest_135 rfl ?_
        refine gI_X2_0 C ly_3 rfl wf_X0_56 dX0_buyCheapest_136 ?_
        refine G_iload C dX0_buyCheapest_139 rfl ?_
        refine G_callVI (K := []) (args := [.inl v2, .inl v3, .inl (s3 3 0), .inl v4]) (T := TX0) (N := 11) C ly_59 rfl (Nat.le_of_ble_eq_true rfl) mo_X0_isAheadByMerit wc_X0_85 rfl dX0_buyCheapest_141 h (fun r4 s4 h => ?_)
        refine G_if_eq (tgt := 159) C dX0_buyCheapest_144 (by decide) h.1 (fun q => ?_) (fun q => ?_)
        · have h := h.2.1 q
          refine G_iinc (L' := [rv 59, rv 3, iv v2, iv v3, iv v4, iv (v5 + 1), iv r1]) C dX0_buyCheapest_159 (by decide) rfl rfl ?_
          refine G_goto (tgt := 72) C dX0_buyCheapest_162 (by decide) ?_
          refine G_drop (i := 6) (L' := [rv 59, rv 3, iv v2, iv v3, iv v4, iv (v5 + 1), none]) rfl ?_
          exact h
        · have h := h.2.2 q
          refine G_aload_n C dX0_buyCheapest_147 rfl ?_
          refine G_iload C dX0_buyCheapest_148 rfl ?_
          refine gP_X0_9 C ly_59 rfl wf_X0_40 dX0_buyCheapest_150 ?_
          have h := h _ rfl
          obtain ⟨s5, e5⟩ : ∃ z, z = up s4 59 9 v5 := ⟨_, rfl⟩
          rw [← e5] at h ⊢
          refine G_aload_n C dX0_buyCheapest_153 rfl ?_
          refine G_iload C dX0_buyCheapest_154 rfl ?_
          refine gP_X0_10 C ly_59 rfl wf_X0_44 dX0_buyCheapest_156 ?_
          have h := h _ rfl
          obtain ⟨s6, e6⟩ : ∃ z, z = up s5 59 10 r1 := ⟨_, rfl⟩
          rw [← e6] at h ⊢
          refine G_iinc (L' := [rv 59, rv 3, iv v2, iv v3, iv v4, iv (v5 + 1), iv r1]) C dX0_buyCheapest_159 (by decide) rfl rfl ?_
          refine G_goto (tgt := 72) C dX0_buyCheapest_162 (by decide) ?_
          refine G_drop (i := 6) (L' := [rv 59, rv 3, iv v2, iv v3, iv v4, iv (v5 + 1), none]) rfl ?_
          exact h
      · have h := h.2.2 q
        refine G_aload_n C dX0_buyCheapest_116 rfl ?_
        refine G_aload_n C dX0_buyCheapest_117 rfl ?_
        refine gI_X2_0 C ly_3 rfl wf_X0_56 dX0_buyCheapest_118 ?_
        refine G_iload_n C dX0_buyCheapest_121 rfl ?_
        refine G_iload_n C dX0_buyCheapest_122 rfl ?_
        refine G_callVI (K := []) (args := [.inl (s3 3 0), .inl v2, .inl v3]) (T := TX0) (N := 11) C ly_59 rfl (Nat.le_of_ble_eq_true rfl) mo_X0_isAheadByNearest wc_X0_133 rfl dX0_buyCheapest_123 h (fun r7 s7 h => ?_)
        refine G_if_eq (tgt := 159) C dX0_buyCheapest_126 (by decide) h.1 (fun q => ?_) (fun q => ?_)
        · have h := h.2.1 q
          refine G_iinc (L' := [rv 59, rv 3, iv v2, iv v3, iv v4, iv (v5 + 1), iv r1]) C dX0_buyCheapest_159 (by decide) rfl rfl ?_
          refine G_goto (tgt := 72) C dX0_buyCheapest_162 (by decide) ?_
          refine G_drop (i := 6) (L' := [rv 59, rv 3, iv v2, iv v3, iv v4, iv (v5 + 1), none]) rfl ?_
          exact h
        · have h := h.2.2 q
          refine G_goto (tgt := 147) C dX0_buyCheapest_129 (by decide) ?_
          refine G_aload_n C dX0_buyCheapest_147 rfl ?_
          refine G_iload C dX0_buyCheapest_148 rfl ?_
          refine gP_X0_9 C ly_59 rfl wf_X0_40 dX0_buyCheapest_150 ?_
          have h := h _ rfl
          obtain ⟨s8, e8⟩ : ∃ z, z = up s7 59 9 v5 := ⟨_, rfl⟩
          rw [← e8] at h ⊢
          refine G_aload_n C dX0_buyCheapest_153 rfl ?_
          refine G_iload C dX0_buyCheapest_154 rfl ?_
          refine gP_X0_10 C ly_59 rfl wf_X0_44 dX0_buyCheapest_156 ?_
          have h := h _ rfl
          obtain ⟨s9, e9⟩ : ∃ z, z = up s8 59 10 r1 := ⟨_, rfl⟩
          rw [← e9] at h ⊢
          refine G_iinc (L' := [rv 59, rv 3, iv v2, iv v3, iv v4, iv (v5 + 1), iv r1]) C dX0_buyCheapest_159 (by decide) rfl rfl ?_
          refine G_goto (tgt := 72) C dX0_buyCheapest_162 (by decide) ?_
          refine G_drop (i := 6) (L' := [rv 59, rv 3, iv v2, iv v3, iv v4, iv (v5 + 1), none]) rfl ?_
          exact h
set_option maxRecDepth 20000 in
theorem kb_X3_weighPeople_0 {X : Cx} {d : Nat} {P : Sto → Prop} (C : Ok LY X RX3 cX3_weighPeople 6 d) (r : RetV LY X cX3_weighPeople P) {s : Sto} (h : (CallV LY d MX7_payPlaces [.inr 46, .inr 3] s (fun s1 => (CallV LY d MX7_lineUp [.inr 46, .inr 3, .inl (s1 3 2)] s1 (fun s2 => G LY X 25 [rv 69, rv 3, rv 46, iv (s 5 0), iv 0, none] [] s2))))) : G LY X 0 [rv 69, rv 3, rv 46, none, none, none] [] s := by
  refine G_aload_n C dX3_weighPeople_0 rfl ?_
  refine gR_X2_5 C ly_3 rfl wf_X3_34 dX3_weighPeople_1 ?_
  refine gI_X6_0 C ly_5 rfl wf_X3_40 dX3_weighPeople_4 ?_
  refine G_istore_n (L' := [rv 69, rv 3, rv 46, iv (s 5 0), none, none]) C dX3_weighPeople_7 (by decide) rfl ?_
  refine G_aload_n C dX3_weighPeople_8 rfl ?_
  refine G_aload_n C dX3_weighPeople_9 rfl ?_
  refine G_callVV (K := []) (args := [.inr 3]) (T := TX7) (N := 5) C ly_46 rfl (Nat.le_of_ble_eq_true rfl) mo_X7_payPlaces wc_X3_45 rfl dX3_weighPeople_10 h (fun s1 h => ?_)
  refine G_aload_n C dX3_weighPeople_13 rfl ?_
  refine G_aload_n C dX3_weighPeople_14 rfl ?_
  refine G_aload_n C dX3_weighPeople_15 rfl ?_
  refine gI_X2_2 C ly_3 rfl wf_X3_51 dX3_weighPeople_16 ?_
  refine G_callVV (K := []) (args := [.inr 3, .inl (s1 3 2)]) (T := TX7) (N := 5) C ly_46 rfl (Nat.le_of_ble_eq_true rfl) mo_X7_lineUp wc_X3_54 rfl dX3_weighPeople_19 h (fun s2 h => ?_)
  refine G_iconst C dX3_weighPeople_22 ?_
  refine G_istore (L' := [rv 69, rv 3, rv 46, iv (s 5 0), iv 0, none]) C dX3_weighPeople_23 (by decide) rfl ?_
  exact h
set_option maxRecDepth 20000 in
theorem kb_X3_weighPeople_25 {X : Cx} {d : Nat} {P : Sto → Prop} (C : Ok LY X RX3 cX3_weighPeople 6 d) (r : RetV LY X cX3_weighPeople P) {v3 v4 : Int} {s : Sto} (h : ((rg v4 ∧ rg v3) ∧ ((v3 ≤ v4 → G LY X 53 [rv 69, rv 3, rv 46, iv v3, iv 0, none] [] s) ∧ (v4 < v3 → (CallI LY d MX7_worthOf [.inr 46, .inl v4] s (fun r1 s1 => ((0 ≤ v4 ∧ v4 < 20) ∧ (∀ s2 : Sto, s2 = up s1 70 v4 r1 → G LY X 25 [rv 69, rv 3, rv 46, iv v3, iv (v4 + 1), none] [] s2)))))))) : G LY X 25 [rv 69, rv 3, rv 46, iv v3, iv v4, none] [] s := by
  refine G_iload C dX3_weighPeople_25 rfl ?_
  refine G_iload_n C dX3_weighPeople_27 rfl ?_
  refine G_icmp_ge (tgt := 50) C dX3_weighPeople_28 (by decide) ⟨h.1.1, h.1.2⟩ (fun q => ?_) (fun q => ?_)
  · have h := h.2.1 q
    refine G_iconst C dX3_weighPeople_50 ?_
    refine G_istore (L' := [rv 69, rv 3, rv 46, iv v3, iv 0, none]) C dX3_weighPeople_51 (by decide) rfl ?_
    exact h
  · have h := h.2.2 q
    refine G_aload_n C dX3_weighPeople_31 rfl ?_
    refine gR_X3_0 C ly_69 rfl wf_X3_9 dX3_weighPeople_32 ?_
    refine G_iload C dX3_weighPeople_35 rfl ?_
    refine G_aload_n C dX3_weighPeople_37 rfl ?_
    refine G_iload C dX3_weighPeople_38 rfl ?_
    refine G_callVI (K := [.inl v4, .inr 70]) (args := [.inl v4]) (T := TX7) (N := 5) C ly_46 rfl (Nat.le_of_ble_eq_true rfl) mo_X7_worthOf wc_X3_58 rfl dX3_weighPeople_40 h (fun r1 s1 h => ?_)
    refine G_iast C ly_70 (by decide) h.1 dX3_weighPeople_43 ?_
    have h := h.2
    have h := h _ rfl
    obtain ⟨s2, e2⟩ : ∃ z, z = up s1 70 v4 r1 := ⟨_, rfl⟩
    rw [← e2] at h ⊢
    refine G_iinc (L' := [rv 69, rv 3, rv 46, iv v3, iv (v4 + 1), none]) C dX3_weighPeople_44 (by decide) rfl rfl ?_
    refine G_goto (tgt := 25) C dX3_weighPeople_47 (by decide) ?_
    exact h
set_option maxRecDepth 20000 in
theorem kb_X3_weighPeople_53 {X : Cx} {d : Nat} {P : Sto → Prop} (C : Ok LY X RX3 cX3_weighPeople 6 d) (r : RetV LY X cX3_weighPeople P) {v3 v4 : Int} {s : Sto} (h : ((rg v4 ∧ rg v3) ∧ ((v3 ≤ v4 → P s) ∧ (v4 < v3 → ((0 ≤ v4 ∧ v4 < 20) ∧ (∀ s1 : Sto, s1 = up s 71 v4 v3 → G LY X 70 [rv 69, rv 3, rv 46, iv v3, iv v4, iv 0] [] s1)))))) : G LY X 53 [rv 69, rv 3, rv 46, iv v3, iv v4, none] [] s := by
  refine G_iload C dX3_weighPeople_53 rfl ?_
  refine G_iload_n C dX3_weighPeople_55 rfl ?_
  refine G_icmp_ge (tgt := 140) C dX3_weighPeople_56 (by decide) ⟨h.1.1, h.1.2⟩ (fun q => ?_) (fun q => ?_)
  · have h := h.2.1 q
    exact r _ _ _ dX3_weighPeople_140 h
  · have h := h.2.2 q
    refine G_aload_n C dX3_weighPeople_59 rfl ?_
    refine gR_X3_1 C ly_69 rfl wf_X3_15 dX3_weighPeople_60 ?_
    refine G_iload C dX3_weighPeople_63 rfl ?_
    refine G_iload_n C dX3_weighPeople_65 rfl ?_
    refine G_iast C ly_71 (by decide) h.1 dX3_weighPeople_66 ?_
    have h := h.2
    have h := h _ rfl
    obtain ⟨s1, e1⟩ : ∃ z, z = up s 71 v4 v3 := ⟨_, rfl⟩
    rw [← e1] at h ⊢
    refine G_iconst C dX3_weighPeople_67 ?_
    refine G_istore (L' := [rv 69, rv 3, rv 46, iv v3, iv v4, iv 0]) C dX3_weighPeople_68 (by decide) rfl ?_
    exact h
set_option maxRecDepth 20000 in
theorem kb_X3_weighPeople_70 {X : Cx} {d : Nat} {P : Sto → Prop} (C : Ok LY X RX3 cX3_weighPeople 6 d) (r : RetV LY X cX3_weighPeople P) {v3 v4 v5 : Int} {s : Sto} (h : ((rg v5 ∧ rg v3) ∧ ((v3 ≤ v5 → G LY X 53 [rv 69, rv 3, rv 46, iv v3, iv (v4 + 1), none] [] s) ∧ (v5 < v3 → ((0 ≤ v5 ∧ v5 < 20) ∧ ((0 ≤ v4 ∧ v4 < 20) ∧ ((rg (s 70 v5) ∧ rg (s 70 v4)) ∧ (((s 70 v5) < (s 70 v4) → ((0 ≤ v4 ∧ v4 < 20) ∧ ((0 ≤ v4 ∧ v4 < 20) ∧ (∀ s1 : Sto, s1 = up s 71 v4 ((s 71 v4) - 1) → G LY X 70 [rv 69, rv 3, rv 46, iv v3, iv v4, iv (v5 + 1)] [] s1)))) ∧ ((s 70 v4) ≤ (s 70 v5) → ((0 ≤ v5 ∧ v5 < 20) ∧ ((0 ≤ v4 ∧ v4 < 20) ∧ ((rg (s 70 v5) ∧ rg (s 70 v4)) ∧ (((s 70 v5) ≠ (s 70 v4) → G LY X 70 [rv 69, rv 3, rv 46, iv v3, iv v4, iv (v5 + 1)] [] s) ∧ ((s 70 v5) = (s 70 v4) → ((rg v5 ∧ rg v4) ∧ ((v4 ≤ v5 → G LY X 70 [rv 69, rv 3, rv 46, iv v3, iv v4, iv (v5 + 1)] [] s) ∧ (v5 < v4 → ((0 ≤ v4 ∧ v4 < 20) ∧ ((0 ≤ v4 ∧ v4 < 20) ∧ (∀ s2 : Sto, s2 = up s 71 v4 ((s 71 v4) - 1) → G LY X 70 [rv 69, rv 3, rv 46, iv v3, iv v4, iv (v5 + 1)] [] s2)))))))))))))))))))) : G LY X 70 [rv 69, rv 3, rv 46, iv v3, iv v4, iv v5] [] s := by
  refine G_iload C dX3_weighPeople_70 rfl ?_
  refine G_iload_n C dX3_weighPeople_72 rfl ?_
  refine G_icmp_ge (tgt := 134) C dX3_weighPeople_73 (by decide) ⟨h.1.1, h.1.2⟩ (fun q => ?_) (fun q => ?_)
  · have h := h.2.1 q
    refine G_iinc (L' := [rv 69, rv 3, rv 46, iv v3, iv (v4 + 1), iv v5]) C dX3_weighPeople_134 (by decide) rfl rfl ?_
    refine G_goto (tgt := 53) C dX3_weighPeople_137 (by decide) ?_
    refine G_drop (i := 5) (L' := [rv 69, rv 3, rv 46, iv v3, iv (v4 + 1), none]) rfl ?_
    exact h
  · have h := h.2.2 q
    refine G_aload_n C dX3_weighPeople_76 rfl ?_
    refine gR_X3_0 C ly_69 rfl wf_X3_9 dX3_weighPeople_77 ?_
    refine G_iload C dX3_weighPeople_80 rfl ?_
    refine G_iald C ly_70 (by decide) h.1 dX3_weighPeople_82 ?_
    have h := h.2
    refine G_aload_n C dX3_weighPeople_83 rfl ?_
    refine gR_X3_0 C ly_69 rfl wf_X3_9 dX3_weighPeople_84 ?_
    refine G_iload C dX3_weighPeople_87 rfl ?_
    refine G_iald C ly_70 (by decide) h.1 dX3_weighPeople_89 ?_
    have h := h.2
    refine G_icmp_lt (tgt := 117) C dX3_weighPeople_90 (by decide) ⟨h.1.1, h.1.2⟩ (fun q => ?_) (fun q => ?_)
    · have h := h.2.1 q
      refine G_aload_n C dX3_weighPeople_117 rfl ?_
      refine gR_X3_1 C ly_69 rfl wf_X3_15 dX3_weighPeople_118 ?_
      refine G_iload C dX3_weighPeople_121 rfl ?_
      refine G_dup2 C dX3_weighPeople_123 ?_
      refine G_iald C ly_71 (by decide) h.1 dX3_weighPeople_124 ?_
      have h := h.2
      refine G_iconst C dX3_weighPeople_125 ?_
      refine G_isub C dX3_weighPeople_126 ?_
      refine G_iast C ly_71 (by decide) h.1 dX3_weighPeople_127 ?_
      have h := h.2
      have h := h _ rfl
      obtain ⟨s1, e1⟩ : ∃ z, z = up s 71 v4 ((s 71 v4) - 1) := ⟨_, rfl⟩
      rw [← e1] at h ⊢
      refine G_iinc (L' := [rv 69, rv 3, rv 46, iv v3, iv v4, iv (v5 + 1)]) C dX3_weighPeople_128 (by decide) rfl rfl ?_
      refine G_goto (tgt := 70) C dX3_weighPeople_131 (by decide) ?_
      exact h
    · have h := h.2.2 q
      refine G_aload_n C dX3_weighPeople_93 rfl ?_
      refine gR_X3_0 C ly_69 rfl wf_X3_9 dX3_weighPeople_94 ?_
      refine G_iload C dX3_weighPeople_97 rfl ?_
      refine G_iald C ly_70 (by decide) h.1 dX3_weighPeople_99 ?_
      have h := h.2
      refine G_aload_n C dX3_weighPeople_100 rfl ?_
      refine gR_X3_0 C ly_69 rfl wf_X3_9 dX3_weighPeople_101 ?_
      refine G_iload C dX3_weighPeople_104 rfl ?_
      refine G_iald C ly_70 (by decide) h.1 dX3_weighPeople_106 ?_
      have h := h.2
      refine G_icmp_ne (tgt := 128) C dX3_weighPeople_107 (by decide) ⟨h.1.1, h.1.2⟩ (fun q => ?_) (fun q => ?_)
      · have h := h.2.1 q
        refine G_iinc (L' := [rv 69, rv 3, rv 46, iv v3, iv v4, iv (v5 + 1)]) C dX3_weighPeople_128 (by decide) rfl rfl ?_
        refine G_goto (tgt := 70) C dX3_weighPeople_131 (by decide) ?_
        exact h
      · have h := h.2.2 q
        refine G_iload C dX3_weighPeople_110 rfl ?_
        refine G_iload C dX3_weighPeople_112 rfl ?_
        refine G_icmp_ge (tgt := 128) C dX3_weighPeople_114 (by decide) ⟨h.1.1, h.1.2⟩ (fun q => ?_) (fun q => ?_)
        · have h := h.2.1 q
          refine G_iinc (L' := [rv 69, rv 3, rv 46, iv v3, iv v4, iv (v5 + 1)]) C dX3_weighPeople_128 (by decide) rfl rfl ?_
          refine G_goto (tgt := 70) C dX3_weighPeople_131 (by decide) ?_
          exact h
        · have h := h.2.2 q
          refine G_aload_n C dX3_weighPeople_117 rfl ?_
          refine gR_X3_1 C ly_69 rfl wf_X3_15 dX3_weighPeople_118 ?_
          refine G_iload C dX3_weighPeople_121 rfl ?_
          refine G_dup2 C dX3_weighPeople_123 ?_
          refine G_iald C ly_71 (by decide) h.1 dX3_weighPeople_124 ?_
          have h := h.2
          refine G_iconst C dX3_weighPeople_125 ?_
          refine G_isub C dX3_weighPeople_126 ?_
          refine G_iast C ly_71 (by decide) h.1 dX3_weighPeople_127 ?_
          have h := h.2
          have h := h _ rfl
          obtain ⟨s2, e2⟩ : ∃ z, z = up s 71 v4 ((s 71 v4) - 1) := ⟨_, rfl⟩
          rw [← e2] at h ⊢
          refine G_iinc (L' := [rv 69, rv 3, rv 46, iv v3, iv v4, iv (v5 + 1)]) C dX3_weighPeople_128 (by decide) rfl rfl ?_
          refine G_goto (tgt := 70) C dX3_weighPeople_131 (by decide) ?_
          exact h
