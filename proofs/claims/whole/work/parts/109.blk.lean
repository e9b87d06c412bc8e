set_option maxRecDepth 20000 in
theorem kb_X12_areNames_0 {X : Cx} {d : Nat} {P : Int → Sto → Prop} (C : Ok LY X RX12 cX12_areNames 4 d) (r : RetZ LY X cX12_areNames P) {v1 v2 : Int} {s : Sto} (h : G LY X 2 [rv 75, iv v1, iv v2, iv 0] [] s) : G LY X 0 [rv 75, iv v1, iv v2, none] [] s := by
  refine G_iconst C dX12_areNames_0 ?_
  refine G_istore_n (L' := [rv 75, iv v1, iv v2, iv 0]) C dX12_areNames_1 (by decide) rfl ?_
  exact h
set_option maxRecDepth 20000 in
theorem kb_X12_areNames_2 {X : Cx} {d : Nat} {P : Int → Sto → Prop} (C : Ok LY X RX12 cX12_areNames 4 d) (r : RetZ LY X cX12_areNames P) {v1 v2 v3 : Int} {s : Sto} (h : ((rg v3 ∧ rg (s 75 4)) ∧ (((s 75 4) ≤ v3 → P 1 s) ∧ (v3 < (s 75 4) → ((0 ≤ ((20 * v1) + v3) ∧ ((20 * v1) + v3) < 820) ∧ ((0 ≤ ((20 * v2) + v3) ∧ ((20 * v2) + v3) < 820) ∧ ((rg (s 107 ((20 * v1) + v3)) ∧ rg (s 107 ((20 * v2) + v3))) ∧ (((s 107 ((20 * v1) + v3)) = (s 107 ((20 * v2) + v3)) → G LY X 2 [rv 75, iv v1, iv v2, iv (v3 + 1)] [] s) ∧ ((s 107 ((20 * v1) + v3)) ≠ (s 107 ((20 * v2) + v3)) → P 0 s))))))))) : G LY X 2 [rv 75, iv v1, iv v2, iv v3] [] s := by
  refine G_iload_n C dX12_areNames_2 rfl ?_
  refine G_aload_n C dX12_areNames_3 rfl ?_
  refine gI_X12_4 C ly_75 rfl wf_X12_154 dX12_areNames_4 ?_
  refine G_icmp_ge (tgt := 43) C dX12_areNames_7 (by decide) ⟨h.1.1, h.1.2⟩ (fun q => ?_) (fun q => ?_)
  · have h := h.2.1 q
    refine G_iconst C dX12_areNames_43 ?_
    exact r _ _ _ _ dX12_areNames_44 (by decide) h
  · have h := h.2.2 q
    refine G_aload_n C dX12_areNames_10 rfl ?_
    refine gR_X12_52 C ly_75 rfl wf_X12_110 dX12_areNames_11 ?_
    refine G_bipush C dX12_areNames_14 bi_20 ?_
    refine G_iload_n C dX12_areNames_16 rfl ?_
    refine G_imul C dX12_areNames_17 ?_
    refine G_iload_n C dX12_areNames_18 rfl ?_
    refine G_iadd C dX12_areNames_19 ?_
    refine G_iald C ly_107 (by decide) h.1 dX12_areNames_20 ?_
    have h := h.2
    refine G_aload_n C dX12_areNames_21 rfl ?_
    refine gR_X12_52 C ly_75 rfl wf_X12_110 dX12_areNames_22 ?_
    refine G_bipush C dX12_areNames_25 bi_20 ?_
    refine G_iload_n C dX12_areNames_27 rfl ?_
    refine G_imul C dX12_areNames_28 ?_
    refine G_iload_n C dX12_areNames_29 rfl ?_
    refine G_iadd C dX12_areNames_30 ?_
    refine G_iald C ly_107 (by decide) h.1 dX12_areNames_31 ?_
    have h := h.2
    refine G_icmp_eq (tgt := 37) C dX12_areNames_32 (by decide) ⟨h.1.1, h.1.2⟩ (fun q => ?_) (fun q => ?_)
    · have h := h.2.1 q
      refine G_iinc (L' := [rv 75, iv v1, iv v2, iv (v3 + 1)]) C dX12_areNames_37 (by decide) rfl rfl ?_
      refine G_goto (tgt := 2) C dX12_areNames_40 (by decide) ?_
      exact h
    · have h := h.2.2 q
      refine G_iconst C dX12_areNames_35 ?_
      exact r _ _ _ _ dX12_areNames_36 (by decide) h
set_option maxRecDepth 20000 in
theorem kb_X12_suitorAsks_0 {X : Cx} {d : Nat} {P : Int → Sto → Prop} (C : Ok LY X RX12 cX12_suitorAsks 5 d) (r : RetI LY X cX12_suitorAsks P) {v1 : Int} {s : Sto} (h : G LY X 2 [rv 75, iv v1, iv 0, none, none] [] s) : G LY X 0 [rv 75, iv v1, none, none, none] [] s := by
  refine G_iconst C dX12_suitorAsks_0 ?_
  refine G_istore_n (L' := [rv 75, iv v1, iv 0, none, none]) C dX12_suitorAsks_1 (by decide) rfl ?_
  exact h
set_option maxRecDepth 20000 in
theorem kb_X12_suitorAsks_2 {X : Cx} {d : Nat} {P : Int → Sto → Prop} (C : Ok LY X RX12 cX12_suitorAsks 5 d) (r : RetI LY X cX12_suitorAsks P) {v1 v2 : Int} {s : Sto} (h : ((rg v2 ∧ rg (s 75 4)) ∧ (((s 75 4) ≤ v2 → P (-1) s) ∧ (v2 < (s 75 4) → ((0 ≤ v2 ∧ v2 < 20) ∧ ((rg (s 78 v2)) ∧ (((s 78 v2) = 1 → G LY X 28 [rv 75, iv v1, iv v2, iv 0, iv 0] [] s) ∧ ((s 78 v2) ≠ 1 → G LY X 2 [rv 75, iv v1, iv (v2 + 1), none, none] [] s)))))))) : G LY X 2 [rv 75, iv v1, iv v2, none, none] [] s := by
  refine G_iload_n C dX12_suitorAsks_2 rfl ?_
  refine G_aload_n C dX12_suitorAsks_3 rfl ?_
  refine gI_X12_4 C ly_75 rfl wf_X12_154 dX12_suitorAsks_4 ?_
  refine G_icmp_ge (tgt := 87) C dX12_suitorAsks_7 (by decide) ⟨h.1.1, h.1.2⟩ (fun q => ?_) (fun q => ?_)
  · have h := h.2.1 q
    refine G_iconst C dX12_suitorAsks_87 ?_
    exact r _ _ _ _ dX12_suitorAsks_88 h
  · have h := h.2.2 q
    refine G_aload_n C dX12_suitorAsks_10 rfl ?_
    refine gR_X12_5 C ly_75 rfl wf_X12_16 dX12_suitorAsks_11 ?_
    refine G_iload_n C dX12_suitorAsks_14 rfl ?_
    refine G_iald C ly_78 (by decide) h.1 dX12_suitorAsks_15 ?_
    have h := h.2
    refine G_iconst C dX12_suitorAsks_16 ?_
    refine G_icmp_eq (tgt := 23) C dX12_suitorAsks_17 (by decide) ⟨h.1, (by decide)⟩ (fun q => ?_) (fun q => ?_)
    · have h := h.2.1 q
      refine G_iconst C dX12_suitorAsks_23 ?_
      refine G_istore_n (L' := [rv 75, iv v1, iv v2, iv 0, none]) C dX12_suitorAsks_24 (by decide) rfl ?_
      refine G_iconst C dX12_suitorAsks_25 ?_
      refine G_istore (L' := [rv 75, iv v1, iv v2, iv 0, iv 0]) C dX12_suitorAsks_26 (by decide) rfl ?_
      exact h
    · have h := h.2.2 q
      refine G_goto (tgt := 81) C dX12_suitorAsks_20 (by decide) ?_
      refine G_iinc (L' := [rv 75, iv v1, iv (v2 + 1), none, none]) C dX12_suitorAsks_81 (by decide) rfl rfl ?_
      refine G_goto (tgt := 2) C dX12_suitorAsks_84 (by decide) ?_
      exact h
set_option maxRecDepth 20000 in
theorem kb_X12_suitorAsks_28 {X : Cx} {d : Nat} {P : Int → Sto → Prop} (C : Ok LY X RX12 cX12_suitorAsks 5 d) (r : RetI LY X cX12_suitorAsks P) {v1 v2 v3 v4 : Int} {s : Sto} (h : ((rg v4 ∧ rg (s 75 4)) ∧ (((s 75 4) ≤ v4 → ((rg v3 ∧ rg v1) ∧ ((v3 ≠ v1 → G LY X 2 [rv 75, iv v1, iv (v2 + 1), none, none] [] s) ∧ (v3 = v1 → P v2 s)))) ∧ (v4 < (s 75 4) → ((0 ≤ v4 ∧ v4 < 20) ∧ ((rg (s 78 v4)) ∧ (((s 78 v4) ≠ 1 → G LY X 28 [rv 75, iv v1, iv v2, iv v3, iv (v4 + 1)] [] s) ∧ ((s 78 v4) = 1 → ((rg v4 ∧ rg v2) ∧ ((v4 = v2 → G LY X 28 [rv 75, iv v1, iv v2, iv v3, iv (v4 + 1)] [] s) ∧ (v4 ≠ v2 → (CallI LY d MX12_isBetter [.inr 75, .inl v4, .inl v2] s (fun r1 s1 => ((rg r1) ∧ ((r1 = 0 → G LY X 28 [rv 75, iv v1, iv v2, iv v3, iv (v4 + 1)] [] s1) ∧ (r1 ≠ 0 → G LY X 28 [rv 75, iv v1, iv v2, iv (v3 + 1), iv (v4 + 1)] [] s1)))))))))))))))) : G LY X 28 [rv 75, iv v1, iv v2, iv v3, iv v4] [] s := by
  refine G_iload C dX12_suitorAsks_28 rfl ?_
  refine G_aload_n C dX12_suitorAsks_30 rfl ?_
  refine gI_X12_4 C ly_75 rfl wf_X12_154 dX12_suitorAsks_31 ?_
  refine G_icmp_ge (tgt := 74) C dX12_suitorAsks_34 (by decide) ⟨h.1.1, h.1.2⟩ (fun q => ?_) (fun q => ?_)
  · have h := h.2.1 q
    refine G_iload_n C dX12_suitorAsks_74 rfl ?_
    refine G_iload_n C dX12_suitorAsks_75 rfl ?_
    refine G_icmp_ne (tgt := 81) C dX12_suitorAsks_76 (by decide) ⟨h.1.1, h.1.2⟩ (fun q => ?_) (fun q => ?_)
    · have h := h.2.1 q
      refine G_iinc (L' := [rv 75, iv v1, iv (v2 + 1), iv v3, iv v4]) C dX12_suitorAsks_81 (by decide) rfl rfl ?_
      refine G_goto (tgt := 2) C dX12_suitorAsks_84 (by decide) ?_
      refine G_drop (i := 3) (L' := [rv 75, iv v1, iv (v2 + 1), none, iv v4]) rfl ?_
      refine G_drop (i := 4) (L' := [rv 75, iv v1, iv (v2 + 1), none, none]) rfl ?_
      exact h
    · have h := h.2.2 q
      refine G_iload_n C dX12_suitorAsks_79 rfl ?_
      exact r _ _ _ _ dX12_suitorAsks_80 h
  · have h := h.2.2 q
    refine G_aload_n C dX12_suitorAsks_37 rfl ?_
    refine gR_X12_5 C ly_75 rfl wf_X12_16 dX12_suitorAsks_38 ?_
    refine G_iload C dX12_suitorAsks_41 rfl ?_
    refine G_iald C ly_78 (by decide) h.1 dX12_suitorAsks_43 ?_
    have h := h.2
    refine G_iconst C dX12_suitorAsks_44 ?_
    refine G_icmp_ne (tgt := 68) C dX12_suitorAsks_45 (by decide) ⟨h.1, (by decide)⟩ (fun q => ?_) (fun q => ?_)
    · have h := h.2.1 q
      refine G_iinc (L' := [rv 75, iv v1, iv v2, iv v3, iv (v4 + 1)]) C dX12_suitorAsks_68 (by decide) rfl rfl ?_
      refine G_goto (tgt := 28) C dX12_suitorAsks_71 (by decide) ?_
      exact h
    · have h := h.2.2 q
      refine G_iload C dX12_suitorAsks_48 rfl ?_
      refine G_iload_n C dX12_suitorAsks_50 rfl ?_
      refine G_icmp_eq (tgt := 68) C dX12_suitorAsks_51 (by decide) ⟨h.1.1, h.1.2⟩ (fun q => ?_) (fun q => ?_)
      · have h := h.2.1 q
        refine G_iinc (L' := [rv 75, iv v1, iv v2, iv v3, iv (v4 + 1)]) C dX12_suitorAsks_68 (by decide) rfl rfl ?_
        refine G_goto (tgt := 28) C dX12_suitorAsks_71 (by decide) ?_
        exact h
      · have h := h.2.2 q
        refine G_aload_n C dX12_suitorAsks_54 rfl ?_
        refine G_iload C dX12_suitorAsks_55 rfl ?_
        refine G_iload_n C dX12_suitorAsks_57 rfl ?_
        refine G_callVI (K := []) (args := [.inl v4, .inl v2]) (T := TX12) (N := 72) C ly_75 rfl (Nat.le_of_ble_eq_true rfl) mo_X12_isBetter wc_X12_373 rfl dX12_suitorAsks_58 h (fun r1 s1 h => ?_)
        refine G_if_eq (tgt := 68) C dX12_suitorAsks_61 (by decide) h.1 (fun q => ?_) (fun q => ?_)
        · have h := h.2.1 q
          refine G_iinc (L' := [rv 75, iv v1, iv v2, iv v3, iv (v4 + 1)]) C dX12_suitorAsks_68 (by decide) rfl rfl ?_
          refine G_goto (tgt := 28) C dX12_suitorAsks_71 (by decide) ?_
          exact h
        · have h := h.2.2 q
          refine G_iload_n C dX12_suitorAsks_64 rfl ?_
          refine G_iconst C dX12_suitorAsks_65 ?_
          refine G_iadd C dX12_suitorAsks_66 ?_
          refine G_istore_n (L' := [rv 75, iv v1, iv v2, iv (v3 + 1), iv v4]) C dX12_suitorAsks_67 (by decide) rfl ?_
          refine G_iinc (L' := [rv 75, iv v1, iv v2, iv (v3 + 1), iv (v4 + 1)]) C dX12_suitorAsks_68 (by decide) rfl rfl ?_
          refine G_goto (tgt := 28) C dX12_suitorAsks_71 (by decide) ?_
          exact h
set_option maxRecDepth 20000 in
theorem kb_X12_isBetter_0 {X : Cx} {d : Nat} {P : Int → Sto → Prop} (C : Ok LY X RX12 cX12_isBetter 3 d) (r : RetZ LY X cX12_isBetter P) {v1 v2 : Int} {s : Sto} (h : ((0 ≤ v1 ∧ v1 < 20) ∧ ((0 ≤ v2 ∧ v2 < 20) ∧ ((rg (s 103 v1) ∧ rg (s 103 v2)) ∧ (((s 103 v2) < (s 103 v1) → P 1 s) ∧ ((s 103 v1) ≤ (s 103 v2) → ((0 ≤ v1 ∧ v1 < 20) ∧ ((0 ≤ v2 ∧ v2 < 20) ∧ ((rg (s 103 v1) ∧ rg (s 103 v2)) ∧ (((s 103 v1) ≠ (s 103 v2) → P 0 s) ∧ ((s 103 v1) = (s 103 v2) → ((rg v1 ∧ rg v2) ∧ ((v2 ≤ v1 → P 0 s) ∧ (v1 < v2 → P 1 s)))))))))))))) : G LY X 0 [rv 75, iv v1, iv v2] [] s := by
  refine G_aload_n C dX12_isBetter_0 rfl ?_
  refine gR_X12_48 C ly_75 rfl wf_X12_98 dX12_isBetter_1 ?_
  refine G_iload_n C dX12_isBetter_4 rfl ?_
  refine G_iald C ly_103 (by decide) h.1 dX12_isBetter_5 ?_
  have h := h.2
  refine G_aload_n C dX12_isBetter_6 rfl ?_
  refine gR_X12_48 C ly_75 rfl wf_X12_98 dX12_isBetter_7 ?_
  refine G_iload_n C dX12_isBetter_10 rfl ?_
  refine G_iald C ly_103 (by decide) h.1 dX12_isBetter_11 ?_
  have h := h.2
  refine G_icmp_gt (tgt := 35) C dX12_isBetter_12 (by decide) ⟨h.1.1, h.1.2⟩ (fun q => ?_) (fun q => ?_)
  · have h := h.2.1 q
    refine G_iconst C dX12_isBetter_35 ?_
    refine G_goto (tgt := 40) C dX12_isBetter_36 (by decide) ?_
    exact r _ _ _ _ dX12_isBetter_40 (by decide) h
  · have h := h.2.2 q
    refine G_aload_n C dX12_isBetter_15 rfl ?_
    refine gR_X12_48 C ly_75 rfl wf_X12_98 dX12_isBetter_16 ?_
    refine G_iload_n C dX12_isBetter_19 rfl ?_
    refine G_iald C ly_103 (by decide) h.1 dX12_isBetter_20 ?_
    have h := h.2
    refine G_aload_n C dX12_isBetter_21 rfl ?_
    refine gR_X12_48 C ly_75 rfl wf_X12_98 dX12_isBetter_22 ?_
    refine G_iload_n C dX12_isBetter_25 rfl ?_
    refine G_iald C ly_103 (by decide) h.1 dX12_isBetter_26 ?_
    have h := h.2
    refine G_icmp_ne (tgt := 39) C dX12_isBetter_27 (by decide) ⟨h.1.1, h.1.2⟩ (fun q => ?_) (fun q => ?_)
    · have h := h.2.1 q
      refine G_iconst C dX12_isBetter_39 ?_
      exact r _ _ _ _ dX12_isBetter_40 (by decide) h
    · have h := h.2.2 q
      refine G_iload_n C dX12_isBetter_30 rfl ?_
      refine G_iload_n C dX12_isBetter_31 rfl ?_
      refine G_icmp_ge (tgt := 39) C dX12_isBetter_32 (by decide) ⟨h.1.1, h.1.2⟩ (fun q => ?_) (fun q => ?_)
      · have h := h.2.1 q
        refine G_iconst C dX12_isBetter_39 ?_
        exact r _ _ _ _ dX12_isBetter_40 (by decide) h
      · have h := h.2.2 q
        refine G_iconst C dX12_isBetter_35 ?_
        refine G_goto (tgt := 40) C dX12_isBetter_36 (by decide) ?_
        exact r _ _ _ _ dX12_isBetter_40 (by decide) h
set_option maxRecDepth 20000 in
theorem kb_X12_placeBy_0 {X : Cx} {d : Nat} {P : Int → Sto → Prop} (C : Ok LY X RX12 cX12_placeBy 7 d) (r : RetI LY X cX12_placeBy P) {v1 v2 : Int} {s : Sto} (h : (((xand (xshr (s 75 58) v1) 1) ≠ 1 → G LY X 41 [rv 75, iv v1, iv v2, iv 0, iv 0, iv 0, iv 0] [] s) ∧ ((xand (xshr (s 75 58) v1) 1) = 1 → ((rg v2 ∧ rg (s 75 59)) ∧ ((v2 ≠ (s 75 59) → G LY X 41 [rv 75, iv v1, iv v2, iv 1, iv 0, iv 0, iv 0] [] s) ∧ (v2 = (s 75 59) → P 0 s)))))) : G LY X 0 [rv 75, iv v1, iv v2, none, none, none, none] [] s := by
  refine G_aload_n C dX12_placeBy_0 rfl ?_
  refine gI_X12_58 C ly_75 rfl wf_X12_382 dX12_placeBy_1 ?_
  refine G_iload_n C dX12_placeBy_4 rfl ?_
  refine G_ishr C dX12_placeBy_5 ?_
  refine G_iconst C dX12_placeBy_6 ?_
  refine G_iand C dX12_placeBy_7 ?_
  refine G_iconst C dX12_placeBy_8 ?_
  refine G_icmp_ne (tgt := 16) C dX12_placeBy_9 (by decide) ⟨(oI_rg _), (by decide)⟩ (fun q => ?_) (fun q => ?_)
  · have h := h.1 q
    refine G_iconst C dX12_placeBy_16 ?_
    refine G_istore_n (L' := [rv 75, iv v1, iv v2, iv 0, none, none, none]) C dX12_placeBy_17 (by decide) rfl ?_
    refine G_iload_n C dX12_placeBy_18 rfl ?_
    refine G_if_eq (tgt := 32) C dX12_placeBy_19 (by decide) (by decide) (fun q => ?_) (fun q => ?_)
    rotate_left
    · exact absurd q (by decide)
    refine G_iconst C dX12_placeBy_32 ?_
    refine G_istore (L' := [rv 75, iv v1, iv v2, iv 0, iv 0, none, none]) C dX12_placeBy_33 (by decide) rfl ?_
    refine G_iconst C dX12_placeBy_35 ?_
    refine G_istore (L' := [rv 75, iv v1, iv v2, iv 0, iv 0, iv 0, none]) C dX12_placeBy_36 (by decide) rfl ?_
    refine G_iconst C dX12_placeBy_38 ?_
    refine G_istore (L' := [rv 75, iv v1, iv v2, iv 0, iv 0, iv 0, iv 0]) C dX12_placeBy_39 (by decide) rfl ?_
    exact h
  · have h := h.2 q
    refine G_iconst C dX12_placeBy_12 ?_
    refine G_goto (tgt := 17) C dX12_placeBy_13 (by decide) ?_
    refine G_istore_n (L' := [rv 75, iv v1, iv v2, iv 1, none, none, none]) C dX12_placeBy_17 (by decide) rfl ?_
    refine G_iload_n C dX12_placeBy_18 rfl ?_
    refine G_if_eq (tgt := 32) C dX12_placeBy_19 (by decide) (by decide) (fun q => ?_) (fun q => ?_)
    · exact absurd q (by decide)
    refine G_iload_n C dX12_placeBy_22 rfl ?_
    refine G_aload_n C dX12_placeBy_23 rfl ?_
    refine gI_X12_59 C ly_75 rfl wf_X12_385 dX12_placeBy_24 ?_
    refine G_icmp_ne (tgt := 32) C dX12_placeBy_27 (by decide) ⟨h.1.1, h.1.2⟩ (fun q => ?_) (fun q => ?_)
    · have h := h.2.1 q
      refine G_iconst C dX12_placeBy_32 ?_
      refine G_istore (L' := [rv 75, iv v1, iv v2, iv 1, iv 0, none, none]) C dX12_placeBy_33 (by decide) rfl ?_
      refine G_iconst C dX12_placeBy_35 ?_
      refine G_istore (L' := [rv 75, iv v1, iv v2, iv 1, iv 0, iv 0, none]) C dX12_placeBy_36 (by decide) rfl ?_
      refine G_iconst C dX12_placeBy_38 ?_
      refine G_istore (L' := [rv 75, iv v1, iv v2, iv 1, iv 0, iv 0, iv 0]) C dX12_placeBy_39 (by decide) rfl ?_
      exact h
    · have h := h.2.2 q
      refine G_iconst C dX12_placeBy_30 ?_
      exact r _ _ _ _ dX12_placeBy_31 h
set_option maxRecDepth 20000 in
theorem kb_X12_placeBy_41 {X : Cx} {d : Nat} {P : Int → Sto → Prop} (C : Ok LY X RX12 cX12_placeBy 7 d) (r : RetI LY X cX12_placeBy P) {v1 v2 v3 v4 v5 v6 : Int} {s : Sto} (h : ((rg v6 ∧ rg (s 75 9)) ∧ (((s 75 9) ≤ v6 → ((rg v3) ∧ ((v3 = 0 → P v4 s) ∧ (v3 ≠ 0 → ((rg v4 ∧ rg v5) ∧ ((v5 ≤ v4 → P v4 s) ∧ (v4 < v5 → P (v4 + 1) s))))))) ∧ (v6 < (s 75 9) → ((0 ≤ ((8 * (7 + v1)) + v6) ∧ ((8 * (7 + v1)) + v6) < 168) ∧ ((rg (s 81 ((8 * (7 + v1)) + v6)) ∧ rg v2) ∧ (((s 81 ((8 * (7 + v1)) + v6)) ≠ v2 → ((0 ≤ ((8 * (7 + v1)) + v6) ∧ ((8 * (7 + v1)) + v6) < 168) ∧ ((rg (s 81 ((8 * (7 + v1)) + v6)) ∧ rg (s 75 59)) ∧ (((s 81 ((8 * (7 + v1)) + v6)) ≠ (s 75 59) → G LY X 41 [rv 75, iv v1, iv v2, iv v3, iv v4, iv v5, iv (v6 + 1)] [] s) ∧ ((s 81 ((8 * (7 + v1)) + v6)) = (s 75 59) → G LY X 41 [rv 75, iv v1, iv v2, iv v3, iv v4, iv v6, iv (v6 + 1)] [] s))))) ∧ ((s 81 ((8 * (7 + v1)) + v6)) = v2 → ((0 ≤ ((8 * (7 + v1)) + v6) ∧ ((8 * (7 + v1)) + v6) < 168) ∧ ((rg (s 81 ((8 * (7 + v1)) + v6)) ∧ rg (s 75 59)) ∧ (((s 81 ((8 * (7 + v1)) + v6)) ≠ (s 75 59) → G LY X 41 [rv 75, iv v1, iv v2, iv v3, iv v6, iv v5, iv (v6 + 1)] [] s) ∧ ((s 81 ((8 * (7 + v1)) + v6)) = (s 75 59) → G LY X 41 [rv 75, iv v1, iv v2, iv v3, iv v6, iv v6, iv (v6 + 1)] [] s)))))))))))) : G LY X 41 [rv 75, iv v1, iv v2, iv v3, iv v4, iv v5, iv v6] [] s := by
  refine G_iload C dX12_placeBy_41 rfl ?_
  refine G_aload_n C dX12_placeBy_43 rfl ?_
  refine gI_X12_9 C ly_75 rfl wf_X12_25 dX12_placeBy_44 ?_
  refine G_icmp_ge (tgt := 105) C dX12_placeBy_47 (by decide) ⟨h.1.1, h.1.2⟩ (fun q => ?_) (fun q => ?_)
  · have h := h.2.1 q
    refine G_iload_n C dX12_placeBy_105 rfl ?_
    refine G_if_eq (tgt := 123) C dX12_placeBy_106 (by decide) h.1 (fun q => ?_) (fun q => ?_)
    · have h := h.2.1 q
      refine G_iload C dX12_placeBy_123 rfl ?_
      exact r _ _ _ _ dX12_placeBy_125 h
    · have h := h.2.2 q
      refine G_iload C dX12_placeBy_109 rfl ?_
      refine G_iload C dX12_placeBy_111 rfl ?_
      refine G_icmp_ge (tgt := 123) C dX12_placeBy_113 (by decide) ⟨h.1.1, h.1.2⟩ (fun q => ?_) (fun q => ?_)
      · have h := h.2.1 q
        refine G_iload C dX12_placeBy_123 rfl ?_
        exact r _ _ _ _ dX12_placeBy_125 h
      · have h := h.2.2 q
        refine G_iload C dX12_placeBy_116 rfl ?_
        refine G_iconst C dX12_placeBy_118 ?_
        refine G_iadd C dX12_placeBy_119 ?_
        refine G_goto (tgt := 125) C dX12_placeBy_120 (by decide) ?_
        exact r _ _ _ _ dX12_placeBy_125 h
  · have h := h.2.2 q
    refine G_aload_n C dX12_placeBy_50 rfl ?_
    refine gR_X12_10 C ly_75 rfl wf_X12_29 dX12_placeBy_51 ?_
    refine G_bipush C dX12_placeBy_54 bi_8 ?_
    refine G_bipush C dX12_placeBy_56 bi_7 ?_
    refine G_iload_n C dX12_placeBy_58 rfl ?_
    refine G_iadd C dX12_placeBy_59 ?_
    refine G_imul C dX12_placeBy_60 ?_
    refine G_iload C dX12_placeBy_61 rfl ?_
    refine G_iadd C dX12_placeBy_63 ?_
    refine G_iald C ly_81 (by decide) h.1 dX12_placeBy_64 ?_
    have h := h.2
    refine G_iload_n C dX12_placeBy_65 rfl ?_
    refine G_icmp_ne (tgt := 73) C dX12_placeBy_66 (by decide) ⟨h.1.1, h.1.2⟩ (fun q => ?_) (fun q => ?_)
    · have h := h.2.1 q
      refine G_aload_n C dX12_placeBy_73 rfl ?_
      refine gR_X12_10 C ly_75 rfl wf_X12_29 dX12_placeBy_74 ?_
      refine G_bipush C dX12_placeBy_77 bi_8 ?_
      refine G_bipush C dX12_placeBy_79 bi_7 ?_
      refine G_iload_n C dX12_placeBy_81 rfl ?_
      refine G_iadd C dX12_placeBy_82 ?_
      refine G_imul C dX12_placeBy_83 ?_
      refine G_iload C dX12_placeBy_84 rfl ?_
      refine G_iadd C dX12_placeBy_86 ?_
      refine G_iald C ly_81 (by decide) h.1 dX12_placeBy_87 ?_
      have h := h.2
      refine G_aload_n C dX12_placeBy_88 rfl ?_
      refine gI_X12_59 C ly_75 rfl wf_X12_385 dX12_placeBy_89 ?_
      refine G_icmp_ne (tgt := 99) C dX12_placeBy_92 (by decide) ⟨h.1.1, h.1.2⟩ (fun q => ?_) (fun q => ?_)
      · have h := h.2.1 q
        refine G_iinc (L' := [rv 75, iv v1, iv v2, iv v3, iv v4, iv v5, iv (v6 + 1)]) C dX12_placeBy_99 (by decide) rfl rfl ?_
        refine G_goto (tgt := 41) C dX12_placeBy_102 (by decide) ?_
        exact h
      · have h := h.2.2 q
        refine G_iload C dX12_placeBy_95 rfl ?_
        refine G_istore (L' := [rv 75, iv v1, iv v2, iv v3, iv v4, iv v6, iv v6]) C dX12_placeBy_97 (by decide) rfl ?_
        refine G_iinc (L' := [rv 75, iv v1, iv v2, iv v3, iv v4, iv v6, iv (v6 + 1)]) C dX12_placeBy_99 (by decide) rfl rfl ?_
        refine G_goto (tgt := 41) C dX12_placeBy_102 (by decide) ?_
        exact h
    · have h := h.2.2 q
      refine G_iload C dX12_placeBy_69 rfl ?_
      refine G_istore (L' := [rv 75, iv v1, iv v2, iv v3, iv v6, iv v5, iv v6]) C dX12_placeBy_71 (by decide) rfl ?_
      refine G_aload_n C dX12_placeBy_73 rfl ?_
      refine gR_X12_10 C ly_75 rfl wf_X12_29 dX12_placeBy_74 ?_
      refine G_bipush C dX12_placeBy_77 bi_8 ?_
      refine G_bipush C dX12_placeBy_79 bi_7 ?_
      refine G_iload_n C dX12_placeBy_81 rfl ?_
      refine G_iadd C dX12_placeBy_82 ?_
      refine G_imul C dX12_placeBy_83 ?_
      refine G_iload C dX12_placeBy_84 rfl ?_
      refine G_iadd C dX12_placeBy_86 ?_
      refine G_iald C ly_81 (by decide) h.1 dX12_placeBy_87 ?_
      have h := h.2
      refine G_aload_n C dX12_placeBy_88 rfl ?_
      refine gI_X12_59 C ly_75 rfl wf_X12_385 dX12_placeBy_89 ?_
      refine G_icmp_ne (tgt := 99) C dX12_placeBy_92 (by decide) ⟨h.1.1, h.1.2⟩ (fun q => ?_) (fun q => ?_)
      · have h := h.2.1 q
        refine G_iinc (L' := [rv 75, iv v1, iv v2, iv v3, iv v6, iv v5, iv (v6 + 1)]) C dX12_placeBy_99 (by decide) rfl rfl ?_
        refine G_goto (tgt := 41) C dX12_placeBy_102 (by decide) ?_
        exact h
      · have h := h.2.2 q
        refine G_iload C dX12_placeBy_95 rfl ?_
        refine G_istore (L' := [rv 75, iv v1, iv v2, iv v3, iv v6, iv v6, iv v6]) C dX12_placeBy_97 (by decide) rfl ?_
        refine G_iinc (L' := [rv 75, iv v1, iv v2, iv v3, iv v6, iv v6, iv (v6 + 1)]) C dX12_placeBy_99 (by decide) rfl rfl ?_
        refine G_goto (tgt := 41) C dX12_placeBy_102 (by decide) ?_
        exact h
set_option maxRecDepth 20000 in
theorem kb_X12_findsNearest_0 {X : Cx} {d : Nat} {P : Sto → Prop} (C : Ok LY X RX12 cX12_findsNearest 5 d) (r : RetV LY X cX12_findsNearest P) {s : Sto} (h : (∀ s1 : Sto, s1 = up s 112 0 0 → G LY X 9 [rv 75, iv 1, none, none, none] [] s1)) : G LY X 0 [rv 75, none, none, none, none] [] s := by
  refine G_aload_n C dX12_findsNearest_0 rfl ?_
  refine gR_X12_62 C ly_75 rfl wf_X12_125 dX12_findsNearest_1 ?_
  refine G_iconst C dX12_findsNearest_4 ?_
  refine G_iconst C dX12_findsNearest_5 ?_
  refine G_iast C ly_112 (by decide) (by decide) dX12_findsNearest_6 ?_
  have h := h _ rfl
  obtain ⟨s1, e1⟩ : ∃ z, z = up s 112 0 0 := ⟨_, rfl⟩
  rw [← e1] at h ⊢
  refine G_iconst C dX12_findsNearest_7 ?_
  refine G_istore_n (L' := [rv 75, iv 1, none, none, none]) C dX12_findsNearest_8 (by decide) rfl ?_
  exact h
set_option maxRecDepth 20000 in
theorem kb_X12_findsNearest_9 {X : Cx} {d : Nat} {P : Sto → Prop} (C : Ok LY X RX12 cX12_findsNearest 5 d) (r : RetV LY X cX12_findsNearest P) {v1 : Int} {s : Sto} (h : ((rg v1) ∧ (((xshl 1 (s 75 9)) ≤ v1 → G LY X 93 [rv 75, iv ((xshl 1 (s 75 9)) - 1), iv 0, none, none] [] s) ∧ (v1 < (xshl 1 (s 75 9)) → G LY X 23 [rv 75, iv v1, iv (-1), iv 0, none] [] s)))) : G LY X 9 [rv 75, iv v1, none, none, none] [] s := by
  refine G_iload_n C dX12_findsNearest_9 rfl ?_
  refine G_iconst C dX12_findsNearest_10 ?_
  refine G_aload_n C dX12_findsNearest_11 rfl ?_
  refine gI_X12_9 C ly_75 rfl wf_X12_25 dX12_findsNearest_12 ?_
  refine G_ishl C dX12_findsNearest_15 ?_
  refine G_icmp_ge (tgt := 82) C dX12_findsNearest_16 (by decide) ⟨h.1, (oI_rg _)⟩ (fun q => ?_) (fun q => ?_)
  · have h := h.2.1 q
    refine G_iconst C dX12_findsNearest_82 ?_
    refine G_aload_n C dX12_findsNearest_83 rfl ?_
    refine gI_X12_9 C ly_75 rfl wf_X12_25 dX12_findsNearest_84 ?_
    refine G_ishl C dX12_findsNearest_87 ?_
    refine G_iconst C dX12_findsNearest_88 ?_
    refine G_isub C dX12_findsNearest_89 ?_
    refine G_istore_n (L' := [rv 75, iv ((xshl 1 (s 75 9)) - 1), none, none, none]) C dX12_findsNearest_90 (by decide) rfl ?_
    refine G_iconst C dX12_findsNearest_91 ?_
    refine G_istore_n (L' := [rv 75, iv ((xshl 1 (s 75 9)) - 1), iv 0, none, none]) C dX12_findsNearest_92 (by decide) rfl ?_
    exact h
  · have h := h.2.2 q
    refine G_iconst C dX12_findsNearest_19 ?_
    refine G_istore_n (L' := [rv 75, iv v1, iv (-1), none, none]) C dX12_findsNearest_20 (by decide) rfl ?_
    refine G_iconst C dX12_findsNearest_21 ?_
    refine G_istore_n (L' := [rv 75, iv v1, iv (-1), iv 0, none]) C dX12_findsNearest_22 (by decide) rfl ?_
    exact h
set_option maxRecDepth 20000 in
theorem kb_X12_findsNearest_23 {X : Cx} {d : Nat} {P : Sto → Prop} (C : Ok LY X RX12 cX12_findsNearest 5 d) (r : RetV LY X cX12_findsNearest P) {v1 v2 v3 : Int} {s : Sto} (h : ((rg v3 ∧ rg (s 75 9)) ∧ (((s 75 9) ≤ v3 → ((0 ≤ v1 ∧ v1 < 256) ∧ (∀ s1 : Sto, s1 = up s 112 v1 v2 → G LY X 9 [rv 75, iv (v1 + 1), none, none, none] [] s1))) ∧ (v3 < (s 75 9) → (((xand (xshr v1 v3) 1) ≠ 0 → (CallI LY d MX12_agreesWith [.inr 75, .inl v1, .inl v3] s (fun r2 s2 => ((rg r2 ∧ rg v2) ∧ ((r2 ≤ v2 → G LY X 23 [rv 75, iv v1, iv v2, iv (v3 + 1), none] [] s2) ∧ (v2 < r2 → G LY X 23 [rv 75, iv v1, iv r2, iv (v3 + 1), none] [] s2)))))) ∧ ((xand (xshr v1 v3) 1) = 0 → G LY X 23 [rv 75, iv v1, iv v2, iv (v3 + 1), none] [] s)))))) : G LY X 23 [rv 75, iv v1, iv v2, iv v3, none] [] s := by
  refine G_iload_n C dX12_findsNearest_23 rfl ?_
  refine G_aload_n C dX12_findsNearest_24 rfl ?_
  refine gI_X12_9 C ly_75 rfl wf_X12_25 dX12_findsNearest_25 ?_
  refine G_icmp_ge (tgt := 69) C dX12_findsNearest_28 (by decide) ⟨h.1.1, h.1.2⟩ (fun q => ?_) (fun q => ?_)
  · have h := h.2.1 q
    refine G_aload_n C dX12_findsNearest_69 rfl ?_
    refine gR_X12_62 C ly_75 rfl wf_X12_125 dX12_findsNearest_70 ?_
    refine G_iload_n C dX12_findsNearest_73 rfl ?_
    refine G_iload_n C dX12_findsNearest_74 rfl ?_
    refine G_iast C ly_112 (by decide) h.1 dX12_findsNearest_75 ?_
    have h := h.2
    have h := h _ rfl
    obtain ⟨s1, e1⟩ : ∃ z, z = up s 112 v1 v2 := ⟨_, rfl⟩
    rw [← e1] at h ⊢
    refine G_iinc (L' := [rv 75, iv (v1 + 1), iv v2, iv v3, none]) C dX12_findsNearest_76 (by decide) rfl rfl ?_
    refine G_goto (tgt := 9) C dX12_findsNearest_79 (by decide) ?_
    refine G_drop (i := 2) (L' := [rv 75, iv (v1 + 1), none, iv v3, none]) rfl ?_
    refine G_drop (i := 3) (L' := [rv 75, iv (v1 + 1), none, none, none]) rfl ?_
    exact h
  · have h := h.2.2 q
    refine G_iload_n C dX12_findsNearest_31 rfl ?_
    refine G_iload_n C dX12_findsNearest_32 rfl ?_
    refine G_ishr C dX12_findsNearest_33 ?_
    refine G_iconst C dX12_findsNearest_34 ?_
    refine G_iand C dX12_findsNearest_35 ?_
    refine G_if_ne (tgt := 42) C dX12_findsNearest_36 (by decide) (oI_rg _) (fun q => ?_) (fun q => ?_)
    · have h := h.1 q
      refine G_aload_n C dX12_findsNearest_42 rfl ?_
      refine G_iload_n C dX12_findsNearest_43 rfl ?_
      refine G_iload_n C dX12_findsNearest_44 rfl ?_
      refine G_callVI (K := []) (args := [.inl v1, .inl v3]) (T := TX12) (N := 72) C ly_75 rfl (Nat.le_of_ble_eq_true rfl) mo_X12_agreesWith wc_X12_391 rfl dX12_findsNearest_45 h (fun r2 s2 h => ?_)
      refine G_istore (L' := [rv 75, iv v1, iv v2, iv v3, iv r2]) C dX12_findsNearest_48 (by decide) rfl ?_
      refine G_iload C dX12_findsNearest_50 rfl ?_
      refine G_iload_n C dX12_findsNearest_52 rfl ?_
      refine G_icmp_le (tgt := 61) C dX12_findsNearest_53 (by decide) ⟨h.1.1, h.1.2⟩ (fun q => ?_) (fun q => ?_)
      · have h := h.2.1 q
        refine G_iload_n C dX12_findsNearest_61 rfl ?_
        refine G_istore_n (L' := [rv 75, iv v1, iv v2, iv v3, iv r2]) C dX12_findsNearest_62 (by decide) rfl ?_
        refine G_iinc (L' := [rv 75, iv v1, iv v2, iv (v3 + 1), iv r2]) C dX12_findsNearest_63 (by decide) rfl rfl ?_
        refine G_goto (tgt := 23) C dX12_findsNearest_66 (by decide) ?_
        refine G_drop (i := 4) (L' := [rv 75, iv v1, iv v2, iv (v3 + 1), none]) rfl ?_
        exact h
      · have h := h.2.2 q
        refine G_iload C dX12_findsNearest_56 rfl ?_
        refine G_goto (tgt := 62) C dX12_findsNearest_58 (by decide) ?_
        refine G_istore_n (L' := [rv 75, iv v1, iv r2, iv v3, iv r2]) C dX12_findsNearest_62 (by decide) rfl ?_
        refine G_iinc (L' := [rv 75, iv v1, iv r2, iv (v3 + 1), iv r2]) C dX12_findsNearest_63 (by decide) rfl rfl ?_
        refine G_goto (tgt := 23) C dX12_findsNearest_66 (by decide) ?_
        refine G_drop (i := 4) (L' := [rv 75, iv v1, iv r2, iv (v3 + 1), none]) rfl ?_
        exact h
    · have h := h.2 q
      refine G_goto (tgt := 63) C dX12_findsNearest_39 (by decide) ?_
      refine G_iinc (L' := [rv 75, iv v1, iv v2, iv (v3 + 1), none]) C dX12_findsNearest_63 (by decide) rfl rfl ?_
      refine G_goto (tgt := 23) C dX12_findsNearest_66 (by decide) ?_
      exact h
set_option maxRecDepth 20000 in
theorem kb_X12_findsNearest_93 {X : Cx} {d : Nat} {P : Sto → Prop} (C : Ok LY X RX12 cX12_findsNearest 5 d) (r : RetV LY X cX12_findsNearest P) {v1 v2 : Int} {s : Sto} (h : ((rg v2 ∧ rg (s 75 9)) ∧ (((s 75 9) ≤ v2 → P s) ∧ (v2 < (s 75 9) → G LY X 103 [rv 75, iv v1, iv v2, iv 0, none] [] s)))) : G LY X 93 [rv 75, iv v1, iv v2, none, none] [] s := by
  refine G_iload_n C dX12_findsNearest_93 rfl ?_
  refine G_aload_n C dX12_findsNearest_94 rfl ?_
  refine gI_X12_9 C ly_75 rfl wf_X12_25 dX12_findsNearest_95 ?_
  refine G_icmp_ge (tgt := 158) C dX12_findsNearest_98 (by decide) ⟨h.1.1, h.1.2⟩ (fun q => ?_) (fun q => ?_)
  · have h := h.2.1 q
    exact r _ _ _ dX12_findsNearest_158 h
  · have h := h.2.2 q
    refine G_iconst C dX12_findsNearest_101 ?_
    refine G_istore_n (L' := [rv 75, iv v1, iv v2, iv 0, none]) C dX12_findsNearest_102 (by decide) rfl ?_
    exact h
set_option maxRecDepth 20000 in
theorem kb_X12_findsNearest_103 {X : Cx} {d : Nat} {P : Sto → Prop} (C : Ok LY X RX12 cX12_findsNearest 5 d) (r : RetV LY X cX12_findsNearest P) {v1 v2 v3 : Int} {s : Sto} (h : (((xand (xshr v1 v3) 1) = 0 → G LY X 103 [rv 75, iv v1, iv v2, iv (v3 + 1), none] [] s) ∧ ((xand (xshr v1 v3) 1) ≠ 0 → (CallI LY d MX12_agreesWith [.inr 75, .inl v1, .inl v3] s (fun r1 s1 => ((0 ≤ v1 ∧ v1 < 256) ∧ ((rg r1 ∧ rg (s1 112 v1)) ∧ ((r1 = (s1 112 v1) → ((0 ≤ (160 + v2) ∧ (160 + v2) < 168) ∧ (∀ s2 : Sto, s2 = up s1 81 (160 + v2) v3 → G LY X 93 [rv 75, iv (xand v1 (xxor (xshl 1 v3) (-1))), iv (v2 + 1), none, none] [] s2))) ∧ (r1 ≠ (s1 112 v1) → G LY X 103 [rv 75, iv v1, iv v2, iv (v3 + 1), none] [] s1))))))))) : G LY X 103 [rv 75, iv v1, iv v2, iv v3, none] [] s := by
  refine G_iload_n C dX12_findsNearest_103 rfl ?_
  refine G_iload_n C dX12_findsNearest_104 rfl ?_
  refine G_ishr C dX12_findsNearest_105 ?_
  refine G_iconst C dX12_findsNearest_106 ?_
  refine G_iand C dX12_findsNearest_107 ?_
  refine G_if_eq (tgt := 126) C dX12_findsNearest_108 (by decide) (oI_rg _) (fun q => ?_) (fun q => ?_)
  · have h := h.1 q
    refine G_iload_n C dX12_findsNearest_126 rfl ?_
    refine G_iconst C dX12_findsNearest_127 ?_
    refine G_iadd C dX12_findsNearest_128 ?_
    refine G_istore_n (L' := [rv 75, iv v1, iv v2, iv (v3 + 1), none]) C dX12_findsNearest_129 (by decide) rfl ?_
    refine G_goto (tgt := 103) C dX12_findsNearest_130 (by decide) ?_
    exact h
  · have h := h.2 q
    refine G_aload_n C dX12_findsNearest_111 rfl ?_
    refine G_iload_n C dX12_findsNearest_112 rfl ?_
    refine G_iload_n C dX12_findsNearest_113 rfl ?_
    refine G_callVI (K := []) (args := [.inl v1, .inl v3]) (T := TX12) (N := 72) C ly_75 rfl (Nat.le_of_ble_eq_true rfl) mo_X12_agreesWith wc_X12_391 rfl dX12_findsNearest_114 h (fun r1 s1 h => ?_)
    refine G_aload_n C dX12_findsNearest_117 rfl ?_
    refine gR_X12_62 C ly_75 rfl wf_X12_125 dX12_findsNearest_118 ?_
    refine G_iload_n C dX12_findsNearest_121 rfl ?_
    refine G_iald C ly_112 (by decide) h.1 dX12_findsNearest_122 ?_
    have h := h.2
    refine G_icmp_eq (tgt := 133) C dX12_findsNearest_123 (by decide) ⟨h.1.1, h.1.2⟩ (fun q => ?_) (fun q => ?_)
    · have h := h.2.1 q
      refine G_aload_n C dX12_findsNearest_133 rfl ?_
      refine gR_X12_10 C ly_75 rfl wf_X12_29 dX12_findsNearest_134 ?_
      refine G_sipush C dX12_findsNearest_137 si_160 ?_
      refine G_iload_n C dX12_findsNearest_140 rfl ?_
      refine G_iadd C dX12_findsNearest_141 ?_
      refine G_iload_n C dX12_findsNearest_142 rfl ?_
      refine G_iast C ly_81 (by decide) h.1 dX12_findsNearest_143 ?_
      have h := h.2
      have h := h _ rfl
      obtain ⟨s2, e2⟩ : ∃ z, z = up s1 81 (160 + v2) v3 := ⟨_, rfl⟩
      rw [← e2] at h ⊢
      refine G_iload_n C dX12_findsNearest_144 rfl ?_
      refine G_iconst C dX12_findsNearest_145 ?_
      refine G_iload_n C dX12_findsNearest_146 rfl ?_
      refine G_ishl C dX12_findsNearest_147 ?_
      refine G_iconst C dX12_findsNearest_148 ?_
      refine G_ixor C dX12_findsNearest_149 ?_
      refine G_iand C dX12_findsNearest_150 ?_
      refine G_istore_n (L' := [rv 75, iv (xand v1 (xxor (xshl 1 v3) (-1))), iv v2, iv v3, none]) C dX12_findsNearest_151 (by decide) rfl ?_
      refine G_iinc (L' := [rv 75, iv (xand v1 (xxor (xshl 1 v3) (-1))), iv (v2 + 1), iv v3, none]) C dX12_findsNearest_152 (by decide) rfl rfl ?_
      refine G_goto (tgt := 93) C dX12_findsNearest_155 (by decide) ?_
      refine G_drop (i := 3) (L' := [rv 75, iv (xand v1 (xxor (xshl 1 v3) (-1))), iv (v2 + 1), none, none]) rfl ?_
      exact h
    · have h := h.2.2 q
      refine G_iload_n C dX12_findsNearest_126 rfl ?_
      refine G_iconst C dX12_findsNearest_127 ?_
      refine G_iadd C dX12_findsNearest_128 ?_
      refine G_istore_n (L' := [rv 75, iv v1, iv v2, iv (v3 + 1), none]) C dX12_findsNearest_129 (by decide) rfl ?_
      refine G_goto (tgt := 103) C dX12_findsNearest_130 (by decide) ?_
      exact h
set_option maxRecDepth 20000 in
theorem kb_X12_beatenBy_0 {X : Cx} {d : Nat} {P : Int → Sto → Prop} (C : Ok LY X RX12 cX12_beatenBy 4 d) (r : RetI LY X cX12_beatenBy P) {v1 : Int} {s : Sto} (h : G LY X 4 [rv 75, iv v1, iv 0, iv 0] [] s) : G LY X 0 [rv 75, iv v1, none, none] [] s := by
  refine G_iconst C dX12_beatenBy_0 ?_
  refine G_istore_n (L' := [rv 75, iv v1, iv 0, none]) C dX12_beatenBy_1 (by decide) rfl ?_
  refine G_iconst C dX12_beatenBy_2 ?_
  refine G_istore_n (L' := [rv 75, iv v1, iv 0, iv 0]) C dX12_beatenBy_3 (by decide) rfl ?_
  exact h
set_option maxRecDepth 20000 in
theorem kb_X12_beatenBy_4 {X : Cx} {d : Nat} {P : Int → Sto → Prop} (C : Ok LY X RX12 cX12_beatenBy 4 d) (r : RetI LY X cX12_beatenBy P) {v1 v2 v3 : Int} {s : Sto} (h : ((rg v3 ∧ rg (s 75 9)) ∧ (((s 75 9) ≤ v3 → P v2 s) ∧ (v3 < (s 75 9) → ((0 ≤ ((8 * v1) + v3) ∧ ((8 * v1) + v3) < 64) ∧ ((0 ≤ ((8 * v3) + v1) ∧ ((8 * v3) + v1) < 64) ∧ ((rg (s 110 ((8 * v1) + v3)) ∧ rg (s 110 ((8 * v3) + v1))) ∧ (((s 110 ((8 * v1) + v3)) ≤ (s 110 ((8 * v3) + v1)) → G LY X 4 [rv 75, iv v1, iv v2, iv (v3 + 1)] [] s) ∧ ((s 110 ((8 * v3) + v1)) < (s 110 ((8 * v1) + v3)) → G LY X 4 [rv 75, iv v1, iv (v2 + 1), iv (v3 + 1)] [] s))))))))) : G LY X 4 [rv 75, iv v1, iv v2, iv v3] [] s := by
  refine G_iload_n C dX12_beatenBy_4 rfl ?_
  refine G_aload_n C dX12_beatenBy_5 rfl ?_
  refine gI_X12_9 C ly_75 rfl wf_X12_25 dX12_beatenBy_6 ?_
  refine G_icmp_ge (tgt := 47) C dX12_beatenBy_9 (by decide) ⟨h.1.1, h.1.2⟩ (fun q => ?_) (fun q => ?_)
  · have h := h.2.1 q
    refine G_iload_n C dX12_beatenBy_47 rfl ?_
    exact r _ _ _ _ dX12_beatenBy_48 h
  · have h := h.2.2 q
    refine G_aload_n C dX12_beatenBy_12 rfl ?_
    refine gR_X12_60 C ly_75 rfl wf_X12_119 dX12_beatenBy_13 ?_
    refine G_bipush C dX12_beatenBy_16 bi_8 ?_
    refine G_iload_n C dX12_beatenBy_18 rfl ?_
    refine G_imul C dX12_beatenBy_19 ?_
    refine G_iload_n C dX12_beatenBy_20 rfl ?_
    refine G_iadd C dX12_beatenBy_21 ?_
    refine G_iald C ly_110 (by decide) h.1 dX12_beatenBy_22 ?_
    have h := h.2
    refine G_aload_n C dX12_beatenBy_23 rfl ?_
    refine gR_X12_60 C ly_75 rfl wf_X12_119 dX12_beatenBy_24 ?_
    refine G_bipush C dX12_beatenBy_27 bi_8 ?_
    refine G_iload_n C dX12_beatenBy_29 rfl ?_
    refine G_imul C dX12_beatenBy_30 ?_
    refine G_iload_n C dX12_beatenBy_31 rfl ?_
    refine G_iadd C dX12_beatenBy_32 ?_
    refine G_iald C ly_110 (by decide) h.1 dX12_beatenBy_33 ?_
    have h := h.2
    refine G_icmp_le (tgt := 41) C dX12_beatenBy_34 (by decide) ⟨h.1.1, h.1.2⟩ (fun q => ?_) (fun q => ?_)
    · have h := h.2.1 q
      refine G_iinc (L' := [rv 75, iv v1, iv v2, iv (v3 + 1)]) C dX12_beatenBy_41 (by decide) rfl rfl ?_
      refine G_goto (tgt := 4) C dX12_beatenBy_44 (by decide) ?_
      exact h
    · have h := h.2.2 q
      refine G_iload_n C dX12_beatenBy_37 rfl ?_
      refine G_iconst C dX12_beatenBy_38 ?_
      refine G_iadd C dX12_beatenBy_39 ?_
      refine G_istore_n (L' := [rv 75, iv v1, iv (v2 + 1), iv v3]) C dX12_beatenBy_40 (by decide) rfl ?_
      refine G_iinc (L' := [rv 75, iv v1, iv (v2 + 1), iv (v3 + 1)]) C dX12_beatenBy_41 (by decide) rfl rfl ?_
      refine G_goto (tgt := 4) C dX12_beatenBy_44 (by decide) ?_
      exact h
set_option maxRecDepth 20000 in
theorem kb_X12_pointsOf_0 {X : Cx} {d : Nat} {P : Int → Sto → Prop} (C : Ok LY X RX12 cX12_pointsOf 4 d) (r : RetI LY X cX12_pointsOf P) {v1 : Int} {s : Sto} (h : G LY X 4 [rv 75, iv v1, iv 0, iv 0] [] s) : G LY X 0 [rv 75, iv v1, none, none] [] s := by
  refine G_iconst C dX12_pointsOf_0 ?_
  refine G_istore_n (L' := [rv 75, iv v1, iv 0, none]) C dX12_pointsOf_1 (by decide) rfl ?_
  refine G_iconst C dX12_pointsOf_2 ?_
  refine G_istore_n (L' := [rv 75, iv v1, iv 0, iv 0]) C dX12_pointsOf_3 (by decide) rfl ?_
  exact h
set_option maxRecDepth 20000 in
theorem kb_X12_pointsOf_4 {X : Cx} {d : Nat} {P : Int → Sto → Prop} (C : Ok LY X RX12 cX12_pointsOf 4 d) (r : RetI LY X cX12_pointsOf P) {v1 v2 v3 : Int} {s : Sto} (h : ((rg v3 ∧ rg (s 75 18)) ∧ (((s 75 18) ≤ v3 → P v2 s) ∧ (v3 < (s 75 18) → ((0 ≤ v3 ∧ v3 < 12) ∧ (CallI LY d MX12_placeBy [.inr 75, .inl v3, .inl v1] s (fun r1 s1 => G LY X 4 [rv 75, iv v1, iv (v2 + ((s 89 v3) * (((s 75 9) - 1) - r1))), iv (v3 + 1)] [] s1))))))) : G LY X 4 [rv 75, iv v1, iv v2, iv v3] [] s := by
  refine G_iload_n C dX12_pointsOf_4 rfl ?_
  refine G_aload_n C dX12_pointsOf_5 rfl ?_
  refine gI_X12_18 C ly_75 rfl wf_X12_174 dX12_pointsOf_6 ?_
  refine G_icmp_ge (tgt := 41) C dX12_pointsOf_9 (by decide) ⟨h.1.1, h.1.2⟩ (fun q => ?_) (fun q => ?_)
  · have h := h.2.1 q
    refine G_iload_n C dX12_pointsOf_41 rfl ?_
    exact r _ _ _ _ dX12_pointsOf_42 h
  · have h := h.2.2 q
    refine G_iload_n C dX12_pointsOf_12 rfl ?_
    refine G_aload_n C dX12_pointsOf_13 rfl ?_
    refine gR_X12_19 C ly_75 rfl wf_X12_53 dX12_pointsOf_14 ?_
    refine G_iload_n C dX12_pointsOf_17 rfl ?_
    refine G_iald C ly_89 (by decide) h.1 dX12_pointsOf_18 ?_
    have h := h.2
    refine G_aload_n C dX12_pointsOf_19 rfl ?_
    refine gI_X12_9 C ly_75 rfl wf_X12_25 dX12_pointsOf_20 ?_
    refine G_iconst C dX12_pointsOf_23 ?_
    refine G_isub C dX12_pointsOf_24 ?_
    refine G_aload_n C dX12_pointsOf_25 rfl ?_
    refine G_iload_n C dX12_pointsOf_26 rfl ?_
    refine G_iload_n C dX12_pointsOf_27 rfl ?_
    refine G_callVI (K := [.inl ((s 75 9) - 1), .inl (s 89 v3), .inl v2]) (args := [.inl v3, .inl v1]) (T := TX12) (N := 72) C ly_75 rfl (Nat.le_of_ble_eq_true rfl) mo_X12_placeBy wc_X12_388 rfl dX12_pointsOf_28 h (fun r1 s1 h => ?_)
    refine G_isub C dX12_pointsOf_31 ?_
    refine G_imul C dX12_pointsOf_32 ?_
    refine G_iadd C dX12_pointsOf_33 ?_
    refine G_istore_n (L' := [rv 75, iv v1, iv (v2 + ((s 89 v3) * (((s 75 9) - 1) - r1))), iv v3]) C dX12_pointsOf_34 (by decide) rfl ?_
    refine G_iinc (L' := [rv 75, iv v1, iv (v2 + ((s 89 v3) * (((s 75 9) - 1) - r1))), iv (v3 + 1)]) C dX12_pointsOf_35 (by decide) rfl rfl ?_
    refine G_goto (tgt := 4) C dX12_pointsOf_38 (by decide) ?_
    exact h
set_option maxRecDepth 20000 in
theorem kb_X12_draw_0 {X : Cx} {d : Nat} {P : Int → Sto → Prop} (C : Ok LY X RX12 cX12_draw 2 d) (r : RetI LY X cX12_draw P) {v1 : Int} {s : Sto} (h : (∀ s1 : Sto, s1 = up s 75 1 (wr ((wr (1664525 * (s 75 1))) + 1013904223)) → ((rg v1 ∧ v1 ≠ 0) ∧ P (xrem (xushr (s1 75 1) 8) v1) s1))) : G LY X 0 [rv 75, iv v1] [] s := by
  refine G_aload_n C dX12_draw_0 rfl ?_
  refine G_ldc C wk_X12_152 (z := 1664525) (by decide) dX12_draw_1 ?_
  refine G_aload_n C dX12_draw_3 rfl ?_
  refine gI_X12_1 C ly_75 rfl wf_X12_149 dX12_draw_4 ?_
  refine G_imul C dX12_draw_7 ?_
  refine G_wr ?_
  refine G_ldc C wk_X12_153 (z := 1013904223) (by decide) dX12_draw_8 ?_
  refine G_iadd C dX12_draw_10 ?_
  refine G_wr ?_
  refine gP_X12_1 C ly_75 rfl wf_X12_149 dX12_draw_11 ?_
  have h := h _ rfl
  obtain ⟨s1, e1⟩ : ∃ z, z = up s 75 1 (wr ((wr (1664525 * (s 75 1))) + 1013904223)) := ⟨_, rfl⟩
  rw [← e1] at h ⊢
  refine G_aload_n C dX12_draw_14 rfl ?_
  refine gI_X12_1 C ly_75 rfl wf_X12_149 dX12_draw_15 ?_
  refine G_bipush C dX12_draw_18 bi_8 ?_
  refine G_iushr C dX12_draw_20 ?_
  refine G_iload_n C dX12_draw_21 rfl ?_
  refine G_irem C dX12_draw_22 h.1 ?_
  have h := h.2
  exact r _ _ _ _ dX12_draw_23 h
set_option maxRecDepth 20000 in
theorem kb_X8_runEnd_0 {X : Cx} {d : Nat} {P : Int → Sto → Prop} (C : Ok LY X RX8 cX8_runEnd 5 d) (r : RetI LY X cX8_runEnd P) {v1 : Int} {s : Sto} (h : ((0 ≤ v1 ∧ v1 < 400) ∧ (CallI LY d MX9_isLetter [.inl (s 2 v1)] s (fun r1 s1 => ((0 ≤ v1 ∧ v1 < 400) ∧ (CallI LY d MX9_isDigit [.inl (s1 2 v1)] s1 (fun r2 s2 => G LY X 25 [rv 1, iv v1, iv r1, iv r2, iv (v1 + 1)] [] s2))))))) : G LY X 0 [rv 1, iv v1, none, none, none] [] s := by
  refine G_aload_n C dX8_runEnd_0 rfl ?_
  refine gR_X9_0 C ly_1 rfl wf_X8_55 dX8_runEnd_1 ?_
  refine G_iload_n C dX8_runEnd_4 rfl ?_
  refine G_iald C ly_2 (by decide) h.1 dX8_runEnd_5 ?_
  have h := h.2
  refine G_callSI (K := []) (args := [.inl (s 2 v1)]) C (Nat.le_of_ble_eq_true rfl) mo_X9_isLetter wc_X8_72 rfl dX8_runEnd_6 h (fun r1 s1 h => ?_)
  refine G_istore_n (L' := [rv 1, iv v1, iv r1, none, none]) C dX8_runEnd_9 (by decide) rfl ?_
  refine G_aload_n C dX8_runEnd_10 rfl ?_
  refine gR_X9_0 C ly_1 rfl wf_X8_55 dX8_runEnd_11 ?_
  refine G_iload_n C dX8_runEnd_14 rfl ?_
  refine G_iald C ly_2 (by decide) h.1 dX8_runEnd_15 ?_
  have h := h.2
  refine G_callSI (K := []) (args := [.inl (s1 2 v1)]) C (Nat.le_of_ble_eq_true rfl) mo_X9_isDigit wc_X8_75 rfl dX8_runEnd_16 h (fun r2 s2 h => ?_)
  refine G_istore_n (L' := [rv 1, iv v1, iv r1, iv r2, none]) C dX8_runEnd_19 (by decide) rfl ?_
  refine G_iload_n C dX8_runEnd_20 rfl ?_
  refine G_iconst C dX8_runEnd_21 ?_
  refine G_iadd C dX8_runEnd_22 ?_
  refine G_istore (L' := [rv 1, iv v1, iv r1, iv r2, iv (v1 + 1)]) C dX8_runEnd_23 (by decide) rfl ?_
  exact h
set_option maxRecDepth 20000 in
theorem kb_X8_runEnd_25 {X : Cx} {d : Nat} {P : Int → Sto → Prop} (C : Ok LY X RX8 cX8_runEnd 5 d) (r : RetI LY X cX8_runEnd P) {v1 v2 v3 v4 : Int} {s : Sto} (h : ((rg v4 ∧ rg (s 1 1)) ∧ (((s 1 1) ≤ v4 → P v4 s) ∧ (v4 < (s 1 1) → ((rg v2) ∧ ((v2 = 0 → ((rg v3) ∧ ((v3 = 0 → P v4 s) ∧ (v3 ≠ 0 → ((0 ≤ v4 ∧ v4 < 400) ∧ (CallI LY d MX9_isDigit [.inl (s 2 v4)] s (fun r1 s1 => ((rg r1) ∧ ((r1 = 0 → P v4 s1) ∧ (r1 ≠ 0 → G LY X 25 [rv 1, iv v1, iv v2, iv v3, iv (v4 + 1)] [] s1)))))))))) ∧ (v2 ≠ 0 → ((0 ≤ v4 ∧ v4 < 400) ∧ (CallI LY d MX9_isLetter [.inl (s 2 v4)] s (fun r2 s2 => ((rg r2) ∧ ((r2 ≠ 0 → G LY X 25 [rv 1, iv v1, iv v2, iv v3, iv (v4 + 1)] [] s2) ∧ (r2 = 0 → ((rg v3) ∧ ((v3 = 0 → P v4 s2) ∧ (v3 ≠ 0 → ((0 ≤ v4 ∧ v4 < 400) ∧ (CallI LY d MX9_isDigit [.inl (s2 2 v4)] s2 (fun r3 s3 => ((rg r3) ∧ ((r3 = 0 → P v4 s3) ∧ (r3 ≠ 0 → G LY X 25 [rv 1, iv v1, iv v2, iv v3, iv (v4 + 1)] [] s3)))))))))))))))))))))) : G LY X 25 [rv 1, iv v1, iv v2, iv v3, iv v4] [] s := by
  refine G_iload C dX8_runEnd_25 rfl ?_
  refine G_aload_n C dX8_runEnd_27 rfl ?_
  refine gI_X9_1 C ly_1 rfl wf_X8_46 dX8_runEnd_28 ?_
  refine G_icmp_ge (tgt := 74) C dX8_runEnd_31 (by decide) ⟨h.1.1, h.1.2⟩ (fun q => ?_) (fun q => ?_)
  · have h := h.2.1 q
    refine G_iload C dX8_runEnd_74 rfl ?_
    exact r _ _ _ _ dX8_runEnd_76 h
  · have h := h.2.2 q
    refine G_iload_n C dX8_runEnd_34 rfl ?_
    refine G_if_eq (tgt := 51) C dX8_runEnd_35 (by decide) h.1 (fun q => ?_) (fun q => ?_)
    · have h := h.2.1 q
      refine G_iload_n C dX8_runEnd_51 rfl ?_
      refine G_if_eq (tgt := 74) C dX8_runEnd_52 (by decide) h.1 (fun q => ?_) (fun q => ?_)
      · have h := h.2.1 q
        refine G_iload C dX8_runEnd_74 rfl ?_
        exact r _ _ _ _ dX8_runEnd_76 h
      · have h := h.2.2 q
        refine G_aload_n C dX8_runEnd_55 rfl ?_
        refine gR_X9_0 C ly_1 rfl wf_X8_55 dX8_runEnd_56 ?_
        refine G_iload C dX8_runEnd_59 rfl ?_
        refine G_iald C ly_2 (by decide) h.1 dX8_runEnd_61 ?_
        have h := h.2
        refine G_callSI (K := []) (args := [.inl (s 2 v4)]) C (Nat.le_of_ble_eq_true rfl) mo_X9_isDigit wc_X8_75 rfl dX8_runEnd_62 h (fun r1 s1 h => ?_)
        refine G_if_eq (tgt := 74) C dX8_runEnd_65 (by decide) h.1 (fun q => ?_) (fun q => ?_)
        · have h := h.2.1 q
          refine G_iload C dX8_runEnd_74 rfl ?_
          exact r _ _ _ _ dX8_runEnd_76 h
        · have h := h.2.2 q
          refine G_iinc (L' := [rv 1, iv v1, iv v2, iv v3, iv (v4 + 1)]) C dX8_runEnd_68 (by decide) rfl rfl ?_
          refine G_goto (tgt := 25) C dX8_runEnd_71 (by decide) ?_
          exact h
    · have h := h.2.2 q
      refine G_aload_n C dX8_runEnd_38 rfl ?_
      refine gR_X9_0 C ly_1 rfl wf_X8_55 dX8_runEnd_39 ?_
      refine G_iload C dX8_runEnd_42 rfl ?_
      refine G_iald C ly_2 (by decide) h.1 dX8_runEnd_44 ?_
      have h := h.2
      refine G_callSI (K := []) (args := [.inl (s 2 v4)]) C (Nat.le_of_ble_eq_true rfl) mo_X9_isLetter wc_X8_72 rfl dX8_runEnd_45 h (fun r2 s2 h => ?_)
      refine G_if_ne (tgt := 68) C dX8_runEnd_48 (by decide) h.1 (fun q => ?_) (fun q => ?_)
      · have h := h.2.1 q
        refine G_iinc (L' := [rv 1, iv v1, iv v2, iv v3, iv (v4 + 1)]) C dX8_runEnd_68 (by decide) rfl rfl ?_
        refine G_goto (tgt := 25) C dX8_runEnd_71 (by decide) ?_
        exact h
      · have h := h.2.2 q
        refine G_iload_n C dX8_runEnd_51 rfl ?_
        refine G_if_eq (tgt := 74) C dX8_runEnd_52 (by decide) h.1 (fun q => ?_) (fun q => ?_)
        · have h := h.2.1 q
          refine G_iload C dX8_runEnd_74 rfl ?_
          exact r _ _ _ _ dX8_runEnd_76 h
        · have h := h.2.2 q
          refine G_aload_n C dX8_runEnd_55 rfl ?_
          refine gR_X9_0 C ly_1 rfl wf_X8_55 dX8_runEnd_56 ?_
          refine G_iload C dX8_runEnd_59 rfl ?_
          refine G_iald C ly_2 (by decide) h.1 dX8_runEnd_61 ?_
          have h := h.2
          refine G_callSI (K := []) (args := [.inl (s2 2 v4)]) C (Nat.le_of_ble_eq_true rfl) mo_X9_isDigit wc_X8_75 rfl dX8_runEnd_62 h (fun r3 s3 h => ?_)
          refine G_if_eq (tgt := 74) C dX8_runEnd_65 (by decide) h.1 (fun q => ?_) (fun q => ?_)
          · have h := h.2.1 q
            refine G_iload C dX8_runEnd_74 rfl ?_
            exact r _ _ _ _ dX8_runEnd_76 h
          · have h := h.2.2 q
            refine G_iinc (L' := [rv 1, iv v1, iv v2, iv v3, iv (v4 + 1)]) C dX8_runEnd_68 (by decide) rfl rfl ?_
            refine G_goto (tgt := 25) C dX8_runEnd_71 (by decide) ?_
            exact h
set_option maxRecDepth 20000 in
theorem kb_X9_isBlank_0 {X : Cx} {d : Nat} {P : Int → Sto → Prop} (C : Ok LY X RX9 cX9_isBlank 1 d) (r : RetZ LY X cX9_isBlank P) {v0 : Int} {s : Sto} (h : ((rg v0) ∧ ((v0 = 32 → P 1 s) ∧ (v0 ≠ 32 → ((rg v0) ∧ ((v0 ≠ 10 → P 0 s) ∧ (v0 = 10 → P 1 s))))))) : G LY X 0 [iv v0] [] s := by
  refine G_iload_n C dX9_isBlank_0 rfl ?_
  refine G_bipush C dX9_isBlank_1 bi_32 ?_
  refine G_icmp_eq (tgt := 12) C dX9_isBlank_3 (by decide) ⟨h.1, (by decide)⟩ (fun q => ?_) (fun q => ?_)
  · have h := h.2.1 q
    refine G_iconst C dX9_isBlank_12 ?_
    refine G_goto (tgt := 17) C dX9_isBlank_13 (by decide) ?_
    exact r _ _ _ _ dX9_isBlank_17 (by decide) h
  · have h := h.2.2 q
    refine G_iload_n C dX9_isBlank_6 rfl ?_
    refine G_bipush C dX9_isBlank_7 bi_10 ?_
    refine G_icmp_ne (tgt := 16) C dX9_isBlank_9 (by decide) ⟨h.1, (by decide)⟩ (fun q => ?_) (fun q => ?_)
    · have h := h.2.1 q
      refine G_iconst C dX9_isBlank_16 ?_
      exact r _ _ _ _ dX9_isBlank_17 (by decide) h
    · have h := h.2.2 q
      refine G_iconst C dX9_isBlank_12 ?_
      refine G_goto (tgt := 17) C dX9_isBlank_13 (by decide) ?_
      exact r _ _ _ _ dX9_isBlank_17 (by decide) h
set_option maxRecDepth 20000 in
theorem kb_X8_tokenOf_0 {X : Cx} {d : Nat} {P : Int → Sto → Prop} (C : Ok LY X RX8 cX8_tokenOf 5 d) (r : RetI LY X cX8_tokenOf P) {v1 v2 : Int} {s : Sto} (h : ((0 ≤ v1 ∧ v1 < 400) ∧ (CallI LY d MX9_isLetter [.inl (s 2 v1)] s (fun r1 s1 => ((rg r1) ∧ ((r1 = 0 → (CallI LY d MX9_isDigit [.inl (s 2 v1)] s1 (fun r2 s2 => ((rg r2) ∧ ((r2 = 0 → (CallI LY d MJ0_indexOf_0f7a4 [.inr 503, .inl (xi2c (s 2 v1))] s2 (fun r3 s3 => ((rg r3) ∧ ((0 ≤ r3 → P (10100 + r3) s3) ∧ (r3 < 0 → P 10201 s3)))))) ∧ (r2 ≠ 0 → (CallI LY d MX8_numberOf [.inr 1, .inl v1, .inl v2] s2 (fun r4 s4 => P r4 s4)))))))) ∧ (r1 ≠ 0 → (CallI LY d MX8_wordOf [.inr 1, .inl v1, .inl v2] s1 (fun r5 s5 => P r5 s5))))))))) : G LY X 0 [rv 1, iv v1, iv v2, none, none] [] s := by
  refine G_aload_n C dX8_tokenOf_0 rfl ?_
  refine gR_X9_0 C ly_1 rfl wf_X8_55 dX8_tokenOf_1 ?_
  refine G_iload_n C dX8_tokenOf_4 rfl ?_
  refine G_iald C ly_2 (by decide) h.1 dX8_tokenOf_5 ?_
  have h := h.2
  refine G_istore_n (L' := [rv 1, iv v1, iv v2, iv (s 2 v1), none]) C dX8_tokenOf_6 (by decide) rfl ?_
  refine G_iload_n C dX8_tokenOf_7 rfl ?_
  refine G_callSI (K := []) (args := [.inl (s 2 v1)]) C (Nat.le_of_ble_eq_true rfl) mo_X9_isLetter wc_X8_72 rfl dX8_tokenOf_8 h (fun r1 s1 h => ?_)
  refine G_if_eq (tgt := 21) C dX8_tokenOf_11 (by decide) h.1 (fun q => ?_) (fun q => ?_)
  · have h := h.2.1 q
    refine G_iload_n C dX8_tokenOf_21 rfl ?_
    refine G_callSI (K := []) (args := [.inl (s 2 v1)]) C (Nat.le_of_ble_eq_true rfl) mo_X9_isDigit wc_X8_75 rfl dX8_tokenOf_22 h (fun r2 s2 h => ?_)
    refine G_if_eq (tgt := 35) C dX8_tokenOf_25 (by decide) h.1 (fun q => ?_) (fun q => ?_)
    · have h := h.2.1 q
      refine G_ldcS503 C dX8_tokenOf_35 ?_
      refine G_iload_n C dX8_tokenOf_37 rfl ?_
      refine G_i2c C dX8_tokenOf_38 ?_
      refine G_callTI (K := []) (args := [.inl (xi2c (s 2 v1))]) (q := 503) C (by decide) rfl (Nat.le_of_ble_eq_true rfl) mo_J0_indexOf_0f7a4 wc_X8_86 rfl dX8_tokenOf_39 h (fun r3 s3 h => ?_)
      refine G_istore (L' := [rv 1, iv v1, iv v2, iv (s 2 v1), iv r3]) C dX8_tokenOf_42 (by decide) rfl ?_
      refine G_iload C dX8_tokenOf_44 rfl ?_
      refine G_if_ge (tgt := 55) C dX8_tokenOf_46 (by decide) h.1 (fun q => ?_) (fun q => ?_)
      · have h := h.2.1 q
        refine G_sipush C dX8_tokenOf_55 si_10100 ?_
        refine G_iload C dX8_tokenOf_58 rfl ?_
        refine G_iadd C dX8_tokenOf_60 ?_
        exact r _ _ _ _ dX8_tokenOf_61 h
      · have h := h.2.2 q
        refine G_sipush C dX8_tokenOf_49 si_10201 ?_
        refine G_goto (tgt := 61) C dX8_tokenOf_52 (by decide) ?_
        exact r _ _ _ _ dX8_tokenOf_61 h
    · have h := h.2.2 q
      refine G_aload_n C dX8_tokenOf_28 rfl ?_
      refine G_iload_n C dX8_tokenOf_29 rfl ?_
      refine G_iload_n C dX8_tokenOf_30 rfl ?_
      refine G_callSI (K := []) (args := [.inr 1, .inl v1, .inl v2]) C (Nat.le_of_ble_eq_true rfl) mo_X8_numberOf wc_X8_81 rfl dX8_tokenOf_31 h (fun r4 s4 h => ?_)
      exact r _ _ _ _ dX8_tokenOf_34 h
  · have h := h.2.2 q
    refine G_aload_n C dX8_tokenOf_14 rfl ?_
    refine G_iload_n C dX8_tokenOf_15 rfl ?_
    refine G_iload_n C dX8_tokenOf_16 rfl ?_
    refine G_callSI (K := []) (args := [.inr 1, .inl v1, .inl v2]) C (Nat.le_of_ble_eq_true rfl) mo_X8_wordOf wc_X8_78 rfl dX8_tokenOf_17 h (fun r5 s5 h => ?_)
    exact r _ _ _ _ dX8_tokenOf_20 h
set_option maxRecDepth 20000 in
theorem kb_X8_goOn_0 {X : Cx} {d : Nat} {P : Sto → Prop} (C : Ok LY X RX8 cX8_goOn 1 d) (r : RetV LY X cX8_goOn P) {s : Sto} (h : ((rg (s 39 3)) ∧ ((400 ≤ (s 39 3) → P s) ∧ ((s 39 3) < 400 → (∀ s1 : Sto, s1 = up s 39 3 ((s 39 3) + 1) → P s1))))) : G LY X 0 [rv 39] [] s := by
  refine G_aload_n C dX8_goOn_0 rfl ?_
  refine gI_X8_3 C ly_39 rfl wf_X8_25 dX8_goOn_1 ?_
  refine G_sipush C dX8_goOn_4 si_400 ?_
  refine G_icmp_ge (tgt := 20) C dX8_goOn_7 (by decide) ⟨h.1, (by decide)⟩ (fun q => ?_) (fun q => ?_)
  · have h := h.2.1 q
    exact r _ _ _ dX8_goOn_20 h
  · have h := h.2.2 q
    refine G_aload_n C dX8_goOn_10 rfl ?_
    refine G_dup C dX8_goOn_11 ?_
    refine gI_X8_3 C ly_39 rfl wf_X8_25 dX8_goOn_12 ?_
    refine G_iconst C dX8_goOn_15 ?_
    refine G_iadd C dX8_goOn_16 ?_
    refine gP_X8_3 C ly_39 rfl wf_X8_25 dX8_goOn_17 ?_
    have h := h _ rfl
    obtain ⟨s1, e1⟩ : ∃ z, z = up s 39 3 ((s 39 3) + 1) := ⟨_, rfl⟩
    rw [← e1] at h ⊢
    exact r _ _ _ dX8_goOn_20 h
set_option maxRecDepth 20000 in
theorem kb_X4_closeLine_0 {X : Cx} {d : Nat} {P : Sto → Prop} (C : Ok LY X RX4 cX4_closeLine 2 d) (r : RetV LY X cX4_closeLine P) {v1 : Int} {s : Sto} (h : ((rg (s 42 0)) ∧ ((16 ≤ (s 42 0) → P s) ∧ ((s 42 0) < 16 → ((0 ≤ (s 42 0) ∧ (s 42 0) < 16) ∧ (∀ s1 : Sto, s1 = up s 43 (s 42 0) v1 → ((0 ≤ (s1 42 0) ∧ (s1 42 0) < 16) ∧ (∀ s2 : Sto, s2 = up s1 44 (s1 42 0) (s1 42 1) → (∀ s3 : Sto, s3 = up s2 42 0 ((s2 42 0) + 1) → P s3))))))))) : G LY X 0 [rv 42, iv v1] [] s := by
  refine G_aload_n C dX4_closeLine_0 rfl ?_
  refine gI_X4_0 C ly_42 rfl wf_X4_9 dX4_closeLine_1 ?_
  refine G_bipush C dX4_closeLine_4 bi_16 ?_
  refine G_icmp_ge (tgt := 42) C dX4_closeLine_6 (by decide) ⟨h.1, (by decide)⟩ (fun q => ?_) (fun q => ?_)
  · have h := h.2.1 q
    exact r _ _ _ dX4_closeLine_42 h
  · have h := h.2.2 q
    refine G_aload_n C dX4_closeLine_9 rfl ?_
    refine gR_X4_2 C ly_42 rfl wf_X4_18 dX4_closeLine_10 ?_
    refine G_aload_n C dX4_closeLine_13 rfl ?_
    refine gI_X4_0 C ly_42 rfl wf_X4_9 dX4_closeLine_14 ?_
    refine G_iload_n C dX4_closeLine_17 rfl ?_
    refine G_iast C ly_43 (by decide) h.1 dX4_closeLine_18 ?_
    have h := h.2
    have h := h _ rfl
    obtain ⟨s1, e1⟩ : ∃ z, z = up s 43 (s 42 0) v1 := ⟨_, rfl⟩
    rw [← e1] at h ⊢
    refine G_aload_n C dX4_closeLine_19 rfl ?_
    refine gR_X4_3 C ly_42 rfl wf_X4_22 dX4_closeLine_20 ?_
    refine G_aload_n C dX4_closeLine_23 rfl ?_
    refine gI_X4_0 C ly_42 rfl wf_X4_9 dX4_closeLine_24 ?_
    refine G_aload_n C dX4_closeLine_27 rfl ?_
    refine gI_X4_1 C ly_42 rfl wf_X4_15 dX4_closeLine_28 ?_
    refine G_iast C ly_44 (by decide) h.1 dX4_closeLine_31 ?_
    have h := h.2
    have h := h _ rfl
    obtain ⟨s2, e2⟩ : ∃ z, z = up s1 44 (s1 42 0) (s1 42 1) := ⟨_, rfl⟩
    rw [← e2] at h ⊢
    refine G_aload_n C dX4_closeLine_32 rfl ?_
    refine G_dup C dX4_closeLine_33 ?_
    refine gI_X4_0 C ly_42 rfl wf_X4_9 dX4_closeLine_34 ?_
    refine G_iconst C dX4_closeLine_37 ?_
    refine G_iadd C dX4_closeLine_38 ?_
    refine gP_X4_0 C ly_42 rfl wf_X4_9 dX4_closeLine_39 ?_
    have h := h _ rfl
    obtain ⟨s3, e3⟩ : ∃ z, z = up s2 42 0 ((s2 42 0) + 1) := ⟨_, rfl⟩
    rw [← e3] at h ⊢
    exact r _ _ _ dX4_closeLine_42 h
set_option maxRecDepth 20000 in
theorem kb_X8_fail_0 {X : Cx} {d : Nat} {P : Int → Sto → Prop} (C : Ok LY X RX8 cX8_fail 2 d) (r : RetZ LY X cX8_fail P) {v1 : Int} {s : Sto} (h : (∀ s1 : Sto, s1 = up s 39 4 v1 → ((0 ≤ (s1 39 3) ∧ (s1 39 3) < 401) ∧ (∀ s2 : Sto, s2 = up s1 39 5 (s1 41 (s1 39 3)) → P 0 s2)))) : G LY X 0 [rv 39, iv v1] [] s := by
  refine G_aload_n C dX8_fail_0 rfl ?_
  refine G_iload_n C dX8_fail_1 rfl ?_
  refine gP_X8_4 C ly_39 rfl wf_X8_29 dX8_fail_2 ?_
  have h := h _ rfl
  obtain ⟨s1, e1⟩ : ∃ z, z = up s 39 4 v1 := ⟨_, rfl⟩
  rw [← e1] at h ⊢
  refine G_aload_n C dX8_fail_5 rfl ?_
  refine G_aload_n C dX8_fail_6 rfl ?_
  refine gR_X8_1 C ly_39 rfl wf_X8_15 dX8_fail_7 ?_
  refine G_aload_n C dX8_fail_10 rfl ?_
  refine gI_X8_3 C ly_39 rfl wf_X8_25 dX8_fail_11 ?_
  refine G_iald C ly_41 (by decide) h.1 dX8_fail_14 ?_
  have h := h.2
  refine gP_X8_5 C ly_39 rfl wf_X8_32 dX8_fail_15 ?_
  have h := h _ rfl
  obtain ⟨s2, e2⟩ : ∃ z, z = up s1 39 5 (s1 41 (s1 39 3)) := ⟨_, rfl⟩
  rw [← e2] at h ⊢
  refine G_iconst C dX8_fail_18 ?_
  exact r _ _ _ _ dX8_fail_19 (by decide) h
set_option maxRecDepth 20000 in
theorem kb_X8_readCondition_0 {X : Cx} {d : Nat} {P : Int → Sto → Prop} (C : Ok LY X RX8 cX8_readCondition 5 d) (r : RetZ LY X cX8_readCondition P) {v1 : Int} {s : Sto} (h : (CallI LY d MX8_readClaim [.inr 39, .inl v1] s (fun r1 s1 => ((rg r1) ∧ ((r1 ≠ 0 → G LY X 14 [rv 39, iv v1, iv (-1), iv 0, none] [] s1) ∧ (r1 = 0 → P 0 s1)))))) : G LY X 0 [rv 39, iv v1, none, none, none] [] s := by
  refine G_aload_n C dX8_readCondition_0 rfl ?_
  refine G_iload_n C dX8_readCondition_1 rfl ?_
  refine G_callVI (K := []) (args := [.inl v1]) (T := TX8) (N := 6) C ly_39 rfl (Nat.le_of_ble_eq_true rfl) mo_X8_readClaim wc_X8_121 rfl dX8_readCondition_2 h (fun r1 s1 h => ?_)
  refine G_if_ne (tgt := 10) C dX8_readCondition_5 (by decide) h.1 (fun q => ?_) (fun q => ?_)
  · have h := h.2.1 q
    refine G_iconst C dX8_readCondition_10 ?_
    refine G_istore_n (L' := [rv 39, iv v1, iv (-1), none, none]) C dX8_readCondition_11 (by decide) rfl ?_
    refine G_iconst C dX8_readCondition_12 ?_
    refine G_istore_n (L' := [rv 39, iv v1, iv (-1), iv 0, none]) C dX8_readCondition_13 (by decide) rfl ?_
    exact h
  · have h := h.2.2 q
    refine G_iconst C dX8_readCondition_8 ?_
    exact r _ _ _ _ dX8_readCondition_9 (by decide) h
set_option maxRecDepth 20000 in
theorem kb_X8_readCondition_14 {X : Cx} {d : Nat} {P : Int → Sto → Prop} (C : Ok LY X RX8 cX8_readCondition 5 d) (r : RetZ LY X cX8_readCondition P) {v1 v2 v3 : Int} {s : Sto} (h : ((rg v3) ∧ ((400 ≤ v3 → (CallV LY d MX4_add [.inr 42, .inl v2] s (fun s1 => P 1 s1))) ∧ (v3 < 400 → ((0 ≤ (s 39 3) ∧ (s 39 3) < 401) ∧ ((rg (s 40 (s 39 3))) ∧ (((s 40 (s 39 3)) = 10003 → ((0 ≤ (s 39 3) ∧ (s 39 3) < 401) ∧ (CallV LY d MX8_goOn [.inr 39] s (fun s2 => ((rg (s 40 (s 39 3))) ∧ (((s 40 (s 39 3)) ≠ 10003 → (CallI LY d MX8_readClaim [.inr 39, .inl v1] s2 (fun r3 s3 => ((rg r3) ∧ ((r3 ≠ 0 → ((rg (s 40 (s 39 3))) ∧ (((s 40 (s 39 3)) ≠ 10004 → G LY X 14 [rv 39, iv v1, iv v2, iv (v3 + 1), none] [] s3) ∧ ((s 40 (s 39 3)) = 10004 → (CallV LY d MX4_add [.inr 42, .inl 10004] s3 (fun s4 => G LY X 14 [rv 39, iv v1, iv v2, iv (v3 + 1), none] [] s4)))))) ∧ (r3 = 0 → P 0 s3)))))) ∧ ((s 40 (s 39 3)) = 10003 → (CallV LY d MX4_add [.inr 42, .inl v2] s2 (fun s5 => (CallI LY d MX8_readClaim [.inr 39, .inl v1] s5 (fun r6 s6 => ((rg r6) ∧ ((r6 ≠ 0 → ((rg (s 40 (s 39 3))) ∧ (((s 40 (s 39 3)) ≠ 10004 → G LY X 14 [rv 39, iv v1, iv 10003, iv (v3 + 1), none] [] s6) ∧ ((s 40 (s 39 3)) = 10004 → (CallV LY d MX4_add [.inr 42, .inl 10004] s6 (fun s7 => G LY X 14 [rv 39, iv v1, iv 10003, iv (v3 + 1), none] [] s7)))))) ∧ (r6 = 0 → P 0 s6)))))))))))))) ∧ ((s 40 (s 39 3)) ≠ 10003 → ((0 ≤ (s 39 3) ∧ (s 39 3) < 401) ∧ ((rg (s 40 (s 39 3))) ∧ (((s 40 (s 39 3)) ≠ 10004 → (CallV LY d MX4_add [.inr 42, .inl v2] s (fun s8 => P 1 s8))) ∧ ((s 40 (s 39 3)) = 10004 → ((0 ≤ (s 39 3) ∧ (s 39 3) < 401) ∧ (CallV LY d MX8_goOn [.inr 39] s (fun s9 => ((rg (s 40 (s 39 3))) ∧ (((s 40 (s 39 3)) ≠ 10003 → (CallI LY d MX8_readClaim [.inr 39, .inl v1] s9 (fun r10 s10 => ((rg r10) ∧ ((r10 ≠ 0 → ((rg (s 40 (s 39 3))) ∧ (((s 40 (s 39 3)) ≠ 10004 → G LY X 14 [rv 39, iv v1, iv v2, iv (v3 + 1), none] [] s10) ∧ ((s 40 (s 39 3)) = 10004 → (CallV LY d MX4_add [.inr 42, .inl 10004] s10 (fun s11 => G LY X 14 [rv 39, iv v1, iv v2, iv (v3 + 1), none] [] s11)))))) ∧ (r10 = 0 → P 0 s10)))))) ∧ ((s 40 (s 39 3)) = 10003 → (CallV LY d MX4_add [.inr 42, .inl v2] s9 (fun s12 => (CallI LY d MX8_readClaim [.inr 39, .inl v1] s12 (fun r13 s13 => ((rg r13) ∧ ((r13 ≠ 0 → ((rg (s 40 (s 39 3))) ∧ (((s 40 (s 39 3)) ≠ 10004 → G LY X 14 [rv 39, iv v1, iv 10003, iv (v3 + 1), none] [] s13) ∧ ((s 40 (s 39 3)) = 10004 → (CallV LY d MX4_add [.inr 42, .inl 10004] s13 (fun s14 => G LY X 14 [rv 39, iv v1, iv 10003, iv (v3 + 1), none] [] s14)))))) ∧ (r13 = 0 → P 0 s13))))))))))))))))))))))))) : G LY X 14 [rv 39, iv v1, iv v2, iv v3, none] [] s := by
  refine G_iload_n C dX8_readCondition_14 rfl ?_
  refine G_sipush C dX8_readCondition_15 si_400 ?_
  refine G_icmp_ge (tgt := 120) C dX8_readCondition_18 (by decide) ⟨h.1, (by decide)⟩ (fun q => ?_) (fun q => ?_)
  · have h := h.2.1 q
    refine G_aload_n C dX8_readCondition_120 rfl ?_
    refine gR_X8_2 C ly_39 rfl wf_X8_21 dX8_readCondition_121 ?_
    refine G_iload_n C dX8_readCondition_124 rfl ?_
    refine G_callVV (K := []) (args := [.inl v2]) (T := TX4) (N := 5) C ly_42 rfl (Nat.le_of_ble_eq_true rfl) mo_X4_add wc_X8_124 rfl dX8_readCondition_125 h (fun s1 h => ?_)
    refine G_iconst C dX8_readCondition_128 ?_
    exact r _ _ _ _ dX8_readCondition_129 (by decide) h
  · have h := h.2.2 q
    refine G_aload_n C dX8_readCondition_21 rfl ?_
    refine gR_X8_0 C ly_39 rfl wf_X8_9 dX8_readCondition_22 ?_
    refine G_aload_n C dX8_readCondition_25 rfl ?_
    refine gI_X8_3 C ly_39 rfl wf_X8_25 dX8_readCondition_26 ?_
    refine G_iald C ly_40 (by decide) h.1 dX8_readCondition_29 ?_
    have h := h.2
    refine G_sipush C dX8_readCondition_30 si_10003 ?_
    refine G_icmp_eq (tgt := 51) C dX8_readCondition_33 (by decide) ⟨h.1, (by decide)⟩ (fun q => ?_) (fun q => ?_)
    · have h := h.2.1 q
      refine G_aload_n C dX8_readCondition_51 rfl ?_
      refine gR_X8_0 C ly_39 rfl wf_X8_9 dX8_readCondition_52 ?_
      refine G_aload_n C dX8_readCondition_55 rfl ?_
      refine gI_X8_3 C ly_39 rfl wf_X8_25 dX8_readCondition_56 ?_
      refine G_iald C ly_40 (by decide) h.1 dX8_readCondition_59 ?_
      have h := h.2
      refine G_istore (L' := [rv 39, iv v1, iv v2, iv v3, iv (s 40 (s 39 3))]) C dX8_readCondition_60 (by decide) rfl ?_
      refine G_aload_n C dX8_readCondition_62 rfl ?_
      refine G_callVV (K := []) (args := []) (T := TX8) (N := 6) C ly_39 rfl (Nat.le_of_ble_eq_true rfl) mo_X8_goOn wc_X8_111 rfl dX8_readCondition_63 h (fun s2 h => ?_)
      refine G_iload C dX8_readCondition_66 rfl ?_
      refine G_sipush C dX8_readCondition_68 si_10003 ?_
      refine G_icmp_ne (tgt := 86) C dX8_readCondition_71 (by decide) ⟨h.1, (by decide)⟩ (fun q => ?_) (fun q => ?_)
      · have h := h.2.1 q
        refine G_aload_n C dX8_readCondition_86 rfl ?_
        refine G_iload_n C dX8_readCondition_87 rfl ?_
        refine G_callVI (K := []) (args := [.inl v1]) (T := TX8) (N := 6) C ly_39 rfl (Nat.le_of_ble_eq_true rfl) mo_X8_readClaim wc_X8_121 rfl dX8_readCondition_88 h (fun r3 s3 h => ?_)
        refine G_if_ne (tgt := 96) C dX8_readCondition_91 (by decide) h.1 (fun q => ?_) (fun q => ?_)
        · have h := h.2.1 q
          refine G_iload C dX8_readCondition_96 rfl ?_
          refine G_sipush C dX8_readCondition_98 si_10004 ?_
          refine G_icmp_ne (tgt := 114) C dX8_readCondition_101 (by decide) ⟨h.1, (by decide)⟩ (fun q => ?_) (fun q => ?_)
          · have h := h.2.1 q
            refine G_iinc (L' := [rv 39, iv v1, iv v2, iv (v3 + 1), iv (s 40 (s 39 3))]) C dX8_readCondition_114 (by decide) rfl rfl ?_
            refine G_goto (tgt := 14) C dX8_readCondition_117 (by decide) ?_
            refine G_drop (i := 4) (L' := [rv 39, iv v1, iv v2, iv (v3 + 1), none]) rfl ?_
            exact h
          · have h := h.2.2 q
            refine G_aload_n C dX8_readCondition_104 rfl ?_
            refine gR_X8_2 C ly_39 rfl wf_X8_21 dX8_readCondition_105 ?_
            refine G_sipush C dX8_readCondition_108 si_10004 ?_
            refine G_callVV (K := []) (args := [.inl 10004]) (T := TX4) (N := 5) C ly_42 rfl (Nat.le_of_ble_eq_true rfl) mo_X4_add wc_X8_124 rfl dX8_readCondition_111 h (fun s4 h => ?_)
            refine G_iinc (L' := [rv 39, iv v1, iv v2, iv (v3 + 1), iv (s 40 (s 39 3))]) C dX8_readCondition_114 (by decide) rfl rfl ?_
            refine G_goto (tgt := 14) C dX8_readCondition_117 (by decide) ?_
            refine G_drop (i := 4) (L' := [rv 39, iv v1, iv v2, iv (v3 + 1), none]) rfl ?_
            exact h
        · have h := h.2.2 q
          refine G_iconst C dX8_readCondition_94 ?_
          exact r _ _ _ _ dX8_readCondition_95 (by decide) h
      · have h := h.2.2 q
        refine G_aload_n C dX8_readCondition_74 rfl ?_
        refine gR_X8_2 C ly_39 rfl wf_X8_21 dX8_readCondition_75 ?_
        refine G_iload_n C dX8_readCondition_78 rfl ?_
        refine G_callVV (K := []) (args := [.inl v2]) (T := TX4) (N := 5) C ly_42 rfl (Nat.le_of_ble_eq_true rfl) mo_X4_add wc_X8_124 rfl dX8_readCondition_79 h (fun s5 h => ?_)
        refine G_sipush C dX8_readCondition_82 si_10003 ?_
        refine G_istore_n (L' := [rv 39, iv v1, iv 10003, iv v3, iv (s 40 (s 39 3))]) C dX8_readCondition_85 (by decide) rfl ?_
        refine G_aload_n C dX8_readCondition_86 rfl ?_
        refine G_iload_n C dX8_readCondition_87 rfl ?_
        refine G_callVI (K := []) (args := [.inl v1]) (T := TX8) (N := 6) C ly_39 rfl (Nat.le_of_ble_eq_true rfl) mo_X8_readClaim wc_X8_121 rfl dX8_readCondition_88 h (fun r6 s6 h => ?_)
        refine G_if_ne (tgt := 96) C dX8_readCondition_91 (by decide) h.1 (fun q => ?_) (fun q => ?_)
        · have h := h.2.1 q
          refine G_iload C dX8_readCondition_96 rfl ?_
          refine G_sipush C dX8_readCondition_98 si_10004 ?_
          refine G_icmp_ne (tgt := 114) C dX8_readCondition_101 (by decide) ⟨h.1, (by decide)⟩ (fun q => ?_) (fun q => ?_)
          · have h := h.2.1 q
            refine G_iinc (L' := [rv 39, iv v1, iv 10003, iv (v3 + 1), iv (s 40 (s 39 3))]) C dX8_readCondition_114 (by decide) rfl rfl ?_
            refine G_goto (tgt := 14) C dX8_readCondition_117 (by decide) ?_
            refine G_drop (i := 4) (L' := [rv 39, iv v1, iv 10003, iv (v3 + 1), none]) rfl ?_
            exact h
          · have h := h.2.2 q
            refine G_aload_n C dX8_readCondition_104 rfl ?_
            refine gR_X8_2 C ly_39 rfl wf_X8_21 dX8_readCondition_105 ?_
            refine G_sipush C dX8_readCondition_108 si_10004 ?_
            refine G_callVV (K := []) (args := [.inl 10004]) (T := TX4) (N := 5) C ly_42 rfl (Nat.le_of_ble_eq_true rfl) mo_X4_add wc_X8_124 rfl dX8_readCondition_111 h (fun s7 h => ?_)
            refine G_iinc (L' := [rv 39, iv v1, iv 10003, iv (v3 + 1), iv (s 40 (s 39 3))]) C dX8_readCondition_114 (by decide) rfl rfl ?_
            refine G_goto (tgt := 14) C dX8_readCondition_117 (by decide) ?_
            refine G_drop (i := 4) (L' := [rv 39, iv v1, iv 10003, iv (v3 + 1), none]) rfl ?_
            exact h
        · have h := h.2.2 q
          refine G_iconst C dX8_readCondition_94 ?_
          exact r _ _ _ _ dX8_readCondition_95 (by decide) h
    · have h := h.2.2 q
      refine G_aload_n C dX8_readCondition_36 rfl ?_
      refine gR_X8_0 C ly_39 rfl wf_X8_9 dX8_readCondition_37 ?_
      refine G_aload_n C dX8_readCondition_40 rfl ?_
      refine gI_X8_3 C ly_39 rfl wf_X8_25 dX8_readCondition_41 ?_
      refine G_iald C ly_40 (by decide) h.1 dX8_readCondition_44 ?_
      have h := h.2
      refine G_sipush C dX8_readCondition_45 si_10004 ?_
      refine G_icmp_ne (tgt := 120) C dX8_readCondition_48 (by decide) ⟨h.1, (by decide)⟩ (fun q => ?_) (fun q => ?_)
      · have h := h.2.1 q
        refine G_aload_n C dX8_readCondition_120 rfl ?_
        refine gR_X8_2 C ly_39 rfl wf_X8_21 dX8_readCondition_121 ?_
        refine G_iload_n C dX8_readCondition_124 rfl ?_
        refine G_callVV (K := []) (args := [.inl v2]) (T := TX4) (N := 5) C ly_42 rfl (Nat.le_of_ble_eq_true rfl) mo_X4_add wc_X8_124 rfl dX8_readCondition_125 h (fun s8 h => ?_)
        refine G_iconst C dX8_readCondition_128 ?_
        exact r _ _ _ _ dX8_readCondition_129 (by decide) h
      · have h := h.2.2 q
        refine G_aload_n C dX8_readCondition_51 rfl ?_
        refine gR_X8_0 C ly_39 rfl wf_X8_9 dX8_readCondition_52 ?_
        refine G_aload_n C dX8_readCondition_55 rfl ?_
        refine gI_X8_3 C ly_39 rfl wf_X8_25 dX8_readCondition_56 ?_
        refine G_iald C ly_40 (by decide) h.1 dX8_readCondition_59 ?_
        have h := h.2
        refine G_istore (L' := [rv 39, iv v1, iv v2, iv v3, iv (s 40 (s 39 3))]) C dX8_readCondition_60 (by decide) rfl ?_
        refine G_aload_n C dX8_readCondition_62 rfl ?_
        refine G_callVV (K := []) (args := []) (T := TX8) (N := 6) C ly_39 rfl (Nat.le_of_ble_eq_true rfl) mo_X8_goOn wc_X8_111 rfl dX8_readCondition_63 h (fun s9 h => ?_)
        refine G_iload C dX8_readCondition_66 rfl ?_
        refine G_sipush C dX8_readCondition_68 si_10003 ?_
        refine G_icmp_ne (tgt := 86) C dX8_readCondition_71 (by decide) ⟨h.1, (by decide)⟩ (fun q => ?_) (fun q => ?_)
        · have h := h.2.1 q
          refine G_aload_n C dX8_readCondition_86 rfl ?_
          refine G_iload_n C dX8_readCondition_87 rfl ?_
          refine G_callVI (K := []) (args := [.inl v1]) (T := TX8) (N := 6) C ly_39 rfl (Nat.le_of_ble_eq_true rfl) mo_X8_readClaim wc_X8_121 rfl dX8_readCondition_88 h (fun r10 s10 h => ?_)
          refine G_if_ne (tgt := 96) C dX8_readCondition_91 (by decide) h.1 (fun q => ?_) (fun q => ?_)
          · have h := h.2.1 q
            refine G_iload C dX8_readCondition_96 rfl ?_
            refine G_sipush C dX8_readCondition_98 si_10004 ?_
            refine G_icmp_ne (tgt := 114) C dX8_readCondition_101 (by decide) ⟨h.1, (by decide)⟩ (fun q => ?_) (fun q => ?_)
            · have h := h.2.1 q
              refine G_iinc (L' := [rv 39, iv v1, iv v2, iv (v3 + 1), iv (s 40 (s 39 3))]) C dX8_readCondition_114 (by decide) rfl rfl ?_
              refine G_goto (tgt := 14) C dX8_readCondition_117 (by decide) ?_
              refine G_drop (i := 4) (L' := [rv 39, iv v1, iv v2, iv (v3 + 1), none]) rfl ?_
              exact h
            · have h := h.2.2 q
              refine G_aload_n C dX8_readCondition_104 rfl ?_
              refine gR_X8_2 C ly_39 rfl wf_X8_21 dX8_readCondition_105 ?_
              refine G_sipush C dX8_readCondition_108 si_10004 ?_
              refine G_callVV (K := []) (args := [.inl 10004]) (T := TX4) (N := 5) C ly_42 rfl (Nat.le_of_ble_eq_true rfl) mo_X4_add wc_X8_124 rfl dX8_readCondition_111 h (fun s11 h => ?_)
              refine G_iinc (L' := [rv 39, iv v1, iv v2, iv (v3 + 1), iv (s 40 (s 39 3))]) C dX8_readCondition_114 (by decide) rfl rfl ?_
              refine G_goto (tgt := 14) C dX8_readCondition_117 (by decide) ?_
              refine G_drop (i := 4) (L' := [rv 39, iv v1, iv v2, iv (v3 + 1), none]) rfl ?_
              exact h
          · have h := h.2.2 q
            refine G_iconst C dX8_readCondition_94 ?_
            exact r _ _ _ _ dX8_readCondition_95 (by decide) h
        · have h := h.2.2 q
          refine G_aload_n C dX8_readCondition_74 rfl ?_
          refine gR_X8_2 C ly_39 rfl wf_X8_21 dX8_readCondition_75 ?_
          refine G_iload_n C dX8_readCondition_78 rfl ?_
          refine G_callVV (K := []) (args := [.inl v2]) (T := TX4) (N := 5) C ly_42 rfl (Nat.le_of_ble_eq_true rfl) mo_X4_add wc_X8_124 rfl dX8_readCondition_79 h (fun s12 h => ?_)
          refine G_sipush C dX8_readCondition_82 si_10003 ?_
          refine G_istore_n (L' := [rv 39, iv v1, iv 10003, iv v3, iv (s 40 (s 39 3))]) C dX8_readCondition_85 (by decide) rfl ?_
          refine G_aload_n C dX8_readCondition_86 rfl ?_
          refine G_iload_n C dX8_readCondition_87 rfl ?_
          refine G_callVI (K := []) (args := [.inl v1]) (T := TX8) (N := 6) C ly_39 rfl (Nat.le_of_ble_eq_true rfl) mo_X8_readClaim wc_X8_121 rfl dX8_readCondition_88 h (fun r13 s13 h => ?_)
          refine G_if_ne (tgt := 96) C dX8_readCondition_91 (by decide) h.1 (fun q => ?_) (fun q => ?_)
          · have h := h.2.1 q
            refine G_iload C dX8_readCondition_96 rfl ?_
            refine G_sipush C dX8_readCondition_98 si_10004 ?_
            refine G_icmp_ne (tgt := 114) C dX8_readCondition_101 (by decide) ⟨h.1, (by decide)⟩ (fun q => ?_) (fun q => ?_)
            · have h := h.2.1 q
              refine G_iinc (L' := [rv 39, iv v1, iv 10003, iv (v3 + 1), iv (s 40 (s 39 3))]) C dX8_readCondition_114 (by decide) rfl rfl ?_
              refine G_goto (tgt := 14) C dX8_readCondition_117 (by decide) ?_
              refine G_drop (i := 4) (L' := [rv 39, iv v1, iv 10003, iv (v3 + 1), none]) rfl ?_
              exact h
            · have h := h.2.2 q
              refine G_aload_n C dX8_readCondition_104 rfl ?_
              refine gR_X8_2 C ly_39 rfl wf_X8_21 dX8_readCondition_105 ?_
              refine G_sipush C dX8_readCondition_108 si_10004 ?_
              refine G_callVV (K := []) (args := [.inl 10004]) (T := TX4) (N := 5) C ly_42 rfl (Nat.le_of_ble_eq_true rfl) mo_X4_add wc_X8_124 rfl dX8_readCondition_111 h (fun s14 h => ?_)
              refine G_iinc (L' := [rv 39, iv v1, iv 10003, iv (v3 + 1), iv (s 40 (s 39 3))]) C dX8_readCondition_114 (by decide) rfl rfl ?_
              refine G_goto (tgt := 14) C dX8_readCondition_117 (by decide) ?_
              refine G_drop (i := 4) (L' := [rv 39, iv v1, iv 10003, iv (v3 + 1), none]) rfl ?_
              exact h
          · have h := h.2.2 q
            refine G_iconst C dX8_readCondition_94 ?_
            exact r _ _ _ _ dX8_readCondition_95 (by decide) h
set_option maxRecDepth 20000 in
theorem kb_X5_orderPlace_0 {X : Cx} {d : Nat} {P : Int → Sto → Prop} (C : Ok LY X RX5 cX5_orderPlace 4 d) (r : RetI LY X cX5_orderPlace P) {v0 v1 v2 : Int} {s : Sto} (h : G LY X 2 [iv v0, iv v1, iv v2, iv 0] [] s) : G LY X 0 [iv v0, iv v1, iv v2, none] [] s := by
  refine G_iconst C dX5_orderPlace_0 ?_
  refine G_istore_n (L' := [iv v0, iv v1, iv v2, iv 0]) C dX5_orderPlace_1 (by decide) rfl ?_
  exact h
set_option maxRecDepth 20000 in
theorem kb_X5_orderPlace_2 {X : Cx} {d : Nat} {P : Int → Sto → Prop} (C : Ok LY X RX5 cX5_orderPlace 4 d) (r : RetI LY X cX5_orderPlace P) {v0 v1 v2 v3 : Int} {s : Sto} (h : ((rg v3 ∧ rg v1) ∧ ((v1 ≤ v3 → P v1 s) ∧ (v3 < v1 → ((rg v2) ∧ (((xand (xshr v0 (3 * ((v1 - 1) - v3))) 7) ≠ v2 → G LY X 2 [iv v0, iv v1, iv v2, iv (v3 + 1)] [] s) ∧ ((xand (xshr v0 (3 * ((v1 - 1) - v3))) 7) = v2 → P v3 s))))))) : G LY X 2 [iv v0, iv v1, iv v2, iv v3] [] s := by
  refine G_iload_n C dX5_orderPlace_2 rfl ?_
  refine G_iload_n C dX5_orderPlace_3 rfl ?_
  refine G_icmp_ge (tgt := 31) C dX5_orderPlace_4 (by decide) ⟨h.1.1, h.1.2⟩ (fun q => ?_) (fun q => ?_)
  · have h := h.2.1 q
    refine G_iload_n C dX5_orderPlace_31 rfl ?_
    exact r _ _ _ _ dX5_orderPlace_32 h
  · have h := h.2.2 q
    refine G_iload_n C dX5_orderPlace_7 rfl ?_
    refine G_iconst C dX5_orderPlace_8 ?_
    refine G_iload_n C dX5_orderPlace_9 rfl ?_
    refine G_iconst C dX5_orderPlace_10 ?_
    refine G_isub C dX5_orderPlace_11 ?_
    refine G_iload_n C dX5_orderPlace_12 rfl ?_
    refine G_isub C dX5_orderPlace_13 ?_
    refine G_imul C dX5_orderPlace_14 ?_
    refine G_ishr C dX5_orderPlace_15 ?_
    refine G_bipush C dX5_orderPlace_16 bi_7 ?_
    refine G_iand C dX5_orderPlace_18 ?_
    refine G_iload_n C dX5_orderPlace_19 rfl ?_
    refine G_icmp_ne (tgt := 25) C dX5_orderPlace_20 (by decide) ⟨(oI_rg _), h.1⟩ (fun q => ?_) (fun q => ?_)
    · have h := h.2.1 q
      refine G_iinc (L' := [iv v0, iv v1, iv v2, iv (v3 + 1)]) C dX5_orderPlace_25 (by decide) rfl rfl ?_
      refine G_goto (tgt := 2) C dX5_orderPlace_28 (by decide) ?_
      exact h
    · have h := h.2.2 q
      refine G_iload_n C dX5_orderPlace_23 rfl ?_
      exact r _ _ _ _ dX5_orderPlace_24 h
set_option maxRecDepth 20000 in
theorem kb_X1_worked_0 {X : Cx} {d : Nat} {P : Int → Sto → Prop} (C : Ok LY X RX1 cX1_worked 3 d) (r : RetI LY X cX1_worked P) {v0 v1 v2 : Int} {s : Sto} (h : (rg v0 ∧ ((v0 = 10004 → P (xand v1 v2) s) ∧ (v0 = 10101 → P (wr (v1 + v2)) s) ∧ (v0 = 10102 → P (wr (v1 - v2)) s) ∧ (v0 = 10103 → P (wr (v1 * v2)) s) ∧ (v0 = 10104 → ((rg v2) ∧ ((v2 ≠ 0 → ((rg v2 ∧ v2 ≠ 0) ∧ P (xdiv v1 v2) s)) ∧ (v2 = 0 → P 0 s)))) ∧ (v0 = 10107 → ((rg v1 ∧ rg v2) ∧ ((v2 ≤ v1 → P 0 s) ∧ (v1 < v2 → P 1 s)))) ∧ (v0 = 10108 → ((rg v1 ∧ rg v2) ∧ ((v1 ≠ v2 → P 0 s) ∧ (v1 = v2 → P 1 s)))) ∧ (v0 = 10109 → ((rg v1 ∧ rg v2) ∧ ((v1 ≤ v2 → P 0 s) ∧ (v2 < v1 → P 1 s)))) ∧ ((v0 ≠ 10004 ∧ v0 ≠ 10101 ∧ v0 ≠ 10102 ∧ v0 ≠ 10103 ∧ v0 ≠ 10104 ∧ v0 ≠ 10107 ∧ v0 ≠ 10108 ∧ v0 ≠ 10109) → P (xor_ v1 v2) s)))) : G LY X 0 [iv v0, iv v1, iv v2] [] s := by
  refine G_iload_n C dX1_worked_0 rfl ?_
  refine G_look C dX1_worked_1 (by decide) h.1 (by decide) (fun off tgt ho ht => ?_)
  by_cases q0 : v0 = 10004
  · have h := h.2.1 q0
    rw [q0] at ho
    have ho : (132 : Int) = off := ho
    have ht : tgt = 133 := by omega
    rw [ht]
    refine G_iload_n C dX1_worked_133 rfl ?_
    refine G_iload_n C dX1_worked_134 rfl ?_
    refine G_iand C dX1_worked_135 ?_
    exact r _ _ _ _ dX1_worked_136 h
  by_cases q1 : v0 = 10101
  · have h := h.2.2.1 q1
    rw [q1] at ho
    have ho : (75 : Int) = off := ho
    have ht : tgt = 76 := by omega
    rw [ht]
    refine G_iload_n C dX1_worked_76 rfl ?_
    refine G_iload_n C dX1_worked_77 rfl ?_
    refine G_iadd C dX1_worked_78 ?_
    refine G_wr ?_
    exact r _ _ _ _ dX1_worked_79 h
  by_cases q2 : v0 = 10102
  · have h := h.2.2.2.1 q2
    rw [q2] at ho
    have ho : (79 : Int) = off := ho
    have ht : tgt = 80 := by omega
    rw [ht]
    refine G_iload_n C dX1_worked_80 rfl ?_
    refine G_iload_n C dX1_worked_81 rfl ?_
    refine G_isub C dX1_worked_82 ?_
    refine G_wr ?_
    exact r _ _ _ _ dX1_worked_83 h
  by_cases q3 : v0 = 10103
  · have h := h.2.2.2.2.1 q3
    rw [q3] at ho
    have ho : (83 : Int) = off := ho
    have ht : tgt = 84 := by omega
    rw [ht]
    refine G_iload_n C dX1_worked_84 rfl ?_
    refine G_iload_n C dX1_worked_85 rfl ?_
    refine G_imul C dX1_worked_86 ?_
    refine G_wr ?_
    exact r _ _ _ _ dX1_worked_87 h
  by_cases q4 : v0 = 10104
  · have h := h.2.2.2.2.2.1 q4
    rw [q4] at ho
    have ho : (87 : Int) = off := ho
    have ht : tgt = 88 := by omega
    rw [ht]
    refine G_iload_n C dX1_worked_88 rfl ?_
    refine G_if_ne (tgt := 96) C dX1_worked_89 (by decide) h.1 (fun q => ?_) (fun q => ?_)
    · have h := h.2.1 q
      refine G_iload_n C dX1_worked_96 rfl ?_
      refine G_iload_n C dX1_worked_97 rfl ?_
      refine G_idiv C dX1_worked_98 h.1 ?_
      have h := h.2
      exact r _ _ _ _ dX1_worked_99 h
    · have h := h.2.2 q
      refine G_iconst C dX1_worked_92 ?_
      refine G_goto (tgt := 99) C dX1_worked_93 (by decide) ?_
      exact r _ _ _ _ dX1_worked_99 h
  by_cases q5 : v0 = 10107
  · have h := h.2.2.2.2.2.2.1 q5
    rw [q5] at ho
    have ho : (99 : Int) = off := ho
    have ht : tgt = 100 := by omega
    rw [ht]
    refine G_iload_n C dX1_worked_100 rfl ?_
    refine G_iload_n C dX1_worked_101 rfl ?_
    refine G_icmp_ge (tgt := 109) C dX1_worked_102 (by decide) ⟨h.1.1, h.1.2⟩ (fun q => ?_) (fun q => ?_)
    · have h := h.2.1 q
      refine G_iconst C dX1_worked_109 ?_
      exact r _ _ _ _ dX1_worked_110 h
    · have h := h.2.2 q
      refine G_iconst C dX1_worked_105 ?_
      refine G_goto (tgt := 110) C dX1_worked_106 (by decide) ?_
      exact r _ _ _ _ dX1_worked_110 h
  by_cases q6 : v0 = 10108
  · have h := h.2.2.2.2.2.2.2.1 q6
    rw [q6] at ho
    have ho : (110 : Int) = off := ho
    have ht : tgt = 111 := by omega
    rw [ht]
    refine G_iload_n C dX1_worked_111 rfl ?_
    refine G_iload_n C dX1_worked_112 rfl ?_
    refine G_icmp_ne (tgt := 120) C dX1_worked_113 (by decide) ⟨h.1.1, h.1.2⟩ (fun q => ?_) (fun q => ?_)
    · have h := h.2.1 q
      refine G_iconst C dX1_worked_120 ?_
      exact r _ _ _ _ dX1_worked_121 h
    · have h := h.2.2 q
      refine G_iconst C dX1_worked_116 ?_
      refine G_goto (tgt := 121) C dX1_worked_117 (by decide) ?_
      exact r _ _ _ _ dX1_worked_121 h
  by_cases q7 : v0 = 10109
  · have h := h.2.2.2.2.2.2.2.2.1 q7
    rw [q7] at ho
    have ho : (121 : Int) = off := ho
    have ht : tgt = 122 := by omega
    rw [ht]
    refine G_iload_n C dX1_worked_122 rfl ?_
    refine G_iload_n C dX1_worked_123 rfl ?_
    refine G_icmp_le (tgt := 131) C dX1_worked_124 (by decide) ⟨h.1.1, h.1.2⟩ (fun q => ?_) (fun q => ?_)
    · have h := h.2.1 q
      refine G_iconst C dX1_worked_131 ?_
      exact r _ _ _ _ dX1_worked_132 h
    · have h := h.2.2 q
      refine G_iconst C dX1_worked_127 ?_
      refine G_goto (tgt := 132) C dX1_worked_128 (by decide) ?_
      exact r _ _ _ _ dX1_worked_132 h
  have h := h.2.2.2.2.2.2.2.2.2 ⟨q0, q1, q2, q3, q4, q5, q6, q7⟩
  have ho : (136 : Int) = off := by
    rw [← ho]
    simp [Op.lookupswitch.offset, q0, Ne.symm q0, q1, Ne.symm q1, q2, Ne.symm q2, q3, Ne.symm q3, q4, Ne.symm q4, q5, Ne.symm q5, q6, Ne.symm q6, q7, Ne.symm q7]
  have ht : tgt = 137 := by omega
  rw [ht]
  refine G_iload_n C dX1_worked_137 rfl ?_
  refine G_iload_n C dX1_worked_138 rfl ?_
  refine G_ior C dX1_worked_139 ?_
  exact r _ _ _ _ dX1_worked_140 h
set_option maxRecDepth 20000 in
theorem kb_X10_bestFor_0 {X : Cx} {d : Nat} {P : Int → Sto → Prop} (C : Ok LY X RX10 cX10_bestFor 11 d) (r : RetI LY X cX10_bestFor P) {v4 : Int} {s : Sto} (h : ((0 ≤ v4 ∧ v4 < 20) ∧ (CallI LY d MX7_worthWith [.inr 46, .inr 3, .inl v4, .inl (s 57 v4)] s (fun r1 s1 => G LY X 25 [rv 56, rv 3, rv 46, rv 52, iv v4, iv r1, iv 0, iv (-1), iv 0, none, none] [] s1)))) : G LY X 0 [rv 56, rv 3, rv 46, rv 52, iv v4, none, none, none, none, none, none] [] s := by
  refine G_aload_n C dX10_bestFor_0 rfl ?_
  refine G_aload_n C dX10_bestFor_1 rfl ?_
  refine G_iload C dX10_bestFor_2 rfl ?_
  refine G_aload_n C dX10_bestFor_4 rfl ?_
  refine gR_X10_0 C ly_56 rfl wf_X10_9 dX10_bestFor_5 ?_
  refine G_iload C dX10_bestFor_8 rfl ?_
  refine G_iald C ly_57 (by decide) h.1 dX10_bestFor_10 ?_
  have h := h.2
  refine G_callVI (K := []) (args := [.inr 3, .inl v4, .inl (s 57 v4)]) (T := TX7) (N := 5) C ly_46 rfl (Nat.le_of_ble_eq_true rfl) mo_X7_worthWith wc_X10_81 rfl dX10_bestFor_11 h (fun r1 s1 h => ?_)
  refine G_istore (L' := [rv 56, rv 3, rv 46, rv 52, iv v4, iv r1, none, none, none, none, none]) C dX10_bestFor_14 (by decide) rfl ?_
  refine G_iconst C dX10_bestFor_16 ?_
  refine G_istore (L' := [rv 56, rv 3, rv 46, rv 52, iv v4, iv r1, iv 0, none, none, none, none]) C dX10_bestFor_17 (by decide) rfl ?_
  refine G_iconst C dX10_bestFor_19 ?_
  refine G_istore (L' := [rv 56, rv 3, rv 46, rv 52, iv v4, iv r1, iv 0, iv (-1), none, none, none]) C dX10_bestFor_20 (by decide) rfl ?_
  refine G_iconst C dX10_bestFor_22 ?_
  refine G_istore (L' := [rv 56, rv 3, rv 46, rv 52, iv v4, iv r1, iv 0, iv (-1), iv 0, none, none]) C dX10_bestFor_23 (by decide) rfl ?_
  exact h
set_option maxRecDepth 20000 in
theorem kb_X10_bestFor_25 {X : Cx} {d : Nat} {P : Int → Sto → Prop} (C : Ok LY X RX10 cX10_bestFor 11 d) (r : RetI LY X cX10_bestFor P) {v4 v5 v6 v7 v8 : Int} {s : Sto} (h : ((rg v8 ∧ rg (s 3 9)) ∧ (((s 3 9) ≤ v8 → P v7 s) ∧ (v8 < (s 3 9) → ((0 ≤ v8 ∧ v8 < 10) ∧ (CallI LY d MX7_worthWith [.inr 46, .inr 3, .inl v4, .inl (s 13 v8)] s (fun r1 s1 => ((rg ((s 4 5) * (r1 - v5)) ∧ rg v6) ∧ ((((s 4 5) * (r1 - v5)) ≤ v6 → ((rg ((s 4 5) * (r1 - v5)) ∧ rg v6) ∧ ((((s 4 5) * (r1 - v5)) ≤ v6 → G LY X 25 [rv 56, rv 3, rv 46, rv 52, iv v4, iv v5, iv v6, iv v7, iv (v8 + 1), none, none] [] s1) ∧ (v6 < ((s 4 5) * (r1 - v5)) → ((0 ≤ v4 ∧ v4 < 20) ∧ (CallI LY d MX1_allows [.inr 52, .inr 3, .inl v4, .inl (s1 57 v4), .inl (s 13 v8), .inl v5] s1 (fun r2 s2 => ((rg r2) ∧ ((r2 = 0 → G LY X 25 [rv 56, rv 3, rv 46, rv 52, iv v4, iv v5, iv v6, iv v7, iv (v8 + 1), none, none] [] s2) ∧ (r2 ≠ 0 → G LY X 25 [rv 56, rv 3, rv 46, rv 52, iv v4, iv v5, iv ((s 4 5) * (r1 - v5)), iv v8, iv (v8 + 1), none, none] [] s2)))))))))) ∧ (v6 < ((s 4 5) * (r1 - v5)) → ((0 ≤ v4 ∧ v4 < 20) ∧ (CallI LY d MX1_feeOf [.inr 52, .inr 4, .inl (s1 57 v4), .inl (s 13 v8)] s1 (fun r3 s3 => ((rg (((s 4 5) * (r1 - v5)) - r3) ∧ rg v6) ∧ (((((s 4 5) * (r1 - v5)) - r3) ≤ v6 → G LY X 25 [rv 56, rv 3, rv 46, rv 52, iv v4, iv v5, iv v6, iv v7, iv (v8 + 1), none, none] [] s3) ∧ (v6 < (((s 4 5) * (r1 - v5)) - r3) → ((0 ≤ v4 ∧ v4 < 20) ∧ (CallI LY d MX1_allows [.inr 52, .inr 3, .inl v4, .inl (s3 57 v4), .inl (s 13 v8), .inl v5] s3 (fun r4 s4 => ((rg r4) ∧ ((r4 = 0 → G LY X 25 [rv 56, rv 3, rv 46, rv 52, iv v4, iv v5, iv v6, iv v7, iv (v8 + 1), none, none] [] s4) ∧ (r4 ≠ 0 → G LY X 25 [rv 56, rv 3, rv 46, rv 52, iv v4, iv v5, iv (((s 4 5) * (r1 - v5)) - r3), iv v8, iv (v8 + 1), none, none] [] s4)))))))))))))))))))))) : G LY X 25 [rv 56, rv 3, rv 46, rv 52, iv v4, iv v5, iv v6, iv v7, iv v8, none, none] [] s := by
  refine G_iload C dX10_bestFor_25 rfl ?_
  refine G_aload_n C dX10_bestFor_27 rfl ?_
  refine gI_X2_9 C ly_3 rfl wf_X10_85 dX10_bestFor_28 ?_
  refine G_icmp_ge (tgt := 135) C dX10_bestFor_31 (by decide) ⟨h.1.1, h.1.2⟩ (fun q => ?_) (fun q => ?_)
  · have h := h.2.1 q
    refine G_iload C dX10_bestFor_135 rfl ?_
    exact r _ _ _ _ dX10_bestFor_137 h
  · have h := h.2.2 q
    refine G_aload_n C dX10_bestFor_34 rfl ?_
    refine gR_X2_10 C ly_3 rfl wf_X10_71 dX10_bestFor_35 ?_
    refine G_iload C dX10_bestFor_38 rfl ?_
    refine G_iald C ly_13 (by decide) h.1 dX10_bestFor_40 ?_
    have h := h.2
    refine G_istore (L' := [rv 56, rv 3, rv 46, rv 52, iv v4, iv v5, iv v6, iv v7, iv v8, iv (s 13 v8), none]) C dX10_bestFor_41 (by decide) rfl ?_
    refine G_aload_n C dX10_bestFor_43 rfl ?_
    refine gR_X2_4 C ly_3 rfl wf_X10_88 dX10_bestFor_44 ?_
    refine G_iconst C dX10_bestFor_47 ?_
    refine G_iald C ly_4 (by decide) (by decide) dX10_bestFor_48 ?_
    refine G_aload_n C dX10_bestFor_49 rfl ?_
    refine G_aload_n C dX10_bestFor_50 rfl ?_
    refine G_iload C dX10_bestFor_51 rfl ?_
    refine G_iload C dX10_bestFor_53 rfl ?_
    refine G_callVI (K := [.inl (s 4 5)]) (args := [.inr 3, .inl v4, .inl (s 13 v8)]) (T := TX7) (N := 5) C ly_46 rfl (Nat.le_of_ble_eq_true rfl) mo_X7_worthWith wc_X10_81 rfl dX10_bestFor_55 h (fun r1 s1 h => ?_)
    refine G_iload C dX10_bestFor_58 rfl ?_
    refine G_isub C dX10_bestFor_60 ?_
    refine G_imul C dX10_bestFor_61 ?_
    refine G_istore (L' := [rv 56, rv 3, rv 46, rv 52, iv v4, iv v5, iv v6, iv v7, iv v8, iv (s 13 v8), iv ((s 4 5) * (r1 - v5))]) C dX10_bestFor_62 (by decide) rfl ?_
    refine G_iload C dX10_bestFor_64 rfl ?_
    refine G_iload C dX10_bestFor_66 rfl ?_
    refine G_icmp_le (tgt := 93) C dX10_bestFor_68 (by decide) ⟨h.1.1, h.1.2⟩ (fun q => ?_) (fun q => ?_)
    · have h := h.2.1 q
      refine G_iload C dX10_bestFor_93 rfl ?_
      refine G_iload C dX10_bestFor_95 rfl ?_
      refine G_icmp_le (tgt := 129) C dX10_bestFor_97 (by decide) ⟨h.1.1, h.1.2⟩ (fun q => ?_) (fun q => ?_)
      · have h := h.2.1 q
        refine G_iinc (L' := [rv 56, rv 3, rv 46, rv 52, iv v4, iv v5, iv v6, iv v7, iv (v8 + 1), iv (s 13 v8), iv ((s 4 5) * (r1 - v5))]) C dX10_bestFor_129 (by decide) rfl rfl ?_
        refine G_goto (tgt := 25) C dX10_bestFor_132 (by decide) ?_
        refine G_drop (i := 9) (L' := [rv 56, rv 3, rv 46, rv 52, iv v4, iv v5, iv v6, iv v7, iv (v8 + 1), none, iv ((s 4 5) * (r1 - v5))]) rfl ?_
        refine G_drop (i := 10) (L' := [rv 56, rv 3, rv 46, rv 52, iv v4, iv v5, iv v6, iv v7, iv (v8 + 1), none, none]) rfl ?_
        exact h
      · have h := h.2.2 q
        refine G_aload_n C dX10_bestFor_100 rfl ?_
        refine G_aload_n C dX10_bestFor_101 rfl ?_
        refine G_iload C dX10_bestFor_102 rfl ?_
        refine G_aload_n C dX10_bestFor_104 rfl ?_
        refine gR_X10_0 C ly_56 rfl wf_X10_9 dX10_bestFor_105 ?_
        refine G_iload C dX10_bestFor_108 rfl ?_
        refine G_iald C ly_57 (by decide) h.1 dX10_bestFor_110 ?_
        have h := h.2
        refine G_iload C dX10_bestFor_111 rfl ?_
        refine G_iload C dX10_bestFor_113 rfl ?_
        refine G_callVI (K := []) (args := [.inr 3, .inl v4, .inl (s1 57 v4), .inl (s 13 v8), .inl v5]) (T := TX1) (N := 3) C ly_52 rfl (Nat.le_of_ble_eq_true rfl) mo_X1_allows wc_X10_97 rfl dX10_bestFor_115 h (fun r2 s2 h => ?_)
        refine G_if_eq (tgt := 129) C dX10_bestFor_118 (by decide) h.1 (fun q => ?_) (fun q => ?_)
        · have h := h.2.1 q
          refine G_iinc (L' := [rv 56, rv 3, rv 46, rv 52, iv v4, iv v5, iv v6, iv v7, iv (v8 + 1), iv (s 13 v8), iv ((s 4 5) * (r1 - v5))]) C dX10_bestFor_129 (by decide) rfl rfl ?_
          refine G_goto (tgt := 25) C dX10_bestFor_132 (by decide) ?_
          refine G_drop (i := 9) (L' := [rv 56, rv 3, rv 46, rv 52, iv v4, iv v5, iv v6, iv v7, iv (v8 + 1), none, iv ((s 4 5) * (r1 - v5))]) rfl ?_
          refine G_drop (i := 10) (L' := [rv 56, rv 3, rv 46, rv 52, iv v4, iv v5, iv v6, iv v7, iv (v8 + 1), none, none]) rfl ?_
          exact h
        · have h := h.2.2 q
          refine G_iload C dX10_bestFor_121 rfl ?_
          refine G_istore (L' := [rv 56, rv 3, rv 46, rv 52, iv v4, iv v5, iv ((s 4 5) * (r1 - v5)), iv v7, iv v8, iv (s 13 v8), iv ((s 4 5) * (r1 - v5))]) C dX10_bestFor_123 (by decide) rfl ?_
          refine G_iload C dX10_bestFor_125 rfl ?_
          refine G_istore (L' := [rv 56, rv 3, rv 46, rv 52, iv v4, iv v5, iv ((s 4 5) * (r1 - v5)), iv v8, iv v8, iv (s 13 v8), iv ((s 4 5) * (r1 - v5))]) C dX10_bestFor_127 (by decide) rfl ?_
          refine G_iinc (L' := [rv 56, rv 3, rv 46, rv 52, iv v4, iv v5, iv ((s 4 5) * (r1 - v5)), iv v8, iv (v8 + 1), iv (s 13 v8), iv ((s 4 5) * (r1 - v5))]) C dX10_bestFor_129 (by decide) rfl rfl ?_
          refine G_goto (tgt := 25) C dX10_bestFor_132 (by decide) ?_
          refine G_drop (i := 9) (L' := [rv 56, rv 3, rv 46, rv 52, iv v4, iv v5, iv ((s 4 5) * (r1 - v5)), iv v8, iv (v8 + 1), none, iv ((s 4 5) * (r1 - v5))]) rfl ?_
          refine G_drop (i := 10) (L' := [rv 56, rv 3, rv 46, rv 52, iv v4, iv v5, iv ((s 4 5) * (r1 - v5)), iv v8, iv (v8 + 1), none, none]) rfl ?_
          exact h
    · have h := h.2.2 q
      refine G_iload C dX10_bestFor_71 rfl ?_
      refine G_aload_n C dX10_bestFor_73 rfl ?_
      refine G_aload_n C dX10_bestFor_74 rfl ?_
      refine gR_X2_4 C ly_3 rfl wf_X10_88 dX10_bestFor_75 ?_
      refine G_aload_n C dX10_bestFor_78 rfl ?_
      refine gR_X10_0 C ly_56 rfl wf_X10_9 dX10_bestFor_79 ?_
      refine G_iload C dX10_bestFor_82 rfl ?_
      refine G_iald C ly_57 (by decide) h.1 dX10_bestFor_84 ?_
      have h := h.2
      refine G_iload C dX10_bestFor_85 rfl ?_
      refine G_callVI (K := [.inl ((s 4 5) * (r1 - v5))]) (args := [.inr 4, .inl (s1 57 v4), .inl (s 13 v8)]) (T := TX1) (N := 3) C ly_52 rfl (Nat.le_of_ble_eq_true rfl) mo_X1_feeOf wc_X10_91 rfl dX10_bestFor_87 h (fun r3 s3 h => ?_)
      refine G_isub C dX10_bestFor_90 ?_
      refine G_istore (L' := [rv 56, rv 3, rv 46, rv 52, iv v4, iv v5, iv v6, iv v7, iv v8, iv (s 13 v8), iv (((s 4 5) * (r1 - v5)) - r3)]) C dX10_bestFor_91 (by decide) rfl ?_
      refine G_iload C dX10_bestFor_93 rfl ?_
      refine G_iload C dX10_bestFor_95 rfl ?_
      refine G_icmp_le (tgt := 129) C dX10_bestFor_97 (by decide) ⟨h.1.1, h.1.2⟩ (fun q => ?_) (fun q => ?_)
      · have h := h.2.1 q
        refine G_iinc (L' := [rv 56, rv 3, rv 46, rv 52, iv v4, iv v5, iv v6, iv v7, iv (v8 + 1), iv (s 13 v8), iv (((s 4 5) * (r1 - v5)) - r3)]) C dX10_bestFor_129 (by decide) rfl rfl ?_
        refine G_goto (tgt := 25) C dX10_bestFor_132 (by decide) ?_
        refine G_drop (i := 9) (L' := [rv 56, rv 3, rv 46, rv 52, iv v4, iv v5, iv v6, iv v7, iv (v8 + 1), none, iv (((s 4 5) * (r1 - v5)) - r3)]) rfl ?_
        refine G_drop (i := 10) (L' := [rv 56, rv 3, rv 46, rv 52, iv v4, iv v5, iv v6, iv v7, iv (v8 + 1), none, none]) rfl ?_
        exact h
      · have h := h.2.2 q
        refine G_aload_n C dX10_bestFor_100 rfl ?_
        refine G_aload_n C dX10_bestFor_101 rfl ?_
        refine G_iload C dX10_bestFor_102 rfl ?_
        refine G_aload_n C dX10_bestFor_104 rfl ?_
        refine gR_X10_0 C ly_56 rfl wf_X10_9 dX10_bestFor_105 ?_
        refine G_iload C dX10_bestFor_108 rfl ?_
        refine G_iald C ly_57 (by decide) h.1 dX10_bestFor_110 ?_
        have h := h.2
        refine G_iload C dX10_bestFor_111 rfl ?_
        refine G_iload C dX10_bestFor_113 rfl ?_
        refine G_callVI (K := []) (args := [.inr 3, .inl v4, .inl (s3 57 v4), .inl (s 13 v8), .inl v5]) (T := TX1) (N := 3) C ly_52 rfl (Nat.le_of_ble_eq_true rfl) mo_X1_allows wc_X10_97 rfl dX10_bestFor_115 h (fun r4 s4 h => ?_)
        refine G_if_eq (tgt := 129) C dX10_bestFor_118 (by decide) h.1 (fun q => ?_) (fun q => ?_)
        · have h := h.2.1 q
          refine G_iinc (L' := [rv 56, rv 3, rv 46, rv 52, iv v4, iv v5, iv v6, iv v7, iv (v8 + 1), iv (s 13 v8), iv (((s 4 5) * (r1 - v5)) - r3)]) C dX10_bestFor_129 (by decide) rfl rfl ?_
          refine G_goto (tgt := 25) C dX10_bestFor_132 (by decide) ?_
          refine G_drop (i := 9) (L' := [rv 56, rv 3, rv 46, rv 52, iv v4, iv v5, iv v6, iv v7, iv (v8 + 1), none, iv (((s 4 5) * (r1 - v5)) - r3)]) rfl ?_
          refine G_drop (i := 10) (L' := [rv 56, rv 3, rv 46, rv 52, iv v4, iv v5, iv v6, iv v7, iv (v8 + 1), none, none]) rfl ?_
          exact h
        · have h := h.2.2 q
          refine G_iload C dX10_bestFor_121 rfl ?_
          refine G_istore (L' := [rv 56, rv 3, rv 46, rv 52, iv v4, iv v5, iv (((s 4 5) * (r1 - v5)) - r3), iv v7, iv v8, iv (s 13 v8), iv (((s 4 5) * (r1 - v5)) - r3)]) C dX10_bestFor_123 (by decide) rfl ?_
          refine G_iload C dX10_bestFor_125 rfl ?_
          refine G_istore (L' := [rv 56, rv 3, rv 46, rv 52, iv v4, iv v5, iv (((s 4 5) * (r1 - v5)) - r3), iv v8, iv v8, iv (s 13 v8), iv (((s 4 5) * (r1 - v5)) - r3)]) C dX10_bestFor_127 (by decide) rfl ?_
          refine G_iinc (L' := [rv 56, rv 3, rv 46, rv 52, iv v4, iv v5, iv (((s 4 5) * (r1 - v5)) - r3), iv v8, iv (v8 + 1), iv (s 13 v8), iv (((s 4 5) * (r1 - v5)) - r3)]) C dX10_bestFor_129 (by decide) rfl rfl ?_
          refine G_goto (tgt := 25) C dX10_bestFor_132 (by decide) ?_
          refine G_drop (i := 9) (L' := [rv 56, rv 3, rv 46, rv 52, iv v4, iv v5, iv (((s 4 5) * (r1 - v5)) - r3), iv v8, iv (v8 + 1), none, iv (((s 4 5) * (r1 - v5)) - r3)]) rfl ?_
          refine G_drop (i := 10) (L' := [rv 56, rv 3, rv 46, rv 52, iv v4, iv v5, iv (((s 4 5) * (r1 - v5)) - r3), iv v8, iv (v8 + 1), none, none]) rfl ?_
          exact h
set_option maxRecDepth 20000 in
theorem kb_X0_supportOverAll_0 {X : Cx} {d : Nat} {P : Int → Sto → Prop} (C : Ok LY X RX0 cX0_supportOverAll 6 d) (r : RetI LY X cX0_supportOverAll P) {v1 v2 v3 : Int} {s : Sto} (h : G LY X 6 [rv 59, iv v1, iv v2, iv v3, iv 0, iv 0] [] s) : G LY X 0 [rv 59, iv v1, iv v2, iv v3, none, none] [] s := by
  refine G_iconst C dX0_supportOverAll_0 ?_
  refine G_istore (L' := [rv 59, iv v1, iv v2, iv v3, iv 0, none]) C dX0_supportOverAll_1 (by decide) rfl ?_
  refine G_iconst C dX0_supportOverAll_3 ?_
  refine G_istore (L' := [rv 59, iv v1, iv v2, iv v3, iv 0, iv 0]) C dX0_supportOverAll_4 (by decide) rfl ?_
  exact h
set_option maxRecDepth 20000 in
theorem kb_X0_supportOverAll_6 {X : Cx} {d : Nat} {P : Int → Sto → Prop} (C : Ok LY X RX0 cX0_supportOverAll 6 d) (r : RetI LY X cX0_supportOverAll P) {v1 v2 v3 v4 v5 : Int} {s : Sto} (h : ((rg v5 ∧ rg v3) ∧ ((v3 ≤ v5 → P v4 s) ∧ (v5 < v3 → (((xand (xshr v2 v5) 1) ≠ 1 → G LY X 6 [rv 59, iv v1, iv v2, iv v3, iv v4, iv (v5 + 1)] [] s) ∧ ((xand (xshr v2 v5) 1) = 1 → (CallI LY d MX0_supportOf [.inr 59, .inl v1, .inl v5] s (fun r1 s1 => G LY X 6 [rv 59, iv v1, iv v2, iv v3, iv (v4 + r1), iv (v5 + 1)] [] s1)))))))) : G LY X 6 [rv 59, iv v1, iv v2, iv v3, iv v4, iv v5] [] s := by
  refine G_iload C dX0_supportOverAll_6 rfl ?_
  refine G_iload_n C dX0_supportOverAll_8 rfl ?_
  refine G_icmp_ge (tgt := 40) C dX0_supportOverAll_9 (by decide) ⟨h.1.1, h.1.2⟩ (fun q => ?_) (fun q => ?_)
  · have h := h.2.1 q
    refine G_iload C dX0_supportOverAll_40 rfl ?_
    exact r _ _ _ _ dX0_supportOverAll_42 h
  · have h := h.2.2 q
    refine G_iload_n C dX0_supportOverAll_12 rfl ?_
    refine G_iload C dX0_supportOverAll_13 rfl ?_
    refine G_ishr C dX0_supportOverAll_15 ?_
    refine G_iconst C dX0_supportOverAll_16 ?_
    refine G_iand C dX0_supportOverAll_17 ?_
    refine G_iconst C dX0_supportOverAll_18 ?_
    refine G_icmp_ne (tgt := 34) C dX0_supportOverAll_19 (by decide) ⟨(oI_rg _), (by decide)⟩ (fun q => ?_) (fun q => ?_)
    · have h := h.1 q
      refine G_iinc (L' := [rv 59, iv v1, iv v2, iv v3, iv v4, iv (v5 + 1)]) C dX0_supportOverAll_34 (by decide) rfl rfl ?_
      refine G_goto (tgt := 6) C dX0_supportOverAll_37 (by decide) ?_
      exact h
    · have h := h.2 q
      refine G_iload C dX0_supportOverAll_22 rfl ?_
      refine G_aload_n C dX0_supportOverAll_24 rfl ?_
      refine G_iload_n C dX0_supportOverAll_25 rfl ?_
      refine G_iload C dX0_supportOverAll_26 rfl ?_
      refine G_callVI (K := [.inl v4]) (args := [.inl v1, .inl v5]) (T := TX0) (N := 11) C ly_59 rfl (Nat.le_of_ble_eq_true rfl) mo_X0_supportOf wc_X0_47 rfl dX0_supportOverAll_28 h (fun r1 s1 h => ?_)
      refine G_iadd C dX0_supportOverAll_31 ?_
      refine G_istore (L' := [rv 59, iv v1, iv v2, iv v3, iv (v4 + r1), iv v5]) C dX0_supportOverAll_32 (by decide) rfl ?_
      refine G_iinc (L' := [rv 59, iv v1, iv v2, iv v3, iv (v4 + r1), iv (v5 + 1)]) C dX0_supportOverAll_34 (by decide) rfl rfl ?_
      refine G_goto (tgt := 6) C dX0_supportOverAll_37 (by decide) ?_
      exact h
set_option maxRecDepth 20000 in
theorem kb_X0_supportAcross_0 {X : Cx} {d : Nat} {P : Int → Sto → Prop} (C : Ok LY X RX0 cX0_supportAcross 6 d) (r : RetI LY X cX0_supportAcross P) {v1 v2 v3 : Int} {s : Sto} (h : G LY X 6 [rv 59, iv v1, iv v2, iv v3, iv 0, iv 0] [] s) : G LY X 0 [rv 59, iv v1, iv v2, iv v3, none, none] [] s := by
  refine G_iconst C dX0_supportAcross_0 ?_
  refine G_istore (L' := [rv 59, iv v1, iv v2, iv v3, iv 0, none]) C dX0_supportAcross_1 (by decide) rfl ?_
  refine G_iconst C dX0_supportAcross_3 ?_
  refine G_istore (L' := [rv 59, iv v1, iv v2, iv v3, iv 0, iv 0]) C dX0_supportAcross_4 (by decide) rfl ?_
  exact h
set_option maxRecDepth 20000 in
theorem kb_X0_supportAcross_6 {X : Cx} {d : Nat} {P : Int → Sto → Prop} (C : Ok LY X RX0 cX0_supportAcross 6 d) (r : RetI LY X cX0_supportAcross P) {v1 v2 v3 v4 v5 : Int} {s : Sto} (h : ((rg v5 ∧ rg v3) ∧ ((v3 ≤ v5 → P v4 s) ∧ (v5 < v3 → (((xand (xshr v1 v5) 1) ≠ 1 → G LY X 6 [rv 59, iv v1, iv v2, iv v3, iv v4, iv (v5 + 1)] [] s) ∧ ((xand (xshr v1 v5) 1) = 1 → (CallI LY d MX0_supportOverAll [.inr 59, .inl v5, .inl v2, .inl v3] s (fun r1 s1 => G LY X 6 [rv 59, iv v1, iv v2, iv v3, iv (v4 + r1), iv (v5 + 1)] [] s1)))))))) : G LY X 6 [rv 59, iv v1, iv v2, iv v3, iv v4, iv v5] [] s := by
  refine G_iload C dX0_supportAcross_6 rfl ?_
  refine G_iload_n C dX0_supportAcross_8 rfl ?_
  refine G_icmp_ge (tgt := 41) C dX0_supportAcross_9 (by decide) ⟨h.1.1, h.1.2⟩ (fun q => ?_) (fun q => ?_)
  · have h := h.2.1 q
    refine G_iload C dX0_supportAcross_41 rfl ?_
    exact r _ _ _ _ dX0_supportAcross_43 h
  · have h := h.2.2 q
    refine G_iload_n C dX0_supportAcross_12 rfl ?_
    refine G_iload C dX0_supportAcross_13 rfl ?_
    refine G_ishr C dX0_supportAcross_15 ?_
    refine G_iconst C dX0_supportAcross_16 ?_
    refine G_iand C dX0_supportAcross_17 ?_
    refine G_iconst C dX0_supportAcross_18 ?_
    refine G_icmp_ne (tgt := 35) C dX0_supportAcross_19 (by decide) ⟨(oI_rg _), (by decide)⟩ (fun q => ?_) (fun q => ?_)
    · have h := h.1 q
      refine G_iinc (L' := [rv 59, iv v1, iv v2, iv v3, iv v4, iv (v5 + 1)]) C dX0_supportAcross_35 (by decide) rfl rfl ?_
      refine G_goto (tgt := 6) C dX0_supportAcross_38 (by decide) ?_
      exact h
    · have h := h.2 q
      refine G_iload C dX0_supportAcross_22 rfl ?_
      refine G_aload_n C dX0_supportAcross_24 rfl ?_
      refine G_iload C dX0_supportAcross_25 rfl ?_
      refine G_iload_n C dX0_supportAcross_27 rfl ?_
      refine G_iload_n C dX0_supportAcross_28 rfl ?_
      refine G_callVI (K := [.inl v4]) (args := [.inl v5, .inl v2, .inl v3]) (T := TX0) (N := 11) C ly_59 rfl (Nat.le_of_ble_eq_true rfl) mo_X0_supportOverAll wc_X0_102 rfl dX0_supportAcross_29 h (fun r1 s1 h => ?_)
      refine G_iadd C dX0_supportAcross_32 ?_
      refine G_istore (L' := [rv 59, iv v1, iv v2, iv v3, iv (v4 + r1), iv v5]) C dX0_supportAcross_33 (by decide) rfl ?_
      refine G_iinc (L' := [rv 59, iv v1, iv v2, iv v3, iv (v4 + r1), iv (v5 + 1)]) C dX0_supportAcross_35 (by decide) rfl rfl ?_
      refine G_goto (tgt := 6) C dX0_supportAcross_38 (by decide) ?_
      exact h
set_option maxRecDepth 20000 in
theorem kb_X0_meritOf_0 {X : Cx} {d : Nat} {P : Int → Sto → Prop} (C : Ok LY X RX0 cX0_meritOf 6 d) (r : RetI LY X cX0_meritOf P) {v1 v2 v3 : Int} {s : Sto} (h : G LY X 6 [rv 59, iv v1, iv v2, iv v3, iv 0, iv 0] [] s) : G LY X 0 [rv 59, iv v1, iv v2, iv v3, none, none] [] s := by
  refine G_iconst C dX0_meritOf_0 ?_
  refine G_istore (L' := [rv 59, iv v1, iv v2, iv v3, iv 0, none]) C dX0_meritOf_1 (by decide) rfl ?_
  refine G_iconst C dX0_meritOf_3 ?_
  refine G_istore (L' := [rv 59, iv v1, iv v2, iv v3, iv 0, iv 0]) C dX0_meritOf_4 (by decide) rfl ?_
  exact h
set_option maxRecDepth 20000 in
theorem kb_X0_meritOf_6 {X : Cx} {d : Nat} {P : Int → Sto → Prop} (C : Ok LY X RX0 cX0_meritOf 6 d) (r : RetI LY X cX0_meritOf P) {v1 v2 v3 v4 v5 : Int} {s : Sto} (h : ((rg v5 ∧ rg v2) ∧ ((v2 ≤ v5 → P v4 s) ∧ (v5 < v2 → ((rg v3) ∧ ((v3 ≠ 0 → (CallI LY d MX0_beats [.inr 59, .inl v1, .inl v5] s (fun r1 s1 => ((rg r1) ∧ ((r1 = 0 → G LY X 6 [rv 59, iv v1, iv v2, iv v3, iv v4, iv (v5 + 1)] [] s1) ∧ (r1 ≠ 0 → G LY X 6 [rv 59, iv v1, iv v2, iv v3, iv (v4 + 1), iv (v5 + 1)] [] s1)))))) ∧ (v3 = 0 → (CallI LY d MX0_supportOf [.inr 59, .inl v1, .inl v5] s (fun r2 s2 => G LY X 6 [rv 59, iv v1, iv v2, iv v3, iv (v4 + r2), iv (v5 + 1)] [] s2))))))))) : G LY X 6 [rv 59, iv v1, iv v2, iv v3, iv v4, iv v5] [] s := by
  refine G_iload C dX0_meritOf_6 rfl ?_
  refine G_iload_n C dX0_meritOf_8 rfl ?_
  refine G_icmp_ge (tgt := 50) C dX0_meritOf_9 (by decide) ⟨h.1.1, h.1.2⟩ (fun q => ?_) (fun q => ?_)
  · have h := h.2.1 q
    refine G_iload C dX0_meritOf_50 rfl ?_
    exact r _ _ _ _ dX0_meritOf_52 h
  · have h := h.2.2 q
    refine G_iload_n C dX0_meritOf_12 rfl ?_
    refine G_if_ne (tgt := 31) C dX0_meritOf_13 (by decide) h.1 (fun q => ?_) (fun q => ?_)
    · have h := h.2.1 q
      refine G_aload_n C dX0_meritOf_31 rfl ?_
      refine G_iload_n C dX0_meritOf_32 rfl ?_
      refine G_iload C dX0_meritOf_33 rfl ?_
      refine G_callVI (K := []) (args := [.inl v1, .inl v5]) (T := TX0) (N := 11) C ly_59 rfl (Nat.le_of_ble_eq_true rfl) mo_X0_beats wc_X0_92 rfl dX0_meritOf_35 h (fun r1 s1 h => ?_)
      refine G_if_eq (tgt := 44) C dX0_meritOf_38 (by decide) h.1 (fun q => ?_) (fun q => ?_)
      · have h := h.2.1 q
        refine G_iinc (L' := [rv 59, iv v1, iv v2, iv v3, iv v4, iv (v5 + 1)]) C dX0_meritOf_44 (by decide) rfl rfl ?_
        refine G_goto (tgt := 6) C dX0_meritOf_47 (by decide) ?_
        exact h
      · have h := h.2.2 q
        refine G_iinc (L' := [rv 59, iv v1, iv v2, iv v3, iv (v4 + 1), iv v5]) C dX0_meritOf_41 (by decide) rfl rfl ?_
        refine G_iinc (L' := [rv 59, iv v1, iv v2, iv v3, iv (v4 + 1), iv (v5 + 1)]) C dX0_meritOf_44 (by decide) rfl rfl ?_
        refine G_goto (tgt := 6) C dX0_meritOf_47 (by decide) ?_
        exact h
    · have h := h.2.2 q
      refine G_iload C dX0_meritOf_16 rfl ?_
      refine G_aload_n C dX0_meritOf_18 rfl ?_
      refine G_iload_n C dX0_meritOf_19 rfl ?_
      refine G_iload C dX0_meritOf_20 rfl ?_
      refine G_callVI (K := [.inl v4]) (args := [.inl v1, .inl v5]) (T := TX0) (N := 11) C ly_59 rfl (Nat.le_of_ble_eq_true rfl) mo_X0_supportOf wc_X0_47 rfl dX0_meritOf_22 h (fun r2 s2 h => ?_)
      refine G_iadd C dX0_meritOf_25 ?_
      refine G_istore (L' := [rv 59, iv v1, iv v2, iv v3, iv (v4 + r2), iv v5]) C dX0_meritOf_26 (by decide) rfl ?_
      refine G_goto (tgt := 44) C dX0_meritOf_28 (by decide) ?_
      refine G_iinc (L' := [rv 59, iv v1, iv v2, iv v3, iv (v4 + r2), iv (v5 + 1)]) C dX0_meritOf_44 (by decide) rfl rfl ?_
      refine G_goto (tgt := 6) C dX0_meritOf_47 (by decide) ?_
      exact h
set_option maxRecDepth 20000 in
theorem kb_X0_swayOf_0 {X : Cx} {d : Nat} {P : Int → Sto → Prop} (C : Ok LY X RX0 cX0_swayOf 5 d) (r : RetI LY X cX0_swayOf P) {v1 v2 : Int} {s : Sto} (h : (CallI LY d MJ6_bitCount_0f7a4 [.inl ((xxor v1 (xand v1 (v1 - 1))) - 1)] s (fun r1 s1 => ((0 ≤ (xand v1 (v1 - 1)) ∧ (xand v1 (v1 - 1)) < 256) ∧ (CallI LY d MX0_supportOf [.inr 59, .inl r1, .inl v2] s1 (fun r2 s2 => (CallI LY d MX0_supportOf [.inr 59, .inl v2, .inl r1] s2 (fun r3 s3 => P (((s1 66 (xand v1 (v1 - 1))) + r2) - r3) s3)))))))) : G LY X 0 [rv 59, iv v1, iv v2, none, none] [] s := by
  refine G_iload_n C dX0_swayOf_0 rfl ?_
  refine G_iload_n C dX0_swayOf_1 rfl ?_
  refine G_iconst C dX0_swayOf_2 ?_
  refine G_isub C dX0_swayOf_3 ?_
  refine G_iand C dX0_swayOf_4 ?_
  refine G_istore_n (L' := [rv 59, iv v1, iv v2, iv (xand v1 (v1 - 1)), none]) C dX0_swayOf_5 (by decide) rfl ?_
  refine G_iload_n C dX0_swayOf_6 rfl ?_
  refine G_iload_n C dX0_swayOf_7 rfl ?_
  refine G_ixor C dX0_swayOf_8 ?_
  refine G_iconst C dX0_swayOf_9 ?_
  refine G_isub C dX0_swayOf_10 ?_
  refine G_callSI (K := []) (args := [.inl ((xxor v1 (xand v1 (v1 - 1))) - 1)]) C (Nat.le_of_ble_eq_true rfl) mo_J6_bitCount_0f7a4 wc_X0_96 rfl dX0_swayOf_11 h (fun r1 s1 h => ?_)
  refine G_istore (L' := [rv 59, iv v1, iv v2, iv (xand v1 (v1 - 1)), iv r1]) C dX0_swayOf_14 (by decide) rfl ?_
  refine G_aload_n C dX0_swayOf_16 rfl ?_
  refine gR_X0_6 C ly_59 rfl wf_X0_31 dX0_swayOf_17 ?_
  refine G_iload_n C dX0_swayOf_20 rfl ?_
  refine G_iald C ly_66 (by decide) h.1 dX0_swayOf_21 ?_
  have h := h.2
  refine G_aload_n C dX0_swayOf_22 rfl ?_
  refine G_iload C dX0_swayOf_23 rfl ?_
  refine G_iload_n C dX0_swayOf_25 rfl ?_
  refine G_callVI (K := [.inl (s1 66 (xand v1 (v1 - 1)))]) (args := [.inl r1, .inl v2]) (T := TX0) (N := 11) C ly_59 rfl (Nat.le_of_ble_eq_true rfl) mo_X0_supportOf wc_X0_47 rfl dX0_swayOf_26 h (fun r2 s2 h => ?_)
  refine G_iadd C dX0_swayOf_29 ?_
  refine G_aload_n C dX0_swayOf_30 rfl ?_
  refine G_iload_n C dX0_swayOf_31 rfl ?_
  refine G_iload C dX0_swayOf_32 rfl ?_
  refine G_callVI (K := [.inl ((s1 66 (xand v1 (v1 - 1))) + r2)]) (args := [.inl v2, .inl r1]) (T := TX0) (N := 11) C ly_59 rfl (Nat.le_of_ble_eq_true rfl) mo_X0_supportOf wc_X0_47 rfl dX0_swayOf_34 h (fun r3 s3 h => ?_)
  refine G_isub C dX0_swayOf_37 ?_
  exact r _ _ _ _ dX0_swayOf_38 h
set_option maxRecDepth 20000 in
theorem kb_X3_swap_0 {X : Cx} {d : Nat} {P : Sto → Prop} (C : Ok LY X RX3 cX3_swap 4 d) (r : RetV LY X cX3_swap P) {v1 v2 : Int} {s : Sto} (h : ((0 ≤ v1 ∧ v1 < 8) ∧ ((0 ≤ v2 ∧ v2 < 8) ∧ ((0 ≤ v1 ∧ v1 < 8) ∧ (∀ s1 : Sto, s1 = up s 72 v1 (s 72 v2) → ((0 ≤ v2 ∧ v2 < 8) ∧ (∀ s2 : Sto, s2 = up s1 72 v2 (s 72 v1) → P s2))))))) : G LY X 0 [rv 69, iv v1, iv v2, none] [] s := by
  refine G_aload_n C dX3_swap_0 rfl ?_
  refine gR_X3_2 C ly_69 rfl wf_X3_18 dX3_swap_1 ?_
  refine G_iload_n C dX3_swap_4 rfl ?_
  refine G_iald C ly_72 (by decide) h.1 dX3_swap_5 ?_
  have h := h.2
  refine G_istore_n (L' := [rv 69, iv v1, iv v2, iv (s 72 v1)]) C dX3_swap_6 (by decide) rfl ?_
  refine G_aload_n C dX3_swap_7 rfl ?_
  refine gR_X3_2 C ly_69 rfl wf_X3_18 dX3_swap_8 ?_
  refine G_iload_n C dX3_swap_11 rfl ?_
  refine G_aload_n C dX3_swap_12 rfl ?_
  refine gR_X3_2 C ly_69 rfl wf_X3_18 dX3_swap_13 ?_
  refine G_iload_n C dX3_swap_16 rfl ?_
  refine G_iald C ly_72 (by decide) h.1 dX3_swap_17 ?_
  have h := h.2
  refine G_iast C ly_72 (by decide) h.1 dX3_swap_18 ?_
  have h := h.2
  have h := h _ rfl
  obtain ⟨s1, e1⟩ : ∃ z, z = up s 72 v1 (s 72 v2) := ⟨_, rfl⟩
  rw [← e1] at h ⊢
  refine G_aload_n C dX3_swap_19 rfl ?_
  refine gR_X3_2 C ly_69 rfl wf_X3_18 dX3_swap_20 ?_
  refine G_iload_n C dX3_swap_23 rfl ?_
  refine G_iload_n C dX3_swap_24 rfl ?_
  refine G_iast C ly_72 (by decide) h.1 dX3_swap_25 ?_
  have h := h.2
  have h := h _ rfl
  obtain ⟨s2, e2⟩ : ∃ z, z = up s1 72 v2 (s 72 v1) := ⟨_, rfl⟩
  rw [← e2] at h ⊢
  exact r _ _ _ dX3_swap_26 h
set_option maxRecDepth 20000 in
theorem kb_X2_draw_0 {X : Cx} {d : Nat} {P : Int → Sto → Prop} (C : Ok LY X RX2 cX2_draw 2 d) (r : RetI LY X cX2_draw P) {v1 : Int} {s : Sto} (h : (∀ s1 : Sto, s1 = up s 3 1 (wr ((wr (1664525 * (s 3 1))) + 1013904223)) → ((rg v1) ∧ ((v1 ≤ 0 → P 0 s1) ∧ (0 < v1 → ((rg v1 ∧ v1 ≠ 0) ∧ P (xrem (xushr (s1 3 1) 8) v1) s1)))))) : G LY X 0 [rv 3, iv v1] [] s := by
  refine G_aload_n C dX2_draw_0 rfl ?_
  refine G_ldc C wk_X2_101 (z := 1664525) (by decide) dX2_draw_1 ?_
  refine G_aload_n C dX2_draw_3 rfl ?_
  refine gI_X2_1 C ly_3 rfl wf_X2_50 dX2_draw_4 ?_
  refine G_imul C dX2_draw_7 ?_
  refine G_wr ?_
  refine G_ldc C wk_X2_102 (z := 1013904223) (by decide) dX2_draw_8 ?_
  refine G_iadd C dX2_draw_10 ?_
  refine G_wr ?_
  refine gP_X2_1 C ly_3 rfl wf_X2_50 dX2_draw_11 ?_
  have h := h _ rfl
  obtain ⟨s1, e1⟩ : ∃ z, z = up s 3 1 (wr ((wr (1664525 * (s 3 1))) + 1013904223)) := ⟨_, rfl⟩
  rw [← e1] at h ⊢
  refine G_iload_n C dX2_draw_14 rfl ?_
  refine G_if_le (tgt := 30) C dX2_draw_15 (by decide) h.1 (fun q => ?_) (fun q => ?_)
  · have h := h.2.1 q
    refine G_iconst C dX2_draw_30 ?_
    exact r _ _ _ _ dX2_draw_31 h
  · have h := h.2.2 q
    refine G_aload_n C dX2_draw_18 rfl ?_
    refine gI_X2_1 C ly_3 rfl wf_X2_50 dX2_draw_19 ?_
    refine G_bipush C dX2_draw_22 bi_8 ?_
    refine G_iushr C dX2_draw_24 ?_
    refine G_iload_n C dX2_draw_25 rfl ?_
    refine G_irem C dX2_draw_26 h.1 ?_
    have h := h.2
    refine G_goto (tgt := 31) C dX2_draw_27 (by decide) ?_
    exact r _ _ _ _ dX2_draw_31 h
set_option maxRecDepth 20000 in
theorem kb_X12_settles_0 {X : Cx} {d : Nat} {P : Sto → Prop} (C : Ok LY X RX12 cX12_settles 2 d) (r : RetV LY X cX12_settles P) {v1 : Int} {s : Sto} (h : ((rg (s 75 39)) ∧ (((s 75 39) ≤ 0 → P s) ∧ (0 < (s 75 39) → ((0 ≤ ((s 75 39) - 1) ∧ ((s 75 39) - 1) < 40) ∧ ((rg (s 98 ((s 75 39) - 1)) ∧ rg v1) ∧ (((s 98 ((s 75 39) - 1)) ≠ v1 → P s) ∧ ((s 98 ((s 75 39) - 1)) = v1 → (∀ s1 : Sto, s1 = up s 75 39 ((s 75 39) - 1) → (CallV LY d MX12_emits [.inr 75, .inl v1, .inl 0] s1 (fun s2 => ((rg v1) ∧ ((v1 ≠ 9 → G LY X 0 [rv 75, iv v1] [] s2) ∧ (v1 = 9 → (∀ s3 : Sto, s3 = up s2 75 37 ((s2 75 37) - 1) → G LY X 0 [rv 75, iv v1] [] s3))))))))))))))) : G LY X 0 [rv 75, iv v1] [] s := by
  refine G_aload_n C dX12_settles_0 rfl ?_
  refine gI_X12_39 C ly_75 rfl wf_X12_271 dX12_settles_1 ?_
  refine G_if_le (tgt := 57) C dX12_settles_4 (by decide) h.1 (fun q => ?_) (fun q => ?_)
  · have h := h.2.1 q
    exact r _ _ _ dX12_settles_57 h
  · have h := h.2.2 q
    refine G_aload_n C dX12_settles_7 rfl ?_
    refine gR_X12_38 C ly_75 rfl wf_X12_80 dX12_settles_8 ?_
    refine G_aload_n C dX12_settles_11 rfl ?_
    refine gI_X12_39 C ly_75 rfl wf_X12_271 dX12_settles_12 ?_
    refine G_iconst C dX12_settles_15 ?_
    refine G_isub C dX12_settles_16 ?_
    refine G_iald C ly_98 (by decide) h.1 dX12_settles_17 ?_
    have h := h.2
    refine G_iload_n C dX12_settles_18 rfl ?_
    refine G_icmp_ne (tgt := 57) C dX12_settles_19 (by decide) ⟨h.1.1, h.1.2⟩ (fun q => ?_) (fun q => ?_)
    · have h := h.2.1 q
      exact r _ _ _ dX12_settles_57 h
    · have h := h.2.2 q
      refine G_aload_n C dX12_settles_22 rfl ?_
      refine G_aload_n C dX12_settles_23 rfl ?_
      refine gI_X12_39 C ly_75 rfl wf_X12_271 dX12_settles_24 ?_
      refine G_iconst C dX12_settles_27 ?_
      refine G_isub C dX12_settles_28 ?_
      refine gP_X12_39 C ly_75 rfl wf_X12_271 dX12_settles_29 ?_
      have h := h _ rfl
      obtain ⟨s1, e1⟩ : ∃ z, z = up s 75 39 ((s 75 39) - 1) := ⟨_, rfl⟩
      rw [← e1] at h ⊢
      refine G_aload_n C dX12_settles_32 rfl ?_
      refine G_iload_n C dX12_settles_33 rfl ?_
      refine G_iconst C dX12_settles_34 ?_
      refine G_callVV (K := []) (args := [.inl v1, .inl 0]) (T := TX12) (N := 72) C ly_75 rfl (Nat.le_of_ble_eq_true rfl) mo_X12_emits wc_X12_252 rfl dX12_settles_35 h (fun s2 h => ?_)
      refine G_iload_n C dX12_settles_38 rfl ?_
      refine G_bipush C dX12_settles_39 bi_9 ?_
      refine G_icmp_ne (tgt := 0) C dX12_settles_41 (by decide) ⟨h.1, (by decide)⟩ (fun q => ?_) (fun q => ?_)
      · have h := h.2.1 q
        exact h
      · have h := h.2.2 q
        refine G_aload_n C dX12_settles_44 rfl ?_
        refine G_aload_n C dX12_settles_45 rfl ?_
        refine gI_X12_37 C ly_75 rfl wf_X12_274 dX12_settles_46 ?_
        refine G_iconst C dX12_settles_49 ?_
        refine G_isub C dX12_settles_50 ?_
        refine gP_X12_37 C ly_75 rfl wf_X12_274 dX12_settles_51 ?_
        have h := h _ rfl
        obtain ⟨s3, e3⟩ : ∃ z, z = up s2 75 37 ((s2 75 37) - 1) := ⟨_, rfl⟩
        rw [← e3] at h ⊢
        refine G_goto (tgt := 0) C dX12_settles_54 (by decide) ?_
        exact h
set_option maxRecDepth 20000 in
theorem kb_X12_waits_0 {X : Cx} {d : Nat} {P : Sto → Prop} (C : Ok LY X RX12 cX12_waits 2 d) (r : RetV LY X cX12_waits P) {v1 : Int} {s : Sto} (h : ((0 ≤ (s 75 39) ∧ (s 75 39) < 40) ∧ (∀ s1 : Sto, s1 = up s 98 (s 75 39) v1 → (∀ s2 : Sto, s2 = up s1 75 39 ((s1 75 39) + 1) → P s2)))) : G LY X 0 [rv 75, iv v1] [] s := by
  refine G_aload_n C dX12_waits_0 rfl ?_
  refine gR_X12_38 C ly_75 rfl wf_X12_80 dX12_waits_1 ?_
  refine G_aload_n C dX12_waits_4 rfl ?_
  refine gI_X12_39 C ly_75 rfl wf_X12_271 dX12_waits_5 ?_
  refine G_iload_n C dX12_waits_8 rfl ?_
  refine G_iast C ly_98 (by decide) h.1 dX12_waits_9 ?_
  have h := h.2
  have h := h _ rfl
  obtain ⟨s1, e1⟩ : ∃ z, z = up s 98 (s 75 39) v1 := ⟨_, rfl⟩
  rw [← e1] at h ⊢
  refine G_aload_n C dX12_waits_10 rfl ?_
  refine G_aload_n C dX12_waits_11 rfl ?_
  refine gI_X12_39 C ly_75 rfl wf_X12_271 dX12_waits_12 ?_
  refine G_iconst C dX12_waits_15 ?_
  refine G_iadd C dX12_waits_16 ?_
  refine gP_X12_39 C ly_75 rfl wf_X12_271 dX12_waits_17 ?_
  have h := h _ rfl
  obtain ⟨s2, e2⟩ : ∃ z, z = up s1 75 39 ((s1 75 39) + 1) := ⟨_, rfl⟩
  rw [← e2] at h ⊢
  exact r _ _ _ dX12_waits_20 h
