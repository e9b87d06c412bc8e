set_option maxRecDepth 20000 in
theorem kb_X12_readProduct_0 {X : Cx} {d : Nat} {P : Int → Sto → Prop} (C : Ok LY X RX12 cX12_readProduct 2 d) (r : RetI LY X cX12_readProduct P) {s : Sto} (h : (CallI LY d MX12_readUnit [.inr 75] s (fun r1 s1 => ((rg r1) ∧ ((r1 ≠ (-1) → G LY X 10 [rv 75, none] [] s1) ∧ (r1 = (-1) → P (-1) s1)))))) : G LY X 0 [rv 75, none] [] s := by
  refine G_aload_n C dX12_readProduct_0 rfl ?_
  refine G_callVI (K := []) (args := []) (T := TX12) (N := 72) C ly_75 rfl (Nat.le_of_ble_eq_true rfl) mo_X12_readUnit wc_X12_258 rfl dX12_readProduct_1 h (fun r1 s1 h => ?_)
  refine G_iconst C dX12_readProduct_4 ?_
  refine G_icmp_ne (tgt := 10) C dX12_readProduct_5 (by decide) ⟨h.1, (by decide)⟩ (fun q => ?_) (fun q => ?_)
  · have h := h.2.1 q
    exact h
  · have h := h.2.2 q
    refine G_iconst C dX12_readProduct_8 ?_
    exact r _ _ _ _ dX12_readProduct_9 h
set_option maxRecDepth 20000 in
theorem kb_X12_readProduct_10 {X : Cx} {d : Nat} {P : Int → Sto → Prop} (C : Ok LY X RX12 cX12_readProduct 2 d) (r : RetI LY X cX12_readProduct P) {s : Sto} (h : (CallI LY d MX12_isSign [.inr 75, .inl 42] s (fun r1 s1 => ((rg r1) ∧ ((r1 ≠ 0 → (CallI LY d MX12_isSign [.inr 75, .inl 42] s1 (fun r2 s2 => (CallV LY d MX12_reads [.inr 75] s2 (fun s3 => ((rg r2) ∧ ((r2 ≠ 0 → G LY X 57 [rv 75, iv r2] [] s3) ∧ (r2 = 0 → ((rg (s3 75 27)) ∧ (((s3 75 27) = 3 → G LY X 57 [rv 75, iv r2] [] s3) ∧ ((s3 75 27) ≠ 3 → (CallI LY d MX12_errs [.inr 75, .inl 1] s3 (fun r4 s4 => P r4 s4))))))))))))) ∧ (r1 = 0 → (CallI LY d MX12_isSign [.inr 75, .inl 47] s1 (fun r5 s5 => ((rg r5) ∧ ((r5 = 0 → P 0 s5) ∧ (r5 ≠ 0 → (CallI LY d MX12_isSign [.inr 75, .inl 42] s5 (fun r6 s6 => (CallV LY d MX12_reads [.inr 75] s6 (fun s7 => ((rg r6) ∧ ((r6 ≠ 0 → G LY X 57 [rv 75, iv r6] [] s7) ∧ (r6 = 0 → ((rg (s7 75 27)) ∧ (((s7 75 27) = 3 → G LY X 57 [rv 75, iv r6] [] s7) ∧ ((s7 75 27) ≠ 3 → (CallI LY d MX12_errs [.inr 75, .inl 1] s7 (fun r8 s8 => P r8 s8))))))))))))))))))))))) : G LY X 10 [rv 75, none] [] s := by
  refine G_aload_n C dX12_readProduct_10 rfl ?_
  refine G_bipush C dX12_readProduct_11 bi_42 ?_
  refine G_callVI (K := []) (args := [.inl 42]) (T := TX12) (N := 72) C ly_75 rfl (Nat.le_of_ble_eq_true rfl) mo_X12_isSign wc_X12_262 rfl dX12_readProduct_13 h (fun r1 s1 h => ?_)
  refine G_if_ne (tgt := 28) C dX12_readProduct_16 (by decide) h.1 (fun q => ?_) (fun q => ?_)
  · have h := h.2.1 q
    refine G_aload_n C dX12_readProduct_28 rfl ?_
    refine G_bipush C dX12_readProduct_29 bi_42 ?_
    refine G_callVI (K := []) (args := [.inl 42]) (T := TX12) (N := 72) C ly_75 rfl (Nat.le_of_ble_eq_true rfl) mo_X12_isSign wc_X12_262 rfl dX12_readProduct_31 h (fun r2 s2 h => ?_)
    refine G_istore_n (L' := [rv 75, iv r2]) C dX12_readProduct_34 (by decide) rfl ?_
    refine G_aload_n C dX12_readProduct_35 rfl ?_
    refine G_callVV (K := []) (args := []) (T := TX12) (N := 72) C ly_75 rfl (Nat.le_of_ble_eq_true rfl) mo_X12_reads wc_X12_255 rfl dX12_readProduct_36 h (fun s3 h => ?_)
    refine G_iload_n C dX12_readProduct_39 rfl ?_
    refine G_if_ne (tgt := 57) C dX12_readProduct_40 (by decide) h.1 (fun q => ?_) (fun q => ?_)
    · have h := h.2.1 q
      exact h
    · have h := h.2.2 q
      refine G_aload_n C dX12_readProduct_43 rfl ?_
      refine gI_X12_27 C ly_75 rfl wf_X12_221 dX12_readProduct_44 ?_
      refine G_iconst C dX12_readProduct_47 ?_
      refine G_icmp_eq (tgt := 57) C dX12_readProduct_48 (by decide) ⟨h.1, (by decide)⟩ (fun q => ?_) (fun q => ?_)
      · have h := h.2.1 q
        exact h
      · have h := h.2.2 q
        refine G_aload_n C dX12_readProduct_51 rfl ?_
        refine G_iconst C dX12_readProduct_52 ?_
        refine G_callVI (K := []) (args := [.inl 1]) (T := TX12) (N := 72) C ly_75 rfl (Nat.le_of_ble_eq_true rfl) mo_X12_errs wc_X12_249 rfl dX12_readProduct_53 h (fun r4 s4 h => ?_)
        exact r _ _ _ _ dX12_readProduct_56 h
  · have h := h.2.2 q
    refine G_aload_n C dX12_readProduct_19 rfl ?_
    refine G_bipush C dX12_readProduct_20 bi_47 ?_
    refine G_callVI (K := []) (args := [.inl 47]) (T := TX12) (N := 72) C ly_75 rfl (Nat.le_of_ble_eq_true rfl) mo_X12_isSign wc_X12_262 rfl dX12_readProduct_22 h (fun r5 s5 h => ?_)
    refine G_if_eq (tgt := 101) C dX12_readProduct_25 (by decide) h.1 (fun q => ?_) (fun q => ?_)
    · have h := h.2.1 q
      refine G_iconst C dX12_readProduct_101 ?_
      exact r _ _ _ _ dX12_readProduct_102 h
    · have h := h.2.2 q
      refine G_aload_n C dX12_readProduct_28 rfl ?_
      refine G_bipush C dX12_readProduct_29 bi_42 ?_
      refine G_callVI (K := []) (args := [.inl 42]) (T := TX12) (N := 72) C ly_75 rfl (Nat.le_of_ble_eq_true rfl) mo_X12_isSign wc_X12_262 rfl dX12_readProduct_31 h (fun r6 s6 h => ?_)
      refine G_istore_n (L' := [rv 75, iv r6]) C dX12_readProduct_34 (by decide) rfl ?_
      refine G_aload_n C dX12_readProduct_35 rfl ?_
      refine G_callVV (K := []) (args := []) (T := TX12) (N := 72) C ly_75 rfl (Nat.le_of_ble_eq_true rfl) mo_X12_reads wc_X12_255 rfl dX12_readProduct_36 h (fun s7 h => ?_)
      refine G_iload_n C dX12_readProduct_39 rfl ?_
      refine G_if_ne (tgt := 57) C dX12_readProduct_40 (by decide) h.1 (fun q => ?_) (fun q => ?_)
      · have h := h.2.1 q
        exact h
      · have h := h.2.2 q
        refine G_aload_n C dX12_readProduct_43 rfl ?_
        refine gI_X12_27 C ly_75 rfl wf_X12_221 dX12_readProduct_44 ?_
        refine G_iconst C dX12_readProduct_47 ?_
        refine G_icmp_eq (tgt := 57) C dX12_readProduct_48 (by decide) ⟨h.1, (by decide)⟩ (fun q => ?_) (fun q => ?_)
        · have h := h.2.1 q
          exact h
        · have h := h.2.2 q
          refine G_aload_n C dX12_readProduct_51 rfl ?_
          refine G_iconst C dX12_readProduct_52 ?_
          refine G_callVI (K := []) (args := [.inl 1]) (T := TX12) (N := 72) C ly_75 rfl (Nat.le_of_ble_eq_true rfl) mo_X12_errs wc_X12_249 rfl dX12_readProduct_53 h (fun r8 s8 h => ?_)
          exact r _ _ _ _ dX12_readProduct_56 h
set_option maxRecDepth 20000 in
theorem kb_X12_readProduct_57 {X : Cx} {d : Nat} {P : Int → Sto → Prop} (C : Ok LY X RX12 cX12_readProduct 2 d) (r : RetI LY X cX12_readProduct P) {v1 : Int} {s : Sto} (h : ((rg v1) ∧ ((v1 ≠ 0 → (CallI LY d MX12_readUnit [.inr 75] s (fun r1 s1 => ((rg r1) ∧ ((r1 ≠ (-1) → ((rg v1) ∧ ((v1 = 0 → (CallV LY d MX12_emits [.inr 75, .inl 5, .inl 0] s1 (fun s2 => G LY X 10 [rv 75, none] [] s2))) ∧ (v1 ≠ 0 → (CallV LY d MX12_emits [.inr 75, .inl 4, .inl 0] s1 (fun s3 => G LY X 10 [rv 75, none] [] s3)))))) ∧ (r1 = (-1) → P (-1) s1)))))) ∧ (v1 = 0 → ((rg (s 75 28)) ∧ (((s 75 28) ≠ 0 → (CallI LY d MX12_readUnit [.inr 75] s (fun r4 s4 => ((rg r4) ∧ ((r4 ≠ (-1) → ((rg v1) ∧ ((v1 = 0 → (CallV LY d MX12_emits [.inr 75, .inl 5, .inl 0] s4 (fun s5 => G LY X 10 [rv 75, none] [] s5))) ∧ (v1 ≠ 0 → (CallV LY d MX12_emits [.inr 75, .inl 4, .inl 0] s4 (fun s6 => G LY X 10 [rv 75, none] [] s6)))))) ∧ (r4 = (-1) → P (-1) s4)))))) ∧ ((s 75 28) = 0 → (CallI LY d MX12_errs [.inr 75, .inl 2] s (fun r7 s7 => P r7 s7))))))))) : G LY X 57 [rv 75, iv v1] [] s := by
  refine G_iload_n C dX12_readProduct_57 rfl ?_
  refine G_if_ne (tgt := 74) C dX12_readProduct_58 (by decide) h.1 (fun q => ?_) (fun q => ?_)
  · have h := h.2.1 q
    refine G_aload_n C dX12_readProduct_74 rfl ?_
    refine G_callVI (K := []) (args := []) (T := TX12) (N := 72) C ly_75 rfl (Nat.le_of_ble_eq_true rfl) mo_X12_readUnit wc_X12_258 rfl dX12_readProduct_75 h (fun r1 s1 h => ?_)
    refine G_iconst C dX12_readProduct_78 ?_
    refine G_icmp_ne (tgt := 84) C dX12_readProduct_79 (by decide) ⟨h.1, (by decide)⟩ (fun q => ?_) (fun q => ?_)
    · have h := h.2.1 q
      refine G_aload_n C dX12_readProduct_84 rfl ?_
      refine G_iload_n C dX12_readProduct_85 rfl ?_
      refine G_if_eq (tgt := 93) C dX12_readProduct_86 (by decide) h.1 (fun q => ?_) (fun q => ?_)
      · have h := h.2.1 q
        refine G_iconst C dX12_readProduct_93 ?_
        refine G_iconst C dX12_readProduct_94 ?_
        refine G_callVV (K := []) (args := [.inl 5, .inl 0]) (T := TX12) (N := 72) C ly_75 rfl (Nat.le_of_ble_eq_true rfl) mo_X12_emits wc_X12_252 rfl dX12_readProduct_95 h (fun s2 h => ?_)
        refine G_goto (tgt := 10) C dX12_readProduct_98 (by decide) ?_
        refine G_drop (i := 1) (L' := [rv 75, none]) rfl ?_
        exact h
      · have h := h.2.2 q
        refine G_iconst C dX12_readProduct_89 ?_
        refine G_goto (tgt := 94) C dX12_readProduct_90 (by decide) ?_
        refine G_iconst C dX12_readProduct_94 ?_
        refine G_callVV (K := []) (args := [.inl 4, .inl 0]) (T := TX12) (N := 72) C ly_75 rfl (Nat.le_of_ble_eq_true rfl) mo_X12_emits wc_X12_252 rfl dX12_readProduct_95 h (fun s3 h => ?_)
        refine G_goto (tgt := 10) C dX12_readProduct_98 (by decide) ?_
        refine G_drop (i := 1) (L' := [rv 75, none]) rfl ?_
        exact h
    · have h := h.2.2 q
      refine G_iconst C dX12_readProduct_82 ?_
      exact r _ _ _ _ dX12_readProduct_83 h
  · have h := h.2.2 q
    refine G_aload_n C dX12_readProduct_61 rfl ?_
    refine gI_X12_28 C ly_75 rfl wf_X12_224 dX12_readProduct_62 ?_
    refine G_if_ne (tgt := 74) C dX12_readProduct_65 (by decide) h.1 (fun q => ?_) (fun q => ?_)
    · have h := h.2.1 q
      refine G_aload_n C dX12_readProduct_74 rfl ?_
      refine G_callVI (K := []) (args := []) (T := TX12) (N := 72) C ly_75 rfl (Nat.le_of_ble_eq_true rfl) mo_X12_readUnit wc_X12_258 rfl dX12_readProduct_75 h (fun r4 s4 h => ?_)
      refine G_iconst C dX12_readProduct_78 ?_
      refine G_icmp_ne (tgt := 84) C dX12_readProduct_79 (by decide) ⟨h.1, (by decide)⟩ (fun q => ?_) (fun q => ?_)
      · have h := h.2.1 q
        refine G_aload_n C dX12_readProduct_84 rfl ?_
        refine G_iload_n C dX12_readProduct_85 rfl ?_
        refine G_if_eq (tgt := 93) C dX12_readProduct_86 (by decide) h.1 (fun q => ?_) (fun q => ?_)
        · have h := h.2.1 q
          refine G_iconst C dX12_readProduct_93 ?_
          refine G_iconst C dX12_readProduct_94 ?_
          refine G_callVV (K := []) (args := [.inl 5, .inl 0]) (T := TX12) (N := 72) C ly_75 rfl (Nat.le_of_ble_eq_true rfl) mo_X12_emits wc_X12_252 rfl dX12_readProduct_95 h (fun s5 h => ?_)
          refine G_goto (tgt := 10) C dX12_readProduct_98 (by decide) ?_
          refine G_drop (i := 1) (L' := [rv 75, none]) rfl ?_
          exact h
        · have h := h.2.2 q
          refine G_iconst C dX12_readProduct_89 ?_
          refine G_goto (tgt := 94) C dX12_readProduct_90 (by decide) ?_
          refine G_iconst C dX12_readProduct_94 ?_
          refine G_callVV (K := []) (args := [.inl 4, .inl 0]) (T := TX12) (N := 72) C ly_75 rfl (Nat.le_of_ble_eq_true rfl) mo_X12_emits wc_X12_252 rfl dX12_readProduct_95 h (fun s6 h => ?_)
          refine G_goto (tgt := 10) C dX12_readProduct_98 (by decide) ?_
          refine G_drop (i := 1) (L' := [rv 75, none]) rfl ?_
          exact h
      · have h := h.2.2 q
        refine G_iconst C dX12_readProduct_82 ?_
        exact r _ _ _ _ dX12_readProduct_83 h
    · have h := h.2.2 q
      refine G_aload_n C dX12_readProduct_68 rfl ?_
      refine G_iconst C dX12_readProduct_69 ?_
      refine G_callVI (K := []) (args := [.inl 2]) (T := TX12) (N := 72) C ly_75 rfl (Nat.le_of_ble_eq_true rfl) mo_X12_errs wc_X12_249 rfl dX12_readProduct_70 h (fun r7 s7 h => ?_)
      exact r _ _ _ _ dX12_readProduct_73 h
set_option maxRecDepth 20000 in
theorem kb_X8_readUnit_0 {X : Cx} {d : Nat} {P : Int → Sto → Prop} (C : Ok LY X RX8 cX8_readUnit 5 d) (r : RetZ LY X cX8_readUnit P) {v1 : Int} {s : Sto} (h : ((0 ≤ (s 39 3) ∧ (s 39 3) < 401) ∧ ((rg (s 40 (s 39 3))) ∧ ((10000 ≤ (s 40 (s 39 3)) → ((rg (s 40 (s 39 3))) ∧ (((s 40 (s 39 3)) < 10006 → G LY X 41 [rv 39, iv v1, iv (s 40 (s 39 3)), iv 0, none] [] s) ∧ (10006 ≤ (s 40 (s 39 3)) → ((rg (s 40 (s 39 3))) ∧ ((10015 < (s 40 (s 39 3)) → G LY X 41 [rv 39, iv v1, iv (s 40 (s 39 3)), iv 0, none] [] s) ∧ ((s 40 (s 39 3)) ≤ 10015 → ((rg v1) ∧ ((v1 ≠ 10104 → ((rg (s 40 (s 39 3))) ∧ (((s 40 (s 39 3)) ≠ 0 → (CallV LY d MX8_goOn [.inr 39] s (fun s1 => (CallV LY d MX4_add [.inr 42, .inl (s 40 (s 39 3))] s1 (fun s2 => P 1 s2))))) ∧ ((s 40 (s 39 3)) = 0 → ((rg v1) ∧ ((v1 ≠ 10104 → (CallV LY d MX8_goOn [.inr 39] s (fun s3 => (CallV LY d MX4_add [.inr 42, .inl (s 40 (s 39 3))] s3 (fun s4 => P 1 s4))))) ∧ (v1 = 10104 → (CallI LY d MX8_fail [.inr 39, .inl 2] s (fun r5 s5 => ((r5 = 0 ∨ r5 = 1) ∧ P r5 s5)))))))))) ∧ (v1 = 10104 → (CallI LY d MX8_fail [.inr 39, .inl 1] s (fun r6 s6 => ((r6 = 0 ∨ r6 = 1) ∧ P r6 s6))))))))))))) ∧ ((s 40 (s 39 3)) < 10000 → ((rg (s 40 (s 39 3))) ∧ (((s 40 (s 39 3)) < 10006 → G LY X 41 [rv 39, iv v1, iv (s 40 (s 39 3)), iv 1, none] [] s) ∧ (10006 ≤ (s 40 (s 39 3)) → ((rg (s 40 (s 39 3))) ∧ ((10015 < (s 40 (s 39 3)) → G LY X 41 [rv 39, iv v1, iv (s 40 (s 39 3)), iv 1, none] [] s) ∧ ((s 40 (s 39 3)) ≤ 10015 → ((rg (s 40 (s 39 3))) ∧ (((s 40 (s 39 3)) ≠ 0 → (CallV LY d MX8_goOn [.inr 39] s (fun s7 => (CallV LY d MX4_add [.inr 42, .inl (s 40 (s 39 3))] s7 (fun s8 => P 1 s8))))) ∧ ((s 40 (s 39 3)) = 0 → ((rg v1) ∧ ((v1 ≠ 10104 → (CallV LY d MX8_goOn [.inr 39] s (fun s9 => (CallV LY d MX4_add [.inr 42, .inl (s 40 (s 39 3))] s9 (fun s10 => P 1 s10))))) ∧ (v1 = 10104 → (CallI LY d MX8_fail [.inr 39, .inl 2] s (fun r11 s11 => ((r11 = 0 ∨ r11 = 1) ∧ P r11 s11)))))))))))))))))))) : G LY X 0 [rv 39, iv v1, none, none, none] [] s := by
  refine G_aload_n C dX8_readUnit_0 rfl ?_
  refine gR_X8_0 C ly_39 rfl wf_X8_9 dX8_readUnit_1 ?_
  refine G_aload_n C dX8_readUnit_4 rfl ?_
  refine gI_X8_3 C ly_39 rfl wf_X8_25 dX8_readUnit_5 ?_
  refine G_iald C ly_40 (by decide) h.1 dX8_readUnit_8 ?_
  have h := h.2
  refine G_istore_n (L' := [rv 39, iv v1, iv (s 40 (s 39 3)), none, none]) C dX8_readUnit_9 (by decide) rfl ?_
  refine G_iload_n C dX8_readUnit_10 rfl ?_
  refine G_sipush C dX8_readUnit_11 si_10000 ?_
  refine G_icmp_ge (tgt := 21) C dX8_readUnit_14 (by decide) ⟨h.1, (by decide)⟩ (fun q => ?_) (fun q => ?_)
  · have h := h.2.1 q
    refine G_iconst C dX8_readUnit_21 ?_
    refine G_istore_n (L' := [rv 39, iv v1, iv (s 40 (s 39 3)), iv 0, none]) C dX8_readUnit_22 (by decide) rfl ?_
    refine G_iload_n C dX8_readUnit_23 rfl ?_
    refine G_sipush C dX8_readUnit_24 si_10006 ?_
    refine G_icmp_lt (tgt := 41) C dX8_readUnit_27 (by decide) ⟨h.1, (by decide)⟩ (fun q => ?_) (fun q => ?_)
    · have h := h.2.1 q
      exact h
    · have h := h.2.2 q
      refine G_iload_n C dX8_readUnit_30 rfl ?_
      refine G_sipush C dX8_readUnit_31 si_10015 ?_
      refine G_icmp_gt (tgt := 41) C dX8_readUnit_34 (by decide) ⟨h.1, (by decide)⟩ (fun q => ?_) (fun q => ?_)
      · have h := h.2.1 q
        exact h
      · have h := h.2.2 q
        refine G_iconst C dX8_readUnit_37 ?_
        refine G_goto (tgt := 42) C dX8_readUnit_38 (by decide) ?_
        refine G_istore (L' := [rv 39, iv v1, iv (s 40 (s 39 3)), iv 0, iv 1]) C dX8_readUnit_42 (by decide) rfl ?_
        refine G_iload_n C dX8_readUnit_44 rfl ?_
        refine G_if_ne (tgt := 66) C dX8_readUnit_45 (by decide) (by decide) (fun q => ?_) (fun q => ?_)
        · exact absurd q (by decide)
        refine G_iload C dX8_readUnit_48 rfl ?_
        refine G_if_eq (tgt := 60) C dX8_readUnit_50 (by decide) (by decide) (fun q => ?_) (fun q => ?_)
        · exact absurd q (by decide)
        refine G_iload_n C dX8_readUnit_53 rfl ?_
        refine G_sipush C dX8_readUnit_54 si_10104 ?_
        refine G_icmp_ne (tgt := 66) C dX8_readUnit_57 (by decide) ⟨h.1, (by decide)⟩ (fun q => ?_) (fun q => ?_)
        · have h := h.2.1 q
          refine G_iload_n C dX8_readUnit_66 rfl ?_
          refine G_if_ne (tgt := 83) C dX8_readUnit_67 (by decide) h.1 (fun q => ?_) (fun q => ?_)
          · have h := h.2.1 q
            refine G_aload_n C dX8_readUnit_83 rfl ?_
            refine G_callVV (K := []) (args := []) (T := TX8) (N := 6) C ly_39 rfl (Nat.le_of_ble_eq_true rfl) mo_X8_goOn wc_X8_111 rfl dX8_readUnit_84 h (fun s1 h => ?_)
            refine G_aload_n C dX8_readUnit_87 rfl ?_
            refine gR_X8_2 C ly_39 rfl wf_X8_21 dX8_readUnit_88 ?_
            refine G_iload_n C dX8_readUnit_91 rfl ?_
            refine G_callVV (K := []) (args := [.inl (s 40 (s 39 3))]) (T := TX4) (N := 5) C ly_42 rfl (Nat.le_of_ble_eq_true rfl) mo_X4_add wc_X8_124 rfl dX8_readUnit_92 h (fun s2 h => ?_)
            refine G_iconst C dX8_readUnit_95 ?_
            exact r _ _ _ _ dX8_readUnit_96 (by decide) h
          · have h := h.2.2 q
            refine G_iload_n C dX8_readUnit_70 rfl ?_
            refine G_sipush C dX8_readUnit_71 si_10104 ?_
            refine G_icmp_ne (tgt := 83) C dX8_readUnit_74 (by decide) ⟨h.1, (by decide)⟩ (fun q => ?_) (fun q => ?_)
            · have h := h.2.1 q
              refine G_aload_n C dX8_readUnit_83 rfl ?_
              refine G_callVV (K := []) (args := []) (T := TX8) (N := 6) C ly_39 rfl (Nat.le_of_ble_eq_true rfl) mo_X8_goOn wc_X8_111 rfl dX8_readUnit_84 h (fun s3 h => ?_)
              refine G_aload_n C dX8_readUnit_87 rfl ?_
              refine gR_X8_2 C ly_39 rfl wf_X8_21 dX8_readUnit_88 ?_
              refine G_iload_n C dX8_readUnit_91 rfl ?_
              refine G_callVV (K := []) (args := [.inl (s 40 (s 39 3))]) (T := TX4) (N := 5) C ly_42 rfl (Nat.le_of_ble_eq_true rfl) mo_X4_add wc_X8_124 rfl dX8_readUnit_92 h (fun s4 h => ?_)
              refine G_iconst C dX8_readUnit_95 ?_
              exact r _ _ _ _ dX8_readUnit_96 (by decide) h
            · have h := h.2.2 q
              refine G_aload_n C dX8_readUnit_77 rfl ?_
              refine G_iconst C dX8_readUnit_78 ?_
              refine G_callVI (K := []) (args := [.inl 2]) (T := TX8) (N := 6) C ly_39 rfl (Nat.le_of_ble_eq_true rfl) mo_X8_fail wc_X8_105 rfl dX8_readUnit_79 h (fun r5 s5 h => ?_)
              exact r _ _ _ _ dX8_readUnit_82 h.1 h.2
        · have h := h.2.2 q
          refine G_aload_n C dX8_readUnit_60 rfl ?_
          refine G_iconst C dX8_readUnit_61 ?_
          refine G_callVI (K := []) (args := [.inl 1]) (T := TX8) (N := 6) C ly_39 rfl (Nat.le_of_ble_eq_true rfl) mo_X8_fail wc_X8_105 rfl dX8_readUnit_62 h (fun r6 s6 h => ?_)
          exact r _ _ _ _ dX8_readUnit_65 h.1 h.2
  · have h := h.2.2 q
    refine G_iconst C dX8_readUnit_17 ?_
    refine G_goto (tgt := 22) C dX8_readUnit_18 (by decide) ?_
    refine G_istore_n (L' := [rv 39, iv v1, iv (s 40 (s 39 3)), iv 1, none]) C dX8_readUnit_22 (by decide) rfl ?_
    refine G_iload_n C dX8_readUnit_23 rfl ?_
    refine G_sipush C dX8_readUnit_24 si_10006 ?_
    refine G_icmp_lt (tgt := 41) C dX8_readUnit_27 (by decide) ⟨h.1, (by decide)⟩ (fun q => ?_) (fun q => ?_)
    · have h := h.2.1 q
      exact h
    · have h := h.2.2 q
      refine G_iload_n C dX8_readUnit_30 rfl ?_
      refine G_sipush C dX8_readUnit_31 si_10015 ?_
      refine G_icmp_gt (tgt := 41) C dX8_readUnit_34 (by decide) ⟨h.1, (by decide)⟩ (fun q => ?_) (fun q => ?_)
      · have h := h.2.1 q
        exact h
      · have h := h.2.2 q
        refine G_iconst C dX8_readUnit_37 ?_
        refine G_goto (tgt := 42) C dX8_readUnit_38 (by decide) ?_
        refine G_istore (L' := [rv 39, iv v1, iv (s 40 (s 39 3)), iv 1, iv 1]) C dX8_readUnit_42 (by decide) rfl ?_
        refine G_iload_n C dX8_readUnit_44 rfl ?_
        refine G_if_ne (tgt := 66) C dX8_readUnit_45 (by decide) (by decide) (fun q => ?_) (fun q => ?_)
        rotate_left
        · exact absurd q (by decide)
        refine G_iload_n C dX8_readUnit_66 rfl ?_
        refine G_if_ne (tgt := 83) C dX8_readUnit_67 (by decide) h.1 (fun q => ?_) (fun q => ?_)
        · have h := h.2.1 q
          refine G_aload_n C dX8_readUnit_83 rfl ?_
          refine G_callVV (K := []) (args := []) (T := TX8) (N := 6) C ly_39 rfl (Nat.le_of_ble_eq_true rfl) mo_X8_goOn wc_X8_111 rfl dX8_readUnit_84 h (fun s7 h => ?_)
          refine G_aload_n C dX8_readUnit_87 rfl ?_
          refine gR_X8_2 C ly_39 rfl wf_X8_21 dX8_readUnit_88 ?_
          refine G_iload_n C dX8_readUnit_91 rfl ?_
          refine G_callVV (K := []) (args := [.inl (s 40 (s 39 3))]) (T := TX4) (N := 5) C ly_42 rfl (Nat.le_of_ble_eq_true rfl) mo_X4_add wc_X8_124 rfl dX8_readUnit_92 h (fun s8 h => ?_)
          refine G_iconst C dX8_readUnit_95 ?_
          exact r _ _ _ _ dX8_readUnit_96 (by decide) h
        · have h := h.2.2 q
          refine G_iload_n C dX8_readUnit_70 rfl ?_
          refine G_sipush C dX8_readUnit_71 si_10104 ?_
          refine G_icmp_ne (tgt := 83) C dX8_readUnit_74 (by decide) ⟨h.1, (by decide)⟩ (fun q => ?_) (fun q => ?_)
          · have h := h.2.1 q
            refine G_aload_n C dX8_readUnit_83 rfl ?_
            refine G_callVV (K := []) (args := []) (T := TX8) (N := 6) C ly_39 rfl (Nat.le_of_ble_eq_true rfl) mo_X8_goOn wc_X8_111 rfl dX8_readUnit_84 h (fun s9 h => ?_)
            refine G_aload_n C dX8_readUnit_87 rfl ?_
            refine gR_X8_2 C ly_39 rfl wf_X8_21 dX8_readUnit_88 ?_
            refine G_iload_n C dX8_readUnit_91 rfl ?_
            refine G_callVV (K := []) (args := [.inl (s 40 (s 39 3))]) (T := TX4) (N := 5) C ly_42 rfl (Nat.le_of_ble_eq_true rfl) mo_X4_add wc_X8_124 rfl dX8_readUnit_92 h (fun s10 h => ?_)
            refine G_iconst C dX8_readUnit_95 ?_
            exact r _ _ _ _ dX8_readUnit_96 (by decide) h
          · have h := h.2.2 q
            refine G_aload_n C dX8_readUnit_77 rfl ?_
            refine G_iconst C dX8_readUnit_78 ?_
            refine G_callVI (K := []) (args := [.inl 2]) (T := TX8) (N := 6) C ly_39 rfl (Nat.le_of_ble_eq_true rfl) mo_X8_fail wc_X8_105 rfl dX8_readUnit_79 h (fun r11 s11 h => ?_)
            exact r _ _ _ _ dX8_readUnit_82 h.1 h.2
set_option maxRecDepth 20000 in
theorem kb_X8_readUnit_41 {X : Cx} {d : Nat} {P : Int → Sto → Prop} (C : Ok LY X RX8 cX8_readUnit 5 d) (r : RetZ LY X cX8_readUnit P) {v1 v2 v3 : Int} {s : Sto} (h : ((rg v3) ∧ ((v3 ≠ 0 → ((rg v2) ∧ ((v2 ≠ 0 → (CallV LY d MX8_goOn [.inr 39] s (fun s1 => (CallV LY d MX4_add [.inr 42, .inl v2] s1 (fun s2 => P 1 s2))))) ∧ (v2 = 0 → ((rg v1) ∧ ((v1 ≠ 10104 → (CallV LY d MX8_goOn [.inr 39] s (fun s3 => (CallV LY d MX4_add [.inr 42, .inl v2] s3 (fun s4 => P 1 s4))))) ∧ (v1 = 10104 → (CallI LY d MX8_fail [.inr 39, .inl 2] s (fun r5 s5 => ((r5 = 0 ∨ r5 = 1) ∧ P r5 s5)))))))))) ∧ (v3 = 0 → (CallI LY d MX8_fail [.inr 39, .inl 1] s (fun r6 s6 => ((r6 = 0 ∨ r6 = 1) ∧ P r6 s6))))))) : G LY X 41 [rv 39, iv v1, iv v2, iv v3, none] [] s := by
  refine G_iconst C dX8_readUnit_41 ?_
  refine G_istore (L' := [rv 39, iv v1, iv v2, iv v3, iv 0]) C dX8_readUnit_42 (by decide) rfl ?_
  refine G_iload_n C dX8_readUnit_44 rfl ?_
  refine G_if_ne (tgt := 66) C dX8_readUnit_45 (by decide) h.1 (fun q => ?_) (fun q => ?_)
  · have h := h.2.1 q
    refine G_iload_n C dX8_readUnit_66 rfl ?_
    refine G_if_ne (tgt := 83) C dX8_readUnit_67 (by decide) h.1 (fun q => ?_) (fun q => ?_)
    · have h := h.2.1 q
      refine G_aload_n C dX8_readUnit_83 rfl ?_
      refine G_callVV (K := []) (args := []) (T := TX8) (N := 6) C ly_39 rfl (Nat.le_of_ble_eq_true rfl) mo_X8_goOn wc_X8_111 rfl dX8_readUnit_84 h (fun s1 h => ?_)
      refine G_aload_n C dX8_readUnit_87 rfl ?_
      refine gR_X8_2 C ly_39 rfl wf_X8_21 dX8_readUnit_88 ?_
      refine G_iload_n C dX8_readUnit_91 rfl ?_
      refine G_callVV (K := []) (args := [.inl v2]) (T := TX4) (N := 5) C ly_42 rfl (Nat.le_of_ble_eq_true rfl) mo_X4_add wc_X8_124 rfl dX8_readUnit_92 h (fun s2 h => ?_)
      refine G_iconst C dX8_readUnit_95 ?_
      exact r _ _ _ _ dX8_readUnit_96 (by decide) h
    · have h := h.2.2 q
      refine G_iload_n C dX8_readUnit_70 rfl ?_
      refine G_sipush C dX8_readUnit_71 si_10104 ?_
      refine G_icmp_ne (tgt := 83) C dX8_readUnit_74 (by decide) ⟨h.1, (by decide)⟩ (fun q => ?_) (fun q => ?_)
      · have h := h.2.1 q
        refine G_aload_n C dX8_readUnit_83 rfl ?_
        refine G_callVV (K := []) (args := []) (T := TX8) (N := 6) C ly_39 rfl (Nat.le_of_ble_eq_true rfl) mo_X8_goOn wc_X8_111 rfl dX8_readUnit_84 h (fun s3 h => ?_)
        refine G_aload_n C dX8_readUnit_87 rfl ?_
        refine gR_X8_2 C ly_39 rfl wf_X8_21 dX8_readUnit_88 ?_
        refine G_iload_n C dX8_readUnit_91 rfl ?_
        refine G_callVV (K := []) (args := [.inl v2]) (T := TX4) (N := 5) C ly_42 rfl (Nat.le_of_ble_eq_true rfl) mo_X4_add wc_X8_124 rfl dX8_readUnit_92 h (fun s4 h => ?_)
        refine G_iconst C dX8_readUnit_95 ?_
        exact r _ _ _ _ dX8_readUnit_96 (by decide) h
      · have h := h.2.2 q
        refine G_aload_n C dX8_readUnit_77 rfl ?_
        refine G_iconst C dX8_readUnit_78 ?_
        refine G_callVI (K := []) (args := [.inl 2]) (T := TX8) (N := 6) C ly_39 rfl (Nat.le_of_ble_eq_true rfl) mo_X8_fail wc_X8_105 rfl dX8_readUnit_79 h (fun r5 s5 h => ?_)
        exact r _ _ _ _ dX8_readUnit_82 h.1 h.2
  · have h := h.2.2 q
    refine G_iload C dX8_readUnit_48 rfl ?_
    refine G_if_eq (tgt := 60) C dX8_readUnit_50 (by decide) (by decide) (fun q => ?_) (fun q => ?_)
    rotate_left
    · exact absurd q (by decide)
    refine G_aload_n C dX8_readUnit_60 rfl ?_
    refine G_iconst C dX8_readUnit_61 ?_
    refine G_callVI (K := []) (args := [.inl 1]) (T := TX8) (N := 6) C ly_39 rfl (Nat.le_of_ble_eq_true rfl) mo_X8_fail wc_X8_105 rfl dX8_readUnit_62 h (fun r6 s6 h => ?_)
    exact r _ _ _ _ dX8_readUnit_65 h.1 h.2
set_option maxRecDepth 20000 in
theorem kb_X12_readUnit_0 {X : Cx} {d : Nat} {P : Int → Sto → Prop} (C : Ok LY X RX12 cX12_readUnit 2 d) (r : RetI LY X cX12_readUnit P) {s : Sto} (h : ((rg (s 75 27)) ∧ (((s 75 27) ≠ 2 → ((rg (s 75 27)) ∧ (((s 75 27) = 3 → G LY X 41 [rv 75, iv 0] [] s) ∧ ((s 75 27) ≠ 3 → (CallI LY d MX12_errs [.inr 75, .inl 1] s (fun r1 s1 => P r1 s1)))))) ∧ ((s 75 27) = 2 → ((rg (s 75 28)) ∧ (((s 75 28) < 6 → ((rg (s 75 27)) ∧ (((s 75 27) = 3 → G LY X 41 [rv 75, iv 0] [] s) ∧ ((s 75 27) ≠ 3 → (CallI LY d MX12_errs [.inr 75, .inl 1] s (fun r2 s2 => P r2 s2)))))) ∧ (6 ≤ (s 75 28) → G LY X 41 [rv 75, iv 1] [] s))))))) : G LY X 0 [rv 75, none] [] s := by
  refine G_aload_n C dX12_readUnit_0 rfl ?_
  refine gI_X12_27 C ly_75 rfl wf_X12_221 dX12_readUnit_1 ?_
  refine G_iconst C dX12_readUnit_4 ?_
  refine G_icmp_ne (tgt := 21) C dX12_readUnit_5 (by decide) ⟨h.1, (by decide)⟩ (fun q => ?_) (fun q => ?_)
  · have h := h.2.1 q
    refine G_iconst C dX12_readUnit_21 ?_
    refine G_istore_n (L' := [rv 75, iv 0]) C dX12_readUnit_22 (by decide) rfl ?_
    refine G_iload_n C dX12_readUnit_23 rfl ?_
    refine G_if_ne (tgt := 41) C dX12_readUnit_24 (by decide) (by decide) (fun q => ?_) (fun q => ?_)
    · exact absurd q (by decide)
    refine G_aload_n C dX12_readUnit_27 rfl ?_
    refine gI_X12_27 C ly_75 rfl wf_X12_221 dX12_readUnit_28 ?_
    refine G_iconst C dX12_readUnit_31 ?_
    refine G_icmp_eq (tgt := 41) C dX12_readUnit_32 (by decide) ⟨h.1, (by decide)⟩ (fun q => ?_) (fun q => ?_)
    · have h := h.2.1 q
      exact h
    · have h := h.2.2 q
      refine G_aload_n C dX12_readUnit_35 rfl ?_
      refine G_iconst C dX12_readUnit_36 ?_
      refine G_callVI (K := []) (args := [.inl 1]) (T := TX12) (N := 72) C ly_75 rfl (Nat.le_of_ble_eq_true rfl) mo_X12_errs wc_X12_249 rfl dX12_readUnit_37 h (fun r1 s1 h => ?_)
      exact r _ _ _ _ dX12_readUnit_40 h
  · have h := h.2.2 q
    refine G_aload_n C dX12_readUnit_8 rfl ?_
    refine gI_X12_28 C ly_75 rfl wf_X12_224 dX12_readUnit_9 ?_
    refine G_bipush C dX12_readUnit_12 bi_6 ?_
    refine G_icmp_lt (tgt := 21) C dX12_readUnit_14 (by decide) ⟨h.1, (by decide)⟩ (fun q => ?_) (fun q => ?_)
    · have h := h.2.1 q
      refine G_iconst C dX12_readUnit_21 ?_
      refine G_istore_n (L' := [rv 75, iv 0]) C dX12_readUnit_22 (by decide) rfl ?_
      refine G_iload_n C dX12_readUnit_23 rfl ?_
      refine G_if_ne (tgt := 41) C dX12_readUnit_24 (by decide) (by decide) (fun q => ?_) (fun q => ?_)
      · exact absurd q (by decide)
      refine G_aload_n C dX12_readUnit_27 rfl ?_
      refine gI_X12_27 C ly_75 rfl wf_X12_221 dX12_readUnit_28 ?_
      refine G_iconst C dX12_readUnit_31 ?_
      refine G_icmp_eq (tgt := 41) C dX12_readUnit_32 (by decide) ⟨h.1, (by decide)⟩ (fun q => ?_) (fun q => ?_)
      · have h := h.2.1 q
        exact h
      · have h := h.2.2 q
        refine G_aload_n C dX12_readUnit_35 rfl ?_
        refine G_iconst C dX12_readUnit_36 ?_
        refine G_callVI (K := []) (args := [.inl 1]) (T := TX12) (N := 72) C ly_75 rfl (Nat.le_of_ble_eq_true rfl) mo_X12_errs wc_X12_249 rfl dX12_readUnit_37 h (fun r2 s2 h => ?_)
        exact r _ _ _ _ dX12_readUnit_40 h
    · have h := h.2.2 q
      refine G_iconst C dX12_readUnit_17 ?_
      refine G_goto (tgt := 22) C dX12_readUnit_18 (by decide) ?_
      refine G_istore_n (L' := [rv 75, iv 1]) C dX12_readUnit_22 (by decide) rfl ?_
      refine G_iload_n C dX12_readUnit_23 rfl ?_
      refine G_if_ne (tgt := 41) C dX12_readUnit_24 (by decide) (by decide) (fun q => ?_) (fun q => ?_)
      rotate_left
      · exact absurd q (by decide)
      exact h
set_option maxRecDepth 20000 in
theorem kb_X12_readUnit_41 {X : Cx} {d : Nat} {P : Int → Sto → Prop} (C : Ok LY X RX12 cX12_readUnit 2 d) (r : RetI LY X cX12_readUnit P) {v1 : Int} {s : Sto} (h : ((rg v1) ∧ ((v1 = 0 → ((rg v1) ∧ ((v1 = 0 → (CallV LY d MX12_emits [.inr 75, .inl 0, .inl (s 75 28)] s (fun s1 => (CallV LY d MX12_reads [.inr 75] s1 (fun s2 => P 0 s2))))) ∧ (v1 ≠ 0 → (CallV LY d MX12_emits [.inr 75, .inl 0, .inl ((s 75 28) - 6)] s (fun s3 => (CallV LY d MX12_reads [.inr 75] s3 (fun s4 => P 0 s4)))))))) ∧ (v1 ≠ 0 → ((rg v1) ∧ ((v1 = 0 → (CallV LY d MX12_emits [.inr 75, .inl 1, .inl (s 75 28)] s (fun s5 => (CallV LY d MX12_reads [.inr 75] s5 (fun s6 => P 0 s6))))) ∧ (v1 ≠ 0 → (CallV LY d MX12_emits [.inr 75, .inl 1, .inl ((s 75 28) - 6)] s (fun s7 => (CallV LY d MX12_reads [.inr 75] s7 (fun s8 => P 0 s8))))))))))) : G LY X 41 [rv 75, iv v1] [] s := by
  refine G_aload_n C dX12_readUnit_41 rfl ?_
  refine G_iload_n C dX12_readUnit_42 rfl ?_
  refine G_if_eq (tgt := 50) C dX12_readUnit_43 (by decide) h.1 (fun q => ?_) (fun q => ?_)
  · have h := h.2.1 q
    refine G_iconst C dX12_readUnit_50 ?_
    refine G_iload_n C dX12_readUnit_51 rfl ?_
    refine G_if_eq (tgt := 65) C dX12_readUnit_52 (by decide) h.1 (fun q => ?_) (fun q => ?_)
    · have h := h.2.1 q
      refine G_aload_n C dX12_readUnit_65 rfl ?_
      refine gI_X12_28 C ly_75 rfl wf_X12_224 dX12_readUnit_66 ?_
      refine G_callVV (K := []) (args := [.inl 0, .inl (s 75 28)]) (T := TX12) (N := 72) C ly_75 rfl (Nat.le_of_ble_eq_true rfl) mo_X12_emits wc_X12_252 rfl dX12_readUnit_69 h (fun s1 h => ?_)
      refine G_aload_n C dX12_readUnit_72 rfl ?_
      refine G_callVV (K := []) (args := []) (T := TX12) (N := 72) C ly_75 rfl (Nat.le_of_ble_eq_true rfl) mo_X12_reads wc_X12_255 rfl dX12_readUnit_73 h (fun s2 h => ?_)
      refine G_iconst C dX12_readUnit_76 ?_
      exact r _ _ _ _ dX12_readUnit_77 h
    · have h := h.2.2 q
      refine G_aload_n C dX12_readUnit_55 rfl ?_
      refine gI_X12_28 C ly_75 rfl wf_X12_224 dX12_readUnit_56 ?_
      refine G_bipush C dX12_readUnit_59 bi_6 ?_
      refine G_isub C dX12_readUnit_61 ?_
      refine G_goto (tgt := 69) C dX12_readUnit_62 (by decide) ?_
      refine G_callVV (K := []) (args := [.inl 0, .inl ((s 75 28) - 6)]) (T := TX12) (N := 72) C ly_75 rfl (Nat.le_of_ble_eq_true rfl) mo_X12_emits wc_X12_252 rfl dX12_readUnit_69 h (fun s3 h => ?_)
      refine G_aload_n C dX12_readUnit_72 rfl ?_
      refine G_callVV (K := []) (args := []) (T := TX12) (N := 72) C ly_75 rfl (Nat.le_of_ble_eq_true rfl) mo_X12_reads wc_X12_255 rfl dX12_readUnit_73 h (fun s4 h => ?_)
      refine G_iconst C dX12_readUnit_76 ?_
      exact r _ _ _ _ dX12_readUnit_77 h
  · have h := h.2.2 q
    refine G_iconst C dX12_readUnit_46 ?_
    refine G_goto (tgt := 51) C dX12_readUnit_47 (by decide) ?_
    refine G_iload_n C dX12_readUnit_51 rfl ?_
    refine G_if_eq (tgt := 65) C dX12_readUnit_52 (by decide) h.1 (fun q => ?_) (fun q => ?_)
    · have h := h.2.1 q
      refine G_aload_n C dX12_readUnit_65 rfl ?_
      refine gI_X12_28 C ly_75 rfl wf_X12_224 dX12_readUnit_66 ?_
      refine G_callVV (K := []) (args := [.inl 1, .inl (s 75 28)]) (T := TX12) (N := 72) C ly_75 rfl (Nat.le_of_ble_eq_true rfl) mo_X12_emits wc_X12_252 rfl dX12_readUnit_69 h (fun s5 h => ?_)
      refine G_aload_n C dX12_readUnit_72 rfl ?_
      refine G_callVV (K := []) (args := []) (T := TX12) (N := 72) C ly_75 rfl (Nat.le_of_ble_eq_true rfl) mo_X12_reads wc_X12_255 rfl dX12_readUnit_73 h (fun s6 h => ?_)
      refine G_iconst C dX12_readUnit_76 ?_
      exact r _ _ _ _ dX12_readUnit_77 h
    · have h := h.2.2 q
      refine G_aload_n C dX12_readUnit_55 rfl ?_
      refine gI_X12_28 C ly_75 rfl wf_X12_224 dX12_readUnit_56 ?_
      refine G_bipush C dX12_readUnit_59 bi_6 ?_
      refine G_isub C dX12_readUnit_61 ?_
      refine G_goto (tgt := 69) C dX12_readUnit_62 (by decide) ?_
      refine G_callVV (K := []) (args := [.inl 1, .inl ((s 75 28) - 6)]) (T := TX12) (N := 72) C ly_75 rfl (Nat.le_of_ble_eq_true rfl) mo_X12_emits wc_X12_252 rfl dX12_readUnit_69 h (fun s7 h => ?_)
      refine G_aload_n C dX12_readUnit_72 rfl ?_
      refine G_callVV (K := []) (args := []) (T := TX12) (N := 72) C ly_75 rfl (Nat.le_of_ble_eq_true rfl) mo_X12_reads wc_X12_255 rfl dX12_readUnit_73 h (fun s8 h => ?_)
      refine G_iconst C dX12_readUnit_76 ?_
      exact r _ _ _ _ dX12_readUnit_77 h
