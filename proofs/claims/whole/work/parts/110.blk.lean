set_option maxRecDepth 20000 in
theorem kb_X12_readCompared_0 {X : Cx} {d : Nat} {P : Int → Sto → Prop} (C : Ok LY X RX12 cX12_readCompared 2 d) (r : RetI LY X cX12_readCompared P) {s : Sto} (h : (CallI LY d MX12_readSum [.inr 75] s (fun r1 s1 => ((rg r1) ∧ ((r1 ≠ (-1) → (CallI LY d MX12_isSign [.inr 75, .inl 60] s1 (fun r2 s2 => ((rg r2) ∧ ((r2 ≠ 0 → ((rg (s2 75 28)) ∧ (((s2 75 28) ≠ 60 → ((rg (s2 75 28)) ∧ (((s2 75 28) ≠ 61 → (CallV LY d MX12_reads [.inr 75] s2 (fun s3 => (CallI LY d MX12_readSum [.inr 75] s3 (fun r4 s4 => ((rg r4) ∧ ((r4 ≠ (-1) → (CallV LY d MX12_emits [.inr 75, .inl 8, .inl 0] s4 (fun s5 => P 0 s5))) ∧ (r4 = (-1) → P (-1) s4)))))))) ∧ ((s2 75 28) = 61 → (CallV LY d MX12_reads [.inr 75] s2 (fun s6 => (CallI LY d MX12_readSum [.inr 75] s6 (fun r7 s7 => ((rg r7) ∧ ((r7 ≠ (-1) → (CallV LY d MX12_emits [.inr 75, .inl 7, .inl 0] s7 (fun s8 => P 0 s8))) ∧ (r7 = (-1) → P (-1) s7))))))))))) ∧ ((s2 75 28) = 60 → (CallV LY d MX12_reads [.inr 75] s2 (fun s9 => (CallI LY d MX12_readSum [.inr 75] s9 (fun r10 s10 => ((rg r10) ∧ ((r10 ≠ (-1) → (CallV LY d MX12_emits [.inr 75, .inl 6, .inl 0] s10 (fun s11 => P 0 s11))) ∧ (r10 = (-1) → P (-1) s10))))))))))) ∧ (r2 = 0 → (CallI LY d MX12_isSign [.inr 75, .inl 61] s2 (fun r12 s12 => ((rg r12) ∧ ((r12 ≠ 0 → ((rg (s12 75 28)) ∧ (((s12 75 28) ≠ 60 → ((rg (s12 75 28)) ∧ (((s12 75 28) ≠ 61 → (CallV LY d MX12_reads [.inr 75] s12 (fun s13 => (CallI LY d MX12_readSum [.inr 75] s13 (fun r14 s14 => ((rg r14) ∧ ((r14 ≠ (-1) → (CallV LY d MX12_emits [.inr 75, .inl 8, .inl 0] s14 (fun s15 => P 0 s15))) ∧ (r14 = (-1) → P (-1) s14)))))))) ∧ ((s12 75 28) = 61 → (CallV LY d MX12_reads [.inr 75] s12 (fun s16 => (CallI LY d MX12_readSum [.inr 75] s16 (fun r17 s17 => ((rg r17) ∧ ((r17 ≠ (-1) → (CallV LY d MX12_emits [.inr 75, .inl 7, .inl 0] s17 (fun s18 => P 0 s18))) ∧ (r17 = (-1) → P (-1) s17))))))))))) ∧ ((s12 75 28) = 60 → (CallV LY d MX12_reads [.inr 75] s12 (fun s19 => (CallI LY d MX12_readSum [.inr 75] s19 (fun r20 s20 => ((rg r20) ∧ ((r20 ≠ (-1) → (CallV LY d MX12_emits [.inr 75, .inl 6, .inl 0] s20 (fun s21 => P 0 s21))) ∧ (r20 = (-1) → P (-1) s20))))))))))) ∧ (r12 = 0 → (CallI LY d MX12_isSign [.inr 75, .inl 62] s12 (fun r22 s22 => ((rg r22) ∧ ((r22 ≠ 0 → ((rg (s22 75 28)) ∧ (((s22 75 28) ≠ 60 → ((rg (s22 75 28)) ∧ (((s22 75 28) ≠ 61 → (CallV LY d MX12_reads [.inr 75] s22 (fun s23 => (CallI LY d MX12_readSum [.inr 75] s23 (fun r24 s24 => ((rg r24) ∧ ((r24 ≠ (-1) → (CallV LY d MX12_emits [.inr 75, .inl 8, .inl 0] s24 (fun s25 => P 0 s25))) ∧ (r24 = (-1) → P (-1) s24)))))))) ∧ ((s22 75 28) = 61 → (CallV LY d MX12_reads [.inr 75] s22 (fun s26 => (CallI LY d MX12_readSum [.inr 75] s26 (fun r27 s27 => ((rg r27) ∧ ((r27 ≠ (-1) → (CallV LY d MX12_emits [.inr 75, .inl 7, .inl 0] s27 (fun s28 => P 0 s28))) ∧ (r27 = (-1) → P (-1) s27))))))))))) ∧ ((s22 75 28) = 60 → (CallV LY d MX12_reads [.inr 75] s22 (fun s29 => (CallI LY d MX12_readSum [.inr 75] s29 (fun r30 s30 => ((rg r30) ∧ ((r30 ≠ (-1) → (CallV LY d MX12_emits [.inr 75, .inl 6, .inl 0] s30 (fun s31 => P 0 s31))) ∧ (r30 = (-1) → P (-1) s30))))))))))) ∧ (r22 = 0 → (CallI LY d MX12_errs [.inr 75, .inl 1] s22 (fun r32 s32 => P r32 s32)))))))))))))))))) ∧ (r1 = (-1) → P (-1) s1)))))) : G LY X 0 [rv 75, none] [] s := by
  refine G_aload_n C dX12_readCompared_0 rfl ?_
  refine G_callVI (K := []) (args := []) (T := TX12) (N := 72) C ly_75 rfl (Nat.le_of_ble_eq_true rfl) mo_X12_readSum wc_X12_268 rfl dX12_readCompared_1 h (fun r1 s1 h => ?_)
  refine G_iconst C dX12_readCompared_4 ?_
  refine G_icmp_ne (tgt := 10) C dX12_readCompared_5 (by decide) ⟨h.1, (by decide)⟩ (fun q => ?_) (fun q => ?_)
  · have h := h.2.1 q
    refine G_aload_n C dX12_readCompared_10 rfl ?_
    refine G_bipush C dX12_readCompared_11 bi_60 ?_
    refine G_callVI (K := []) (args := [.inl 60]) (T := TX12) (N := 72) C ly_75 rfl (Nat.le_of_ble_eq_true rfl) mo_X12_isSign wc_X12_262 rfl dX12_readCompared_13 h (fun r2 s2 h => ?_)
    refine G_if_ne (tgt := 43) C dX12_readCompared_16 (by decide) h.1 (fun q => ?_) (fun q => ?_)
    · have h := h.2.1 q
      refine G_aload_n C dX12_readCompared_43 rfl ?_
      refine gI_X12_28 C ly_75 rfl wf_X12_224 dX12_readCompared_44 ?_
      refine G_bipush C dX12_readCompared_47 bi_60 ?_
      refine G_icmp_ne (tgt := 57) C dX12_readCompared_49 (by decide) ⟨h.1, (by decide)⟩ (fun q => ?_) (fun q => ?_)
      · have h := h.2.1 q
        refine G_aload_n C dX12_readCompared_57 rfl ?_
        refine gI_X12_28 C ly_75 rfl wf_X12_224 dX12_readCompared_58 ?_
        refine G_bipush C dX12_readCompared_61 bi_61 ?_
        refine G_icmp_ne (tgt := 71) C dX12_readCompared_63 (by decide) ⟨h.1, (by decide)⟩ (fun q => ?_) (fun q => ?_)
        · have h := h.2.1 q
          refine G_bipush C dX12_readCompared_71 bi_8 ?_
          refine G_istore_n (L' := [rv 75, iv 8]) C dX12_readCompared_73 (by decide) rfl ?_
          refine G_aload_n C dX12_readCompared_74 rfl ?_
          refine G_callVV (K := []) (args := []) (T := TX12) (N := 72) C ly_75 rfl (Nat.le_of_ble_eq_true rfl) mo_X12_reads wc_X12_255 rfl dX12_readCompared_75 h (fun s3 h => ?_)
          refine G_aload_n C dX12_readCompared_78 rfl ?_
          refine G_callVI (K := []) (args := []) (T := TX12) (N := 72) C ly_75 rfl (Nat.le_of_ble_eq_true rfl) mo_X12_readSum wc_X12_268 rfl dX12_readCompared_79 h (fun r4 s4 h => ?_)
          refine G_iconst C dX12_readCompared_82 ?_
          refine G_icmp_ne (tgt := 88) C dX12_readCompared_83 (by decide) ⟨h.1, (by decide)⟩ (fun q => ?_) (fun q => ?_)
          · have h := h.2.1 q
            refine G_aload_n C dX12_readCompared_88 rfl ?_
            refine G_iload_n C dX12_readCompared_89 rfl ?_
            refine G_iconst C dX12_readCompared_90 ?_
            refine G_callVV (K := []) (args := [.inl 8, .inl 0]) (T := TX12) (N := 72) C ly_75 rfl (Nat.le_of_ble_eq_true rfl) mo_X12_emits wc_X12_252 rfl dX12_readCompared_91 h (fun s5 h => ?_)
            refine G_iconst C dX12_readCompared_94 ?_
            exact r _ _ _ _ dX12_readCompared_95 h
          · have h := h.2.2 q
            refine G_iconst C dX12_readCompared_86 ?_
            exact r _ _ _ _ dX12_readCompared_87 h
        · have h := h.2.2 q
          refine G_bipush C dX12_readCompared_66 bi_7 ?_
          refine G_goto (tgt := 73) C dX12_readCompared_68 (by decide) ?_
          refine G_istore_n (L' := [rv 75, iv 7]) C dX12_readCompared_73 (by decide) rfl ?_
          refine G_aload_n C dX12_readCompared_74 rfl ?_
          refine G_callVV (K := []) (args := []) (T := TX12) (N := 72) C ly_75 rfl (Nat.le_of_ble_eq_true rfl) mo_X12_reads wc_X12_255 rfl dX12_readCompared_75 h (fun s6 h => ?_)
          refine G_aload_n C dX12_readCompared_78 rfl ?_
          refine G_callVI (K := []) (args := []) (T := TX12) (N := 72) C ly_75 rfl (Nat.le_of_ble_eq_true rfl) mo_X12_readSum wc_X12_268 rfl dX12_readCompared_79 h (fun r7 s7 h => ?_)
          refine G_iconst C dX12_readCompared_82 ?_
          refine G_icmp_ne (tgt := 88) C dX12_readCompared_83 (by decide) ⟨h.1, (by decide)⟩ (fun q => ?_) (fun q => ?_)
          · have h := h.2.1 q
            refine G_aload_n C dX12_readCompared_88 rfl ?_
            refine G_iload_n C dX12_readCompared_89 rfl ?_
            refine G_iconst C dX12_readCompared_90 ?_
            refine G_callVV (K := []) (args := [.inl 7, .inl 0]) (T := TX12) (N := 72) C ly_75 rfl (Nat.le_of_ble_eq_true rfl) mo_X12_emits wc_X12_252 rfl dX12_readCompared_91 h (fun s8 h => ?_)
            refine G_iconst C dX12_readCompared_94 ?_
            exact r _ _ _ _ dX12_readCompared_95 h
          · have h := h.2.2 q
            refine G_iconst C dX12_readCompared_86 ?_
            exact r _ _ _ _ dX12_readCompared_87 h
      · have h := h.2.2 q
        refine G_bipush C dX12_readCompared_52 bi_6 ?_
        refine G_goto (tgt := 73) C dX12_readCompared_54 (by decide) ?_
        refine G_istore_n (L' := [rv 75, iv 6]) C dX12_readCompared_73 (by decide) rfl ?_
        refine G_aload_n C dX12_readCompared_74 rfl ?_
        refine G_callVV (K := []) (args := []) (T := TX12) (N := 72) C ly_75 rfl (Nat.le_of_ble_eq_true rfl) mo_X12_reads wc_X12_255 rfl dX12_readCompared_75 h (fun s9 h => ?_)
        refine G_aload_n C dX12_readCompared_78 rfl ?_
        refine G_callVI (K := []) (args := []) (T := TX12) (N := 72) C ly_75 rfl (Nat.le_of_ble_eq_true rfl) mo_X12_readSum wc_X12_268 rfl dX12_readCompared_79 h (fun r10 s10 h => ?_)
        refine G_iconst C dX12_readCompared_82 ?_
        refine G_icmp_ne (tgt := 88) C dX12_readCompared_83 (by decide) ⟨h.1, (by decide)⟩ (fun q => ?_) (fun q => ?_)
        · have h := h.2.1 q
          refine G_aload_n C dX12_readCompared_88 rfl ?_
          refine G_iload_n C dX12_readCompared_89 rfl ?_
          refine G_iconst C dX12_readCompared_90 ?_
          refine G_callVV (K := []) (args := [.inl 6, .inl 0]) (T := TX12) (N := 72) C ly_75 rfl (Nat.le_of_ble_eq_true rfl) mo_X12_emits wc_X12_252 rfl dX12_readCompared_91 h (fun s11 h => ?_)
          refine G_iconst C dX12_readCompared_94 ?_
          exact r _ _ _ _ dX12_readCompared_95 h
        · have h := h.2.2 q
          refine G_iconst C dX12_readCompared_86 ?_
          exact r _ _ _ _ dX12_readCompared_87 h
    · have h := h.2.2 q
      refine G_aload_n C dX12_readCompared_19 rfl ?_
      refine G_bipush C dX12_readCompared_20 bi_61 ?_
      refine G_callVI (K := []) (args := [.inl 61]) (T := TX12) (N := 72) C ly_75 rfl (Nat.le_of_ble_eq_true rfl) mo_X12_isSign wc_X12_262 rfl dX12_readCompared_22 h (fun r12 s12 h => ?_)
      refine G_if_ne (tgt := 43) C dX12_readCompared_25 (by decide) h.1 (fun q => ?_) (fun q => ?_)
      · have h := h.2.1 q
        refine G_aload_n C dX12_readCompared_43 rfl ?_
        refine gI_X12_28 C ly_75 rfl wf_X12_224 dX12_readCompared_44 ?_
        refine G_bipush C dX12_readCompared_47 bi_60 ?_
        refine G_icmp_ne (tgt := 57) C dX12_readCompared_49 (by decide) ⟨h.1, (by decide)⟩ (fun q => ?_) (fun q => ?_)
        · have h := h.2.1 q
          refine G_aload_n C dX12_readCompared_57 rfl ?_
          refine gI_X12_28 C ly_75 rfl wf_X12_224 dX12_readCompared_58 ?_
          refine G_bipush C dX12_readCompared_61 bi_61 ?_
          refine G_icmp_ne (tgt := 71) C dX12_readCompared_63 (by decide) ⟨h.1, (by decide)⟩ (fun q => ?_) (fun q => ?_)
          · have h := h.2.1 q
            refine G_bipush C dX12_readCompared_71 bi_8 ?_
            refine G_istore_n (L' := [rv 75, iv 8]) C dX12_readCompared_73 (by decide) rfl ?_
            refine G_aload_n C dX12_readCompared_74 rfl ?_
            refine G_callVV (K := []) (args := []) (T := TX12) (N := 72) C ly_75 rfl (Nat.le_of_ble_eq_true rfl) mo_X12_reads wc_X12_255 rfl dX12_readCompared_75 h (fun s13 h => ?_)
            refine G_aload_n C dX12_readCompared_78 rfl ?_
            refine G_callVI (K := []) (args := []) (T := TX12) (N := 72) C ly_75 rfl (Nat.le_of_ble_eq_true rfl) mo_X12_readSum wc_X12_268 rfl dX12_readCompared_79 h (fun r14 s14 h => ?_)
            refine G_iconst C dX12_readCompared_82 ?_
            refine G_icmp_ne (tgt := 88) C dX12_readCompared_83 (by decide) ⟨h.1, (by decide)⟩ (fun q => ?_) (fun q => ?_)
            · have h := h.2.1 q
              refine G_aload_n C dX12_readCompared_88 rfl ?_
              refine G_iload_n C dX12_readCompared_89 rfl ?_
              refine G_iconst C dX12_readCompared_90 ?_
              refine G_callVV (K := []) (args := [.inl 8, .inl 0]) (T := TX12) (N := 72) C ly_75 rfl (Nat.le_of_ble_eq_true rfl) mo_X12_emits wc_X12_252 rfl dX12_readCompared_91 h (fun s15 h => ?_)
              refine G_iconst C dX12_readCompared_94 ?_
              exact r _ _ _ _ dX12_readCompared_95 h
            · have h := h.2.2 q
              refine G_iconst C dX12_readCompared_86 ?_
              exact r _ _ _ _ dX12_readCompared_87 h
          · have h := h.2.2 q
            refine G_bipush C dX12_readCompared_66 bi_7 ?_
            refine G_goto (tgt := 73) C dX12_readCompared_68 (by decide) ?_
            refine G_istore_n (L' := [rv 75, iv 7]) C dX12_readCompared_73 (by decide) rfl ?_
            refine G_aload_n C dX12_readCompared_74 rfl ?_
            refine G_callVV (K := []) (args := []) (T := TX12) (N := 72) C ly_75 rfl (Nat.le_of_ble_eq_true rfl) mo_X12_reads wc_X12_255 rfl dX12_readCompared_75 h (fun s16 h => ?_)
            refine G_aload_n C dX12_readCompared_78 rfl ?_
            refine G_callVI (K := []) (args := []) (T := TX12) (N := 72) C ly_75 rfl (Nat.le_of_ble_eq_true rfl) mo_X12_readSum wc_X12_268 rfl dX12_readCompared_79 h (fun r17 s17 h => ?_)
            refine G_iconst C dX12_readCompared_82 ?_
            refine G_icmp_ne (tgt := 88) C dX12_readCompared_83 (by decide) ⟨h.1, (by decide)⟩ (fun q => ?_) (fun q => ?_)
            · have h := h.2.1 q
              refine G_aload_n C dX12_readCompared_88 rfl ?_
              refine G_iload_n C dX12_readCompared_89 rfl ?_
              refine G_iconst C dX12_readCompared_90 ?_
              refine G_callVV (K := []) (args := [.inl 7, .inl 0]) (T := TX12) (N := 72) C ly_75 rfl (Nat.le_of_ble_eq_true rfl) mo_X12_emits wc_X12_252 rfl dX12_readCompared_91 h (fun s18 h => ?_)
              refine G_iconst C dX12_readCompared_94 ?_
              exact r _ _ _ _ dX12_readCompared_95 h
            · have h := h.2.2 q
              refine G_iconst C dX12_readCompared_86 ?_
              exact r _ _ _ _ dX12_readCompared_87 h
        · have h := h.2.2 q
          refine G_bipush C dX12_readCompared_52 bi_6 ?_
          refine G_goto (tgt := 73) C dX12_readCompared_54 (by decide) ?_
          refine G_istore_n (L' := [rv 75, iv 6]) C dX12_readCompared_73 (by decide) rfl ?_
          refine G_aload_n C dX12_readCompared_74 rfl ?_
          refine G_callVV (K := []) (args := []) (T := TX12) (N := 72) C ly_75 rfl (Nat.le_of_ble_eq_true rfl) mo_X12_reads wc_X12_255 rfl dX12_readCompared_75 h (fun s19 h => ?_)
          refine G_aload_n C dX12_readCompared_78 rfl ?_
          refine G_callVI (K := []) (args := []) (T := TX12) (N := 72) C ly_75 rfl (Nat.le_of_ble_eq_true rfl) mo_X12_readSum wc_X12_268 rfl dX12_readCompared_79 h (fun r20 s20 h => ?_)
          refine G_iconst C dX12_readCompared_82 ?_
          refine G_icmp_ne (tgt := 88) C dX12_readCompared_83 (by decide) ⟨h.1, (by decide)⟩ (fun q => ?_) (fun q => ?_)
          · have h := h.2.1 q
            refine G_aload_n C dX12_readCompared_88 rfl ?_
            refine G_iload_n C dX12_readCompared_89 rfl ?_
            refine G_iconst C dX12_readCompared_90 ?_
            refine G_callVV (K := []) (args := [.inl 6, .inl 0]) (T := TX12) (N := 72) C ly_75 rfl (Nat.le_of_ble_eq_true rfl) mo_X12_emits wc_X12_252 rfl dX12_readCompared_91 h (fun s21 h => ?_)
            refine G_iconst C dX12_readCompared_94 ?_
            exact r _ _ _ _ dX12_readCompared_95 h
          · have h := h.2.2 q
            refine G_iconst C dX12_readCompared_86 ?_
            exact r _ _ _ _ dX12_readCompared_87 h
      · have h := h.2.2 q
        refine G_aload_n C dX12_readCompared_28 rfl ?_
        refine G_bipush C dX12_readCompared_29 bi_62 ?_
        refine G_callVI (K := []) (args := [.inl 62]) (T := TX12) (N := 72) C ly_75 rfl (Nat.le_of_ble_eq_true rfl) mo_X12_isSign wc_X12_262 rfl dX12_readCompared_31 h (fun r22 s22 h => ?_)
        refine G_if_ne (tgt := 43) C dX12_readCompared_34 (by decide) h.1 (fun q => ?_) (fun q => ?_)
        · have h := h.2.1 q
          refine G_aload_n C dX12_readCompared_43 rfl ?_
          refine gI_X12_28 C ly_75 rfl wf_X12_224 dX12_readCompared_44 ?_
          refine G_bipush C dX12_readCompared_47 bi_60 ?_
          refine G_icmp_ne (tgt := 57) C dX12_readCompared_49 (by decide) ⟨h.1, (by decide)⟩ (fun q => ?_) (fun q => ?_)
          · have h := h.2.1 q
            refine G_aload_n C dX12_readCompared_57 rfl ?_
            refine gI_X12_28 C ly_75 rfl wf_X12_224 dX12_readCompared_58 ?_
            refine G_bipush C dX12_readCompared_61 bi_61 ?_
            refine G_icmp_ne (tgt := 71) C dX12_readCompared_63 (by decide) ⟨h.1, (by decide)⟩ (fun q => ?_) (fun q => ?_)
            · have h := h.2.1 q
              refine G_bipush C dX12_readCompared_71 bi_8 ?_
              refine G_istore_n (L' := [rv 75, iv 8]) C dX12_readCompared_73 (by decide) rfl ?_
              refine G_aload_n C dX12_readCompared_74 rfl ?_
              refine G_callVV (K := []) (args := []) (T := TX12) (N := 72) C ly_75 rfl (Nat.le_of_ble_eq_true rfl) mo_X12_reads wc_X12_255 rfl dX12_readCompared_75 h (fun s23 h => ?_)
              refine G_aload_n C dX12_readCompared_78 rfl ?_
              refine G_callVI (K := []) (args := []) (T := TX12) (N := 72) C ly_75 rfl (Nat.le_of_ble_eq_true rfl) mo_X12_readSum wc_X12_268 rfl dX12_readCompared_79 h (fun r24 s24 h => ?_)
              refine G_iconst C dX12_readCompared_82 ?_
              refine G_icmp_ne (tgt := 88) C dX12_readCompared_83 (by decide) ⟨h.1, (by decide)⟩ (fun q => ?_) (fun q => ?_)
              · have h := h.2.1 q
                refine G_aload_n C dX12_readCompared_88 rfl ?_
                refine G_iload_n C dX12_readCompared_89 rfl ?_
                refine G_iconst C dX12_readCompared_90 ?_
                refine G_callVV (K := []) (args := [.inl 8, .inl 0]) (T := TX12) (N := 72) C ly_75 rfl (Nat.le_of_ble_eq_true rfl) mo_X12_emits wc_X12_252 rfl dX12_readCompared_91 h (fun s25 h => ?_)
                refine G_iconst C dX12_readCompared_94 ?_
                exact r _ _ _ _ dX12_readCompared_95 h
              · have h := h.2.2 q
                refine G_iconst C dX12_readCompared_86 ?_
                exact r _ _ _ _ dX12_readCompared_87 h
            · have h := h.2.2 q
              refine G_bipush C dX12_readCompared_66 bi_7 ?_
              refine G_goto (tgt := 73) C dX12_readCompared_68 (by decide) ?_
              refine G_istore_n (L' := [rv 75, iv 7]) C dX12_readCompared_73 (by decide) rfl ?_
              refine G_aload_n C dX12_readCompared_74 rfl ?_
              refine G_callVV (K := []) (args := []) (T := TX12) (N := 72) C ly_75 rfl (Nat.le_of_ble_eq_true rfl) mo_X12_reads wc_X12_255 rfl dX12_readCompared_75 h (fun s26 h => ?_)
              refine G_aload_n C dX12_readCompared_78 rfl ?_
              refine G_callVI (K := []) (args := []) (T := TX12) (N := 72) C ly_75 rfl (Nat.le_of_ble_eq_true rfl) mo_X12_readSum wc_X12_268 rfl dX12_readCompared_79 h (fun r27 s27 h => ?_)
              refine G_iconst C dX12_readCompared_82 ?_
              refine G_icmp_ne (tgt := 88) C dX12_readCompared_83 (by decide) ⟨h.1, (by decide)⟩ (fun q => ?_) (fun q => ?_)
              · have h := h.2.1 q
                refine G_aload_n C dX12_readCompared_88 rfl ?_
                refine G_iload_n C dX12_readCompared_89 rfl ?_
                refine G_iconst C dX12_readCompared_90 ?_
                refine G_callVV (K := []) (args := [.inl 7, .inl 0]) (T := TX12) (N := 72) C ly_75 rfl (Nat.le_of_ble_eq_true rfl) mo_X12_emits wc_X12_252 rfl dX12_readCompared_91 h (fun s28 h => ?_)
                refine G_iconst C dX12_readCompared_94 ?_
                exact r _ _ _ _ dX12_readCompared_95 h
              · have h := h.2.2 q
                refine G_iconst C dX12_readCompared_86 ?_
                exact r _ _ _ _ dX12_readCompared_87 h
          · have h := h.2.2 q
            refine G_bipush C dX12_readCompared_52 bi_6 ?_
            refine G_goto (tgt := 73) C dX12_readCompared_54 (by decide) ?_
            refine G_istore_n (L' := [rv 75, iv 6]) C dX12_readCompared_73 (by decide) rfl ?_
            refine G_aload_n C dX12_readCompared_74 rfl ?_
            refine G_callVV (K := []) (args := []) (T := TX12) (N := 72) C ly_75 rfl (Nat.le_of_ble_eq_true rfl) mo_X12_reads wc_X12_255 rfl dX12_readCompared_75 h (fun s29 h => ?_)
            refine G_aload_n C dX12_readCompared_78 rfl ?_
            refine G_callVI (K := []) (args := []) (T := TX12) (N := 72) C ly_75 rfl (Nat.le_of_ble_eq_true rfl) mo_X12_readSum wc_X12_268 rfl dX12_readCompared_79 h (fun r30 s30 h => ?_)
            refine G_iconst C dX12_readCompared_82 ?_
            refine G_icmp_ne (tgt := 88) C dX12_readCompared_83 (by decide) ⟨h.1, (by decide)⟩ (fun q => ?_) (fun q => ?_)
            · have h := h.2.1 q
              refine G_aload_n C dX12_readCompared_88 rfl ?_
              refine G_iload_n C dX12_readCompared_89 rfl ?_
              refine G_iconst C dX12_readCompared_90 ?_
              refine G_callVV (K := []) (args := [.inl 6, .inl 0]) (T := TX12) (N := 72) C ly_75 rfl (Nat.le_of_ble_eq_true rfl) mo_X12_emits wc_X12_252 rfl dX12_readCompared_91 h (fun s31 h => ?_)
              refine G_iconst C dX12_readCompared_94 ?_
              exact r _ _ _ _ dX12_readCompared_95 h
            · have h := h.2.2 q
              refine G_iconst C dX12_readCompared_86 ?_
              exact r _ _ _ _ dX12_readCompared_87 h
        · have h := h.2.2 q
          refine G_aload_n C dX12_readCompared_37 rfl ?_
          refine G_iconst C dX12_readCompared_38 ?_
          refine G_callVI (K := []) (args := [.inl 1]) (T := TX12) (N := 72) C ly_75 rfl (Nat.le_of_ble_eq_true rfl) mo_X12_errs wc_X12_249 rfl dX12_readCompared_39 h (fun r32 s32 h => ?_)
          exact r _ _ _ _ dX12_readCompared_42 h
  · have h := h.2.2 q
    refine G_iconst C dX12_readCompared_8 ?_
    exact r _ _ _ _ dX12_readCompared_9 h
set_option maxRecDepth 20000 in
theorem kb_X12_nextOf_0 {X : Cx} {d : Nat} {P : Int → Sto → Prop} (C : Ok LY X RX12 cX12_nextOf 4 d) (r : RetI LY X cX12_nextOf P) {v1 v2 : Int} {s : Sto} (h : G LY X 2 [rv 75, iv v1, iv v2, iv v2] [] s) : G LY X 0 [rv 75, iv v1, iv v2, none] [] s := by
  refine G_iload_n C dX12_nextOf_0 rfl ?_
  refine G_istore_n (L' := [rv 75, iv v1, iv v2, iv v2]) C dX12_nextOf_1 (by decide) rfl ?_
  exact h
set_option maxRecDepth 20000 in
theorem kb_X12_nextOf_2 {X : Cx} {d : Nat} {P : Int → Sto → Prop} (C : Ok LY X RX12 cX12_nextOf 4 d) (r : RetI LY X cX12_nextOf P) {v1 v2 v3 : Int} {s : Sto} (h : ((0 ≤ v1 ∧ v1 < 51) ∧ ((rg v3 ∧ rg (s 76 v1)) ∧ (((s 76 v1) ≤ v3 → P v3 s) ∧ (v3 < (s 76 v1) → ((0 ≤ ((6 * v1) + v3) ∧ ((6 * v1) + v3) < 306) ∧ (CallI LY d MX12_isLeftOut [.inr 75, .inl (s 77 ((6 * v1) + v3))] s (fun r1 s1 => ((rg r1) ∧ ((r1 = 0 → P v3 s1) ∧ (r1 ≠ 0 → G LY X 2 [rv 75, iv v1, iv v2, iv (v3 + 1)] [] s1))))))))))) : G LY X 2 [rv 75, iv v1, iv v2, iv v3] [] s := by
  refine G_iload_n C dX12_nextOf_2 rfl ?_
  refine G_aload_n C dX12_nextOf_3 rfl ?_
  refine gR_X12_2 C ly_75 rfl wf_X12_7 dX12_nextOf_4 ?_
  refine G_iload_n C dX12_nextOf_7 rfl ?_
  refine G_iald C ly_76 (by decide) h.1 dX12_nextOf_8 ?_
  have h := h.2
  refine G_icmp_ge (tgt := 37) C dX12_nextOf_9 (by decide) ⟨h.1.1, h.1.2⟩ (fun q => ?_) (fun q => ?_)
  · have h := h.2.1 q
    refine G_iload_n C dX12_nextOf_37 rfl ?_
    exact r _ _ _ _ dX12_nextOf_38 h
  · have h := h.2.2 q
    refine G_aload_n C dX12_nextOf_12 rfl ?_
    refine G_aload_n C dX12_nextOf_13 rfl ?_
    refine gR_X12_3 C ly_75 rfl wf_X12_13 dX12_nextOf_14 ?_
    refine G_bipush C dX12_nextOf_17 bi_6 ?_
    refine G_iload_n C dX12_nextOf_19 rfl ?_
    refine G_imul C dX12_nextOf_20 ?_
    refine G_iload_n C dX12_nextOf_21 rfl ?_
    refine G_iadd C dX12_nextOf_22 ?_
    refine G_iald C ly_77 (by decide) h.1 dX12_nextOf_23 ?_
    have h := h.2
    refine G_callVI (K := []) (args := [.inl (s 77 ((6 * v1) + v3))]) (T := TX12) (N := 72) C ly_75 rfl (Nat.le_of_ble_eq_true rfl) mo_X12_isLeftOut wc_X12_302 rfl dX12_nextOf_24 h (fun r1 s1 h => ?_)
    refine G_if_eq (tgt := 37) C dX12_nextOf_27 (by decide) h.1 (fun q => ?_) (fun q => ?_)
    · have h := h.2.1 q
      refine G_iload_n C dX12_nextOf_37 rfl ?_
      exact r _ _ _ _ dX12_nextOf_38 h
    · have h := h.2.2 q
      refine G_iload_n C dX12_nextOf_30 rfl ?_
      refine G_iconst C dX12_nextOf_31 ?_
      refine G_iadd C dX12_nextOf_32 ?_
      refine G_istore_n (L' := [rv 75, iv v1, iv v2, iv (v3 + 1)]) C dX12_nextOf_33 (by decide) rfl ?_
      refine G_goto (tgt := 2) C dX12_nextOf_34 (by decide) ?_
      exact h
set_option maxRecDepth 20000 in
theorem kb_X12_standsAt_0 {X : Cx} {d : Nat} {P : Int → Sto → Prop} (C : Ok LY X RX12 cX12_standsAt 2 d) (r : RetI LY X cX12_standsAt P) {v1 : Int} {s : Sto} (h : ((rg v1 ∧ rg (s 75 9)) ∧ (((s 75 9) ≤ v1 → ((rg (s 82 0)) ∧ (((s 82 0) ≠ 1 → P (100 + v1) s) ∧ ((s 82 0) = 1 → P (v1 - 100) s)))) ∧ (v1 < (s 75 9) → ((0 ≤ v1 ∧ v1 < 8) ∧ P (s 101 v1) s))))) : G LY X 0 [rv 75, iv v1] [] s := by
  refine G_iload_n C dX12_standsAt_0 rfl ?_
  refine G_aload_n C dX12_standsAt_1 rfl ?_
  refine gI_X12_9 C ly_75 rfl wf_X12_25 dX12_standsAt_2 ?_
  refine G_icmp_ge (tgt := 17) C dX12_standsAt_5 (by decide) ⟨h.1.1, h.1.2⟩ (fun q => ?_) (fun q => ?_)
  · have h := h.2.1 q
    refine G_aload_n C dX12_standsAt_17 rfl ?_
    refine gR_X12_11 C ly_75 rfl wf_X12_32 dX12_standsAt_18 ?_
    refine G_iconst C dX12_standsAt_21 ?_
    refine G_iald C ly_82 (by decide) (by decide) dX12_standsAt_22 ?_
    refine G_iconst C dX12_standsAt_23 ?_
    refine G_icmp_ne (tgt := 34) C dX12_standsAt_24 (by decide) ⟨h.1, (by decide)⟩ (fun q => ?_) (fun q => ?_)
    · have h := h.2.1 q
      refine G_bipush C dX12_standsAt_34 bi_100 ?_
      refine G_iload_n C dX12_standsAt_36 rfl ?_
      refine G_iadd C dX12_standsAt_37 ?_
      exact r _ _ _ _ dX12_standsAt_38 h
    · have h := h.2.2 q
      refine G_iload_n C dX12_standsAt_27 rfl ?_
      refine G_bipush C dX12_standsAt_28 bi_100 ?_
      refine G_isub C dX12_standsAt_30 ?_
      refine G_goto (tgt := 38) C dX12_standsAt_31 (by decide) ?_
      exact r _ _ _ _ dX12_standsAt_38 h
  · have h := h.2.2 q
    refine G_aload_n C dX12_standsAt_8 rfl ?_
    refine gR_X12_46 C ly_75 rfl wf_X12_92 dX12_standsAt_9 ?_
    refine G_iload_n C dX12_standsAt_12 rfl ?_
    refine G_iald C ly_101 (by decide) h.1 dX12_standsAt_13 ?_
    have h := h.2
    refine G_goto (tgt := 38) C dX12_standsAt_14 (by decide) ?_
    exact r _ _ _ _ dX12_standsAt_38 h
set_option maxRecDepth 20000 in
theorem kb_X12_getsAt_0 {X : Cx} {d : Nat} {P : Int → Sto → Prop} (C : Ok LY X RX12 cX12_getsAt 5 d) (r : RetI LY X cX12_getsAt P) {v1 v2 : Int} {s : Sto} (h : ((0 ≤ v1 ∧ v1 < 6) ∧ ((rg (s 83 v1)) ∧ (((s 83 v1) ≠ 0 → ((0 ≤ v1 ∧ v1 < 6) ∧ ((rg (((s 75 4) - 1) - v2) ∧ rg (s 86 v1)) ∧ (((((s 75 4) - 1) - v2) < (s 86 v1) → ((0 ≤ v1 ∧ v1 < 6) ∧ ((rg (s 84 v1)) ∧ (((s 84 v1) ≤ 0 → ((0 ≤ v1 ∧ v1 < 6) ∧ ((0 ≤ v1 ∧ v1 < 6) ∧ ((0 ≤ v1 ∧ v1 < 6) ∧ ((rg (s 84 v1)) ∧ (((s 84 v1) ≤ 0 → ((rg ((s 84 v1) + ((((s 75 4) - 1) - v2) * (s 85 v1)))) ∧ ((((s 84 v1) + ((((s 75 4) - 1) - v2) * (s 85 v1))) ≤ 0 → P ((s 84 v1) + ((((s 75 4) - 1) - v2) * (s 85 v1))) s) ∧ (0 < ((s 84 v1) + ((((s 75 4) - 1) - v2) * (s 85 v1))) → P 0 s)))) ∧ (0 < (s 84 v1) → ((rg ((s 84 v1) + ((((s 75 4) - 1) - v2) * (s 85 v1)))) ∧ ((0 ≤ ((s 84 v1) + ((((s 75 4) - 1) - v2) * (s 85 v1))) → P ((s 84 v1) + ((((s 75 4) - 1) - v2) * (s 85 v1))) s) ∧ (((s 84 v1) + ((((s 75 4) - 1) - v2) * (s 85 v1))) < 0 → P 0 s)))))))))) ∧ (0 < (s 84 v1) → ((0 ≤ v1 ∧ v1 < 6) ∧ ((0 ≤ v1 ∧ v1 < 6) ∧ ((0 ≤ v1 ∧ v1 < 6) ∧ ((rg (s 84 v1)) ∧ (((s 84 v1) ≤ 0 → ((rg ((s 84 v1) - ((((s 75 4) - 1) - v2) * (s 85 v1)))) ∧ ((((s 84 v1) - ((((s 75 4) - 1) - v2) * (s 85 v1))) ≤ 0 → P ((s 84 v1) - ((((s 75 4) - 1) - v2) * (s 85 v1))) s) ∧ (0 < ((s 84 v1) - ((((s 75 4) - 1) - v2) * (s 85 v1))) → P 0 s)))) ∧ (0 < (s 84 v1) → ((rg ((s 84 v1) - ((((s 75 4) - 1) - v2) * (s 85 v1)))) ∧ ((0 ≤ ((s 84 v1) - ((((s 75 4) - 1) - v2) * (s 85 v1))) → P ((s 84 v1) - ((((s 75 4) - 1) - v2) * (s 85 v1))) s) ∧ (((s 84 v1) - ((((s 75 4) - 1) - v2) * (s 85 v1))) < 0 → P 0 s)))))))))))))) ∧ ((s 86 v1) ≤ (((s 75 4) - 1) - v2) → P 0 s))))) ∧ ((s 83 v1) = 0 → ((0 ≤ v1 ∧ v1 < 6) ∧ ((rg v2 ∧ rg (s 86 v1)) ∧ ((v2 < (s 86 v1) → ((0 ≤ v1 ∧ v1 < 6) ∧ ((rg (s 84 v1)) ∧ (((s 84 v1) ≤ 0 → ((0 ≤ v1 ∧ v1 < 6) ∧ ((0 ≤ v1 ∧ v1 < 6) ∧ ((0 ≤ v1 ∧ v1 < 6) ∧ ((rg (s 84 v1)) ∧ (((s 84 v1) ≤ 0 → ((rg ((s 84 v1) + (v2 * (s 85 v1)))) ∧ ((((s 84 v1) + (v2 * (s 85 v1))) ≤ 0 → P ((s 84 v1) + (v2 * (s 85 v1))) s) ∧ (0 < ((s 84 v1) + (v2 * (s 85 v1))) → P 0 s)))) ∧ (0 < (s 84 v1) → ((rg ((s 84 v1) + (v2 * (s 85 v1)))) ∧ ((0 ≤ ((s 84 v1) + (v2 * (s 85 v1))) → P ((s 84 v1) + (v2 * (s 85 v1))) s) ∧ (((s 84 v1) + (v2 * (s 85 v1))) < 0 → P 0 s)))))))))) ∧ (0 < (s 84 v1) → ((0 ≤ v1 ∧ v1 < 6) ∧ ((0 ≤ v1 ∧ v1 < 6) ∧ ((0 ≤ v1 ∧ v1 < 6) ∧ ((rg (s 84 v1)) ∧ (((s 84 v1) ≤ 0 → ((rg ((s 84 v1) - (v2 * (s 85 v1)))) ∧ ((((s 84 v1) - (v2 * (s 85 v1))) ≤ 0 → P ((s 84 v1) - (v2 * (s 85 v1))) s) ∧ (0 < ((s 84 v1) - (v2 * (s 85 v1))) → P 0 s)))) ∧ (0 < (s 84 v1) → ((rg ((s 84 v1) - (v2 * (s 85 v1)))) ∧ ((0 ≤ ((s 84 v1) - (v2 * (s 85 v1))) → P ((s 84 v1) - (v2 * (s 85 v1))) s) ∧ (((s 84 v1) - (v2 * (s 85 v1))) < 0 → P 0 s)))))))))))))) ∧ ((s 86 v1) ≤ v2 → P 0 s))))))))) : G LY X 0 [rv 75, iv v1, iv v2, none, none] [] s := by
  refine G_aload_n C dX12_getsAt_0 rfl ?_
  refine gR_X12_12 C ly_75 rfl wf_X12_35 dX12_getsAt_1 ?_
  refine G_iload_n C dX12_getsAt_4 rfl ?_
  refine G_iald C ly_83 (by decide) h.1 dX12_getsAt_5 ?_
  have h := h.2
  refine G_if_ne (tgt := 13) C dX12_getsAt_6 (by decide) h.1 (fun q => ?_) (fun q => ?_)
  · have h := h.2.1 q
    refine G_aload_n C dX12_getsAt_13 rfl ?_
    refine gI_X12_4 C ly_75 rfl wf_X12_154 dX12_getsAt_14 ?_
    refine G_iconst C dX12_getsAt_17 ?_
    refine G_isub C dX12_getsAt_18 ?_
    refine G_iload_n C dX12_getsAt_19 rfl ?_
    refine G_isub C dX12_getsAt_20 ?_
    refine G_istore_n (L' := [rv 75, iv v1, iv v2, iv (((s 75 4) - 1) - v2), none]) C dX12_getsAt_21 (by decide) rfl ?_
    refine G_iload_n C dX12_getsAt_22 rfl ?_
    refine G_aload_n C dX12_getsAt_23 rfl ?_
    refine gR_X12_15 C ly_75 rfl wf_X12_44 dX12_getsAt_24 ?_
    refine G_iload_n C dX12_getsAt_27 rfl ?_
    refine G_iald C ly_86 (by decide) h.1 dX12_getsAt_28 ?_
    have h := h.2
    refine G_icmp_lt (tgt := 34) C dX12_getsAt_29 (by decide) ⟨h.1.1, h.1.2⟩ (fun q => ?_) (fun q => ?_)
    · have h := h.2.1 q
      refine G_aload_n C dX12_getsAt_34 rfl ?_
      refine gR_X12_13 C ly_75 rfl wf_X12_38 dX12_getsAt_35 ?_
      refine G_iload_n C dX12_getsAt_38 rfl ?_
      refine G_iald C ly_84 (by decide) h.1 dX12_getsAt_39 ?_
      have h := h.2
      refine G_if_le (tgt := 61) C dX12_getsAt_40 (by decide) h.1 (fun q => ?_) (fun q => ?_)
      · have h := h.2.1 q
        refine G_aload_n C dX12_getsAt_61 rfl ?_
        refine gR_X12_13 C ly_75 rfl wf_X12_38 dX12_getsAt_62 ?_
        refine G_iload_n C dX12_getsAt_65 rfl ?_
        refine G_iald C ly_84 (by decide) h.1 dX12_getsAt_66 ?_
        have h := h.2
        refine G_iload_n C dX12_getsAt_67 rfl ?_
        refine G_aload_n C dX12_getsAt_68 rfl ?_
        refine gR_X12_14 C ly_75 rfl wf_X12_41 dX12_getsAt_69 ?_
        refine G_iload_n C dX12_getsAt_72 rfl ?_
        refine G_iald C ly_85 (by decide) h.1 dX12_getsAt_73 ?_
        have h := h.2
        refine G_imul C dX12_getsAt_74 ?_
        refine G_iadd C dX12_getsAt_75 ?_
        refine G_istore (L' := [rv 75, iv v1, iv v2, iv (((s 75 4) - 1) - v2), iv ((s 84 v1) + ((((s 75 4) - 1) - v2) * (s 85 v1)))]) C dX12_getsAt_76 (by decide) rfl ?_
        refine G_aload_n C dX12_getsAt_78 rfl ?_
        refine gR_X12_13 C ly_75 rfl wf_X12_38 dX12_getsAt_79 ?_
        refine G_iload_n C dX12_getsAt_82 rfl ?_
        refine G_iald C ly_84 (by decide) h.1 dX12_getsAt_83 ?_
        have h := h.2
        refine G_if_le (tgt := 101) C dX12_getsAt_84 (by decide) h.1 (fun q => ?_) (fun q => ?_)
        · have h := h.2.1 q
          refine G_iload C dX12_getsAt_101 rfl ?_
          refine G_if_le (tgt := 110) C dX12_getsAt_103 (by decide) h.1 (fun q => ?_) (fun q => ?_)
          · have h := h.2.1 q
            refine G_iload C dX12_getsAt_110 rfl ?_
            exact r _ _ _ _ dX12_getsAt_112 h
          · have h := h.2.2 q
            refine G_iconst C dX12_getsAt_106 ?_
            refine G_goto (tgt := 112) C dX12_getsAt_107 (by decide) ?_
            exact r _ _ _ _ dX12_getsAt_112 h
        · have h := h.2.2 q
          refine G_iload C dX12_getsAt_87 rfl ?_
          refine G_if_ge (tgt := 96) C dX12_getsAt_89 (by decide) h.1 (fun q => ?_) (fun q => ?_)
          · have h := h.2.1 q
            refine G_iload C dX12_getsAt_96 rfl ?_
            refine G_goto (tgt := 112) C dX12_getsAt_98 (by decide) ?_
            exact r _ _ _ _ dX12_getsAt_112 h
          · have h := h.2.2 q
            refine G_iconst C dX12_getsAt_92 ?_
            refine G_goto (tgt := 112) C dX12_getsAt_93 (by decide) ?_
            exact r _ _ _ _ dX12_getsAt_112 h
      · have h := h.2.2 q
        refine G_aload_n C dX12_getsAt_43 rfl ?_
        refine gR_X12_13 C ly_75 rfl wf_X12_38 dX12_getsAt_44 ?_
        refine G_iload_n C dX12_getsAt_47 rfl ?_
        refine G_iald C ly_84 (by decide) h.1 dX12_getsAt_48 ?_
        have h := h.2
        refine G_iload_n C dX12_getsAt_49 rfl ?_
        refine G_aload_n C dX12_getsAt_50 rfl ?_
        refine gR_X12_14 C ly_75 rfl wf_X12_41 dX12_getsAt_51 ?_
        refine G_iload_n C dX12_getsAt_54 rfl ?_
        refine G_iald C ly_85 (by decide) h.1 dX12_getsAt_55 ?_
        have h := h.2
        refine G_imul C dX12_getsAt_56 ?_
        refine G_isub C dX12_getsAt_57 ?_
        refine G_goto (tgt := 76) C dX12_getsAt_58 (by decide) ?_
        refine G_istore (L' := [rv 75, iv v1, iv v2, iv (((s 75 4) - 1) - v2), iv ((s 84 v1) - ((((s 75 4) - 1) - v2) * (s 85 v1)))]) C dX12_getsAt_76 (by decide) rfl ?_
        refine G_aload_n C dX12_getsAt_78 rfl ?_
        refine gR_X12_13 C ly_75 rfl wf_X12_38 dX12_getsAt_79 ?_
        refine G_iload_n C dX12_getsAt_82 rfl ?_
        refine G_iald C ly_84 (by decide) h.1 dX12_getsAt_83 ?_
        have h := h.2
        refine G_if_le (tgt := 101) C dX12_getsAt_84 (by decide) h.1 (fun q => ?_) (fun q => ?_)
        · have h := h.2.1 q
          refine G_iload C dX12_getsAt_101 rfl ?_
          refine G_if_le (tgt := 110) C dX12_getsAt_103 (by decide) h.1 (fun q => ?_) (fun q => ?_)
          · have h := h.2.1 q
            refine G_iload C dX12_getsAt_110 rfl ?_
            exact r _ _ _ _ dX12_getsAt_112 h
          · have h := h.2.2 q
            refine G_iconst C dX12_getsAt_106 ?_
            refine G_goto (tgt := 112) C dX12_getsAt_107 (by decide) ?_
            exact r _ _ _ _ dX12_getsAt_112 h
        · have h := h.2.2 q
          refine G_iload C dX12_getsAt_87 rfl ?_
          refine G_if_ge (tgt := 96) C dX12_getsAt_89 (by decide) h.1 (fun q => ?_) (fun q => ?_)
          · have h := h.2.1 q
            refine G_iload C dX12_getsAt_96 rfl ?_
            refine G_goto (tgt := 112) C dX12_getsAt_98 (by decide) ?_
            exact r _ _ _ _ dX12_getsAt_112 h
          · have h := h.2.2 q
            refine G_iconst C dX12_getsAt_92 ?_
            refine G_goto (tgt := 112) C dX12_getsAt_93 (by decide) ?_
            exact r _ _ _ _ dX12_getsAt_112 h
    · have h := h.2.2 q
      refine G_iconst C dX12_getsAt_32 ?_
      exact r _ _ _ _ dX12_getsAt_33 h
  · have h := h.2.2 q
    refine G_iload_n C dX12_getsAt_9 rfl ?_
    refine G_goto (tgt := 21) C dX12_getsAt_10 (by decide) ?_
    refine G_istore_n (L' := [rv 75, iv v1, iv v2, iv v2, none]) C dX12_getsAt_21 (by decide) rfl ?_
    refine G_iload_n C dX12_getsAt_22 rfl ?_
    refine G_aload_n C dX12_getsAt_23 rfl ?_
    refine gR_X12_15 C ly_75 rfl wf_X12_44 dX12_getsAt_24 ?_
    refine G_iload_n C dX12_getsAt_27 rfl ?_
    refine G_iald C ly_86 (by decide) h.1 dX12_getsAt_28 ?_
    have h := h.2
    refine G_icmp_lt (tgt := 34) C dX12_getsAt_29 (by decide) ⟨h.1.1, h.1.2⟩ (fun q => ?_) (fun q => ?_)
    · have h := h.2.1 q
      refine G_aload_n C dX12_getsAt_34 rfl ?_
      refine gR_X12_13 C ly_75 rfl wf_X12_38 dX12_getsAt_35 ?_
      refine G_iload_n C dX12_getsAt_38 rfl ?_
      refine G_iald C ly_84 (by decide) h.1 dX12_getsAt_39 ?_
      have h := h.2
      refine G_if_le (tgt := 61) C dX12_getsAt_40 (by decide) h.1 (fun q => ?_) (fun q => ?_)
      · have h := h.2.1 q
        refine G_aload_n C dX12_getsAt_61 rfl ?_
        refine gR_X12_13 C ly_75 rfl wf_X12_38 dX12_getsAt_62 ?_
        refine G_iload_n C dX12_getsAt_65 rfl ?_
        refine G_iald C ly_84 (by decide) h.1 dX12_getsAt_66 ?_
        have h := h.2
        refine G_iload_n C dX12_getsAt_67 rfl ?_
        refine G_aload_n C dX12_getsAt_68 rfl ?_
        refine gR_X12_14 C ly_75 rfl wf_X12_41 dX12_getsAt_69 ?_
        refine G_iload_n C dX12_getsAt_72 rfl ?_
        refine G_iald C ly_85 (by decide) h.1 dX12_getsAt_73 ?_
        have h := h.2
        refine G_imul C dX12_getsAt_74 ?_
        refine G_iadd C dX12_getsAt_75 ?_
        refine G_istore (L' := [rv 75, iv v1, iv v2, iv v2, iv ((s 84 v1) + (v2 * (s 85 v1)))]) C dX12_getsAt_76 (by decide) rfl ?_
        refine G_aload_n C dX12_getsAt_78 rfl ?_
        refine gR_X12_13 C ly_75 rfl wf_X12_38 dX12_getsAt_79 ?_
        refine G_iload_n C dX12_getsAt_82 rfl ?_
        refine G_iald C ly_84 (by decide) h.1 dX12_getsAt_83 ?_
        have h := h.2
        refine G_if_le (tgt := 101) C dX12_getsAt_84 (by decide) h.1 (fun q => ?_) (fun q => ?_)
        · have h := h.2.1 q
          refine G_iload C dX12_getsAt_101 rfl ?_
          refine G_if_le (tgt := 110) C dX12_getsAt_103 (by decide) h.1 (fun q => ?_) (fun q => ?_)
          · have h := h.2.1 q
            refine G_iload C dX12_getsAt_110 rfl ?_
            exact r _ _ _ _ dX12_getsAt_112 h
          · have h := h.2.2 q
            refine G_iconst C dX12_getsAt_106 ?_
            refine G_goto (tgt := 112) C dX12_getsAt_107 (by decide) ?_
            exact r _ _ _ _ dX12_getsAt_112 h
        · have h := h.2.2 q
          refine G_iload C dX12_getsAt_87 rfl ?_
          refine G_if_ge (tgt := 96) C dX12_getsAt_89 (by decide) h.1 (fun q => ?_) (fun q => ?_)
          · have h := h.2.1 q
            refine G_iload C dX12_getsAt_96 rfl ?_
            refine G_goto (tgt := 112) C dX12_getsAt_98 (by decide) ?_
            exact r _ _ _ _ dX12_getsAt_112 h
          · have h := h.2.2 q
            refine G_iconst C dX12_getsAt_92 ?_
            refine G_goto (tgt := 112) C dX12_getsAt_93 (by decide) ?_
            exact r _ _ _ _ dX12_getsAt_112 h
      · have h := h.2.2 q
        refine G_aload_n C dX12_getsAt_43 rfl ?_
        refine gR_X12_13 C ly_75 rfl wf_X12_38 dX12_getsAt_44 ?_
        refine G_iload_n C dX12_getsAt_47 rfl ?_
        refine G_iald C ly_84 (by decide) h.1 dX12_getsAt_48 ?_
        have h := h.2
        refine G_iload_n C dX12_getsAt_49 rfl ?_
        refine G_aload_n C dX12_getsAt_50 rfl ?_
        refine gR_X12_14 C ly_75 rfl wf_X12_41 dX12_getsAt_51 ?_
        refine G_iload_n C dX12_getsAt_54 rfl ?_
        refine G_iald C ly_85 (by decide) h.1 dX12_getsAt_55 ?_
        have h := h.2
        refine G_imul C dX12_getsAt_56 ?_
        refine G_isub C dX12_getsAt_57 ?_
        refine G_goto (tgt := 76) C dX12_getsAt_58 (by decide) ?_
        refine G_istore (L' := [rv 75, iv v1, iv v2, iv v2, iv ((s 84 v1) - (v2 * (s 85 v1)))]) C dX12_getsAt_76 (by decide) rfl ?_
        refine G_aload_n C dX12_getsAt_78 rfl ?_
        refine gR_X12_13 C ly_75 rfl wf_X12_38 dX12_getsAt_79 ?_
        refine G_iload_n C dX12_getsAt_82 rfl ?_
        refine G_iald C ly_84 (by decide) h.1 dX12_getsAt_83 ?_
        have h := h.2
        refine G_if_le (tgt := 101) C dX12_getsAt_84 (by decide) h.1 (fun q => ?_) (fun q => ?_)
        · have h := h.2.1 q
          refine G_iload C dX12_getsAt_101 rfl ?_
          refine G_if_le (tgt := 110) C dX12_getsAt_103 (by decide) h.1 (fun q => ?_) (fun q => ?_)
          · have h := h.2.1 q
            refine G_iload C dX12_getsAt_110 rfl ?_
            exact r _ _ _ _ dX12_getsAt_112 h
          · have h := h.2.2 q
            refine G_iconst C dX12_getsAt_106 ?_
            refine G_goto (tgt := 112) C dX12_getsAt_107 (by decide) ?_
            exact r _ _ _ _ dX12_getsAt_112 h
        · have h := h.2.2 q
          refine G_iload C dX12_getsAt_87 rfl ?_
          refine G_if_ge (tgt := 96) C dX12_getsAt_89 (by decide) h.1 (fun q => ?_) (fun q => ?_)
          · have h := h.2.1 q
            refine G_iload C dX12_getsAt_96 rfl ?_
            refine G_goto (tgt := 112) C dX12_getsAt_98 (by decide) ?_
            exact r _ _ _ _ dX12_getsAt_112 h
          · have h := h.2.2 q
            refine G_iconst C dX12_getsAt_92 ?_
            refine G_goto (tgt := 112) C dX12_getsAt_93 (by decide) ?_
            exact r _ _ _ _ dX12_getsAt_112 h
    · have h := h.2.2 q
      refine G_iconst C dX12_getsAt_32 ?_
      exact r _ _ _ _ dX12_getsAt_33 h
set_option maxRecDepth 20000 in
theorem kb_X12_twoOf_0 {X : Cx} {d : Nat} {P : Int → Sto → Prop} (C : Ok LY X RX12 cX12_twoOf 4 d) (r : RetI LY X cX12_twoOf P) {v1 v2 v3 : Int} {s : Sto} (h : ((rg v1) ∧ ((v1 ≠ 2 → ((rg v1) ∧ ((v1 ≠ 3 → ((rg v1) ∧ ((v1 ≠ 4 → ((rg v1) ∧ ((v1 ≠ 5 → ((rg v1) ∧ ((v1 ≠ 6 → ((rg v1) ∧ ((v1 ≠ 7 → ((rg v1) ∧ ((v1 ≠ 8 → ((rg v1) ∧ ((v1 ≠ 10 → (((wr (v2 + v3)) ≤ 0 → P 0 s) ∧ (0 < (wr (v2 + v3)) → P 1 s))) ∧ (v1 = 10 → P (wr (v2 * v3)) s)))) ∧ (v1 = 8 → ((rg v2 ∧ rg v3) ∧ ((v2 ≤ v3 → P 0 s) ∧ (v3 < v2 → P 1 s))))))) ∧ (v1 = 7 → ((rg v2 ∧ rg v3) ∧ ((v2 ≠ v3 → P 0 s) ∧ (v2 = v3 → P 1 s))))))) ∧ (v1 = 6 → ((rg v2 ∧ rg v3) ∧ ((v3 ≤ v2 → P 0 s) ∧ (v2 < v3 → P 1 s))))))) ∧ (v1 = 5 → ((rg v3 ∧ v3 ≠ 0) ∧ P (xdiv v2 v3) s))))) ∧ (v1 = 4 → P (wr (v2 * v3)) s)))) ∧ (v1 = 3 → P (wr (v2 - v3)) s)))) ∧ (v1 = 2 → P (wr (v2 + v3)) s)))) : G LY X 0 [rv 75, iv v1, iv v2, iv v3] [] s := by
  refine G_iload_n C dX12_twoOf_0 rfl ?_
  refine G_iconst C dX12_twoOf_1 ?_
  refine G_icmp_ne (tgt := 9) C dX12_twoOf_2 (by decide) ⟨h.1, (by decide)⟩ (fun q => ?_) (fun q => ?_)
  · have h := h.2.1 q
    refine G_iload_n C dX12_twoOf_9 rfl ?_
    refine G_iconst C dX12_twoOf_10 ?_
    refine G_icmp_ne (tgt := 18) C dX12_twoOf_11 (by decide) ⟨h.1, (by decide)⟩ (fun q => ?_) (fun q => ?_)
    · have h := h.2.1 q
      refine G_iload_n C dX12_twoOf_18 rfl ?_
      refine G_iconst C dX12_twoOf_19 ?_
      refine G_icmp_ne (tgt := 27) C dX12_twoOf_20 (by decide) ⟨h.1, (by decide)⟩ (fun q => ?_) (fun q => ?_)
      · have h := h.2.1 q
        refine G_iload_n C dX12_twoOf_27 rfl ?_
        refine G_iconst C dX12_twoOf_28 ?_
        refine G_icmp_ne (tgt := 36) C dX12_twoOf_29 (by decide) ⟨h.1, (by decide)⟩ (fun q => ?_) (fun q => ?_)
        · have h := h.2.1 q
          refine G_iload_n C dX12_twoOf_36 rfl ?_
          refine G_bipush C dX12_twoOf_37 bi_6 ?_
          refine G_icmp_ne (tgt := 53) C dX12_twoOf_39 (by decide) ⟨h.1, (by decide)⟩ (fun q => ?_) (fun q => ?_)
          · have h := h.2.1 q
            refine G_iload_n C dX12_twoOf_53 rfl ?_
            refine G_bipush C dX12_twoOf_54 bi_7 ?_
            refine G_icmp_ne (tgt := 70) C dX12_twoOf_56 (by decide) ⟨h.1, (by decide)⟩ (fun q => ?_) (fun q => ?_)
            · have h := h.2.1 q
              refine G_iload_n C dX12_twoOf_70 rfl ?_
              refine G_bipush C dX12_twoOf_71 bi_8 ?_
              refine G_icmp_ne (tgt := 87) C dX12_twoOf_73 (by decide) ⟨h.1, (by decide)⟩ (fun q => ?_) (fun q => ?_)
              · have h := h.2.1 q
                refine G_iload_n C dX12_twoOf_87 rfl ?_
                refine G_bipush C dX12_twoOf_88 bi_10 ?_
                refine G_icmp_ne (tgt := 99) C dX12_twoOf_90 (by decide) ⟨h.1, (by decide)⟩ (fun q => ?_) (fun q => ?_)
                · have h := h.2.1 q
                  refine G_iload_n C dX12_twoOf_99 rfl ?_
                  refine G_iload_n C dX12_twoOf_100 rfl ?_
                  refine G_iadd C dX12_twoOf_101 ?_
                  refine G_wr ?_
                  refine G_if_le (tgt := 109) C dX12_twoOf_102 (by decide) (oI_rg _) (fun q => ?_) (fun q => ?_)
                  · have h := h.1 q
                    refine G_iconst C dX12_twoOf_109 ?_
                    exact r _ _ _ _ dX12_twoOf_110 h
                  · have h := h.2 q
                    refine G_iconst C dX12_twoOf_105 ?_
                    refine G_goto (tgt := 110) C dX12_twoOf_106 (by decide) ?_
                    exact r _ _ _ _ dX12_twoOf_110 h
                · have h := h.2.2 q
                  refine G_iload_n C dX12_twoOf_93 rfl ?_
                  refine G_iload_n C dX12_twoOf_94 rfl ?_
                  refine G_imul C dX12_twoOf_95 ?_
                  refine G_wr ?_
                  refine G_goto (tgt := 110) C dX12_twoOf_96 (by decide) ?_
                  exact r _ _ _ _ dX12_twoOf_110 h
              · have h := h.2.2 q
                refine G_iload_n C dX12_twoOf_76 rfl ?_
                refine G_iload_n C dX12_twoOf_77 rfl ?_
                refine G_icmp_le (tgt := 85) C dX12_twoOf_78 (by decide) ⟨h.1.1, h.1.2⟩ (fun q => ?_) (fun q => ?_)
                · have h := h.2.1 q
                  refine G_iconst C dX12_twoOf_85 ?_
                  exact r _ _ _ _ dX12_twoOf_86 h
                · have h := h.2.2 q
                  refine G_iconst C dX12_twoOf_81 ?_
                  refine G_goto (tgt := 86) C dX12_twoOf_82 (by decide) ?_
                  exact r _ _ _ _ dX12_twoOf_86 h
            · have h := h.2.2 q
              refine G_iload_n C dX12_twoOf_59 rfl ?_
              refine G_iload_n C dX12_twoOf_60 rfl ?_
              refine G_icmp_ne (tgt := 68) C dX12_twoOf_61 (by decide) ⟨h.1.1, h.1.2⟩ (fun q => ?_) (fun q => ?_)
              · have h := h.2.1 q
                refine G_iconst C dX12_twoOf_68 ?_
                exact r _ _ _ _ dX12_twoOf_69 h
              · have h := h.2.2 q
                refine G_iconst C dX12_twoOf_64 ?_
                refine G_goto (tgt := 69) C dX12_twoOf_65 (by decide) ?_
                exact r _ _ _ _ dX12_twoOf_69 h
          · have h := h.2.2 q
            refine G_iload_n C dX12_twoOf_42 rfl ?_
            refine G_iload_n C dX12_twoOf_43 rfl ?_
            refine G_icmp_ge (tgt := 51) C dX12_twoOf_44 (by decide) ⟨h.1.1, h.1.2⟩ (fun q => ?_) (fun q => ?_)
            · have h := h.2.1 q
              refine G_iconst C dX12_twoOf_51 ?_
              exact r _ _ _ _ dX12_twoOf_52 h
            · have h := h.2.2 q
              refine G_iconst C dX12_twoOf_47 ?_
              refine G_goto (tgt := 52) C dX12_twoOf_48 (by decide) ?_
              exact r _ _ _ _ dX12_twoOf_52 h
        · have h := h.2.2 q
          refine G_iload_n C dX12_twoOf_32 rfl ?_
          refine G_iload_n C dX12_twoOf_33 rfl ?_
          refine G_idiv C dX12_twoOf_34 h.1 ?_
          have h := h.2
          exact r _ _ _ _ dX12_twoOf_35 h
      · have h := h.2.2 q
        refine G_iload_n C dX12_twoOf_23 rfl ?_
        refine G_iload_n C dX12_twoOf_24 rfl ?_
        refine G_imul C dX12_twoOf_25 ?_
        refine G_wr ?_
        exact r _ _ _ _ dX12_twoOf_26 h
    · have h := h.2.2 q
      refine G_iload_n C dX12_twoOf_14 rfl ?_
      refine G_iload_n C dX12_twoOf_15 rfl ?_
      refine G_isub C dX12_twoOf_16 ?_
      refine G_wr ?_
      exact r _ _ _ _ dX12_twoOf_17 h
  · have h := h.2.2 q
    refine G_iload_n C dX12_twoOf_5 rfl ?_
    refine G_iload_n C dX12_twoOf_6 rfl ?_
    refine G_iadd C dX12_twoOf_7 ?_
    refine G_wr ?_
    exact r _ _ _ _ dX12_twoOf_8 h
set_option maxRecDepth 20000 in
theorem kb_X12_kindOf_0 {X : Cx} {d : Nat} {P : Int → Sto → Prop} (C : Ok LY X RX12 cX12_kindOf 3 d) (r : RetI LY X cX12_kindOf P) {v1 : Int} {s : Sto} (h : (CallI LY d MX12_areLike [.inr 75, .inl v1, .inl (31 + v1)] s (fun r1 s1 => ((rg r1) ∧ ((r1 = 0 → G LY X 16 [rv 75, iv v1, iv 0] [] s1) ∧ (r1 ≠ 0 → P (-1) s1)))))) : G LY X 0 [rv 75, iv v1, none] [] s := by
  refine G_aload_n C dX12_kindOf_0 rfl ?_
  refine G_iload_n C dX12_kindOf_1 rfl ?_
  refine G_bipush C dX12_kindOf_2 bi_31 ?_
  refine G_iload_n C dX12_kindOf_4 rfl ?_
  refine G_iadd C dX12_kindOf_5 ?_
  refine G_callVI (K := []) (args := [.inl v1, .inl (31 + v1)]) (T := TX12) (N := 72) C ly_75 rfl (Nat.le_of_ble_eq_true rfl) mo_X12_areLike wc_X12_346 rfl dX12_kindOf_6 h (fun r1 s1 h => ?_)
  refine G_if_eq (tgt := 14) C dX12_kindOf_9 (by decide) h.1 (fun q => ?_) (fun q => ?_)
  · have h := h.2.1 q
    refine G_iconst C dX12_kindOf_14 ?_
    refine G_istore_n (L' := [rv 75, iv v1, iv 0]) C dX12_kindOf_15 (by decide) rfl ?_
    exact h
  · have h := h.2.2 q
    refine G_iconst C dX12_kindOf_12 ?_
    exact r _ _ _ _ dX12_kindOf_13 h
set_option maxRecDepth 20000 in
theorem kb_X12_kindOf_16 {X : Cx} {d : Nat} {P : Int → Sto → Prop} (C : Ok LY X RX12 cX12_kindOf 3 d) (r : RetI LY X cX12_kindOf P) {v1 v2 : Int} {s : Sto} (h : (CallI LY d MX12_areLike [.inr 75, .inl v1, .inl (20 + v2)] s (fun r1 s1 => ((rg r1) ∧ ((r1 ≠ 0 → P v2 s1) ∧ (r1 = 0 → G LY X 16 [rv 75, iv v1, iv (v2 + 1)] [] s1)))))) : G LY X 16 [rv 75, iv v1, iv v2] [] s := by
  refine G_aload_n C dX12_kindOf_16 rfl ?_
  refine G_iload_n C dX12_kindOf_17 rfl ?_
  refine G_bipush C dX12_kindOf_18 bi_20 ?_
  refine G_iload_n C dX12_kindOf_20 rfl ?_
  refine G_iadd C dX12_kindOf_21 ?_
  refine G_callVI (K := []) (args := [.inl v1, .inl (20 + v2)]) (T := TX12) (N := 72) C ly_75 rfl (Nat.le_of_ble_eq_true rfl) mo_X12_areLike wc_X12_346 rfl dX12_kindOf_22 h (fun r1 s1 h => ?_)
  refine G_if_ne (tgt := 35) C dX12_kindOf_25 (by decide) h.1 (fun q => ?_) (fun q => ?_)
  · have h := h.2.1 q
    refine G_iload_n C dX12_kindOf_35 rfl ?_
    exact r _ _ _ _ dX12_kindOf_36 h
  · have h := h.2.2 q
    refine G_iload_n C dX12_kindOf_28 rfl ?_
    refine G_iconst C dX12_kindOf_29 ?_
    refine G_iadd C dX12_kindOf_30 ?_
    refine G_istore_n (L' := [rv 75, iv v1, iv (v2 + 1)]) C dX12_kindOf_31 (by decide) rfl ?_
    refine G_goto (tgt := 16) C dX12_kindOf_32 (by decide) ?_
    exact h
set_option maxRecDepth 20000 in
theorem kb_X12_agreesWith_0 {X : Cx} {d : Nat} {P : Int → Sto → Prop} (C : Ok LY X RX12 cX12_agreesWith 5 d) (r : RetI LY X cX12_agreesWith P) {v1 v2 : Int} {s : Sto} (h : ((0 ≤ (xand v1 (xxor (xshl 1 v2) (-1))) ∧ (xand v1 (xxor (xshl 1 v2) (-1))) < 256) ∧ G LY X 16 [rv 75, iv v1, iv v2, iv (s 112 (xand v1 (xxor (xshl 1 v2) (-1)))), iv 0] [] s)) : G LY X 0 [rv 75, iv v1, iv v2, none, none] [] s := by
  refine G_aload_n C dX12_agreesWith_0 rfl ?_
  refine gR_X12_62 C ly_75 rfl wf_X12_125 dX12_agreesWith_1 ?_
  refine G_iload_n C dX12_agreesWith_4 rfl ?_
  refine G_iconst C dX12_agreesWith_5 ?_
  refine G_iload_n C dX12_agreesWith_6 rfl ?_
  refine G_ishl C dX12_agreesWith_7 ?_
  refine G_iconst C dX12_agreesWith_8 ?_
  refine G_ixor C dX12_agreesWith_9 ?_
  refine G_iand C dX12_agreesWith_10 ?_
  refine G_iald C ly_112 (by decide) h.1 dX12_agreesWith_11 ?_
  have h := h.2
  refine G_istore_n (L' := [rv 75, iv v1, iv v2, iv (s 112 (xand v1 (xxor (xshl 1 v2) (-1)))), none]) C dX12_agreesWith_12 (by decide) rfl ?_
  refine G_iconst C dX12_agreesWith_13 ?_
  refine G_istore (L' := [rv 75, iv v1, iv v2, iv (s 112 (xand v1 (xxor (xshl 1 v2) (-1)))), iv 0]) C dX12_agreesWith_14 (by decide) rfl ?_
  exact h
set_option maxRecDepth 20000 in
theorem kb_X12_agreesWith_16 {X : Cx} {d : Nat} {P : Int → Sto → Prop} (C : Ok LY X RX12 cX12_agreesWith 5 d) (r : RetI LY X cX12_agreesWith P) {v1 v2 v3 v4 : Int} {s : Sto} (h : ((rg v4 ∧ rg (s 75 9)) ∧ (((s 75 9) ≤ v4 → P v3 s) ∧ (v4 < (s 75 9) → ((rg v4 ∧ rg v2) ∧ ((v4 = v2 → G LY X 16 [rv 75, iv v1, iv v2, iv v3, iv (v4 + 1)] [] s) ∧ (v4 ≠ v2 → (((xand (xshr v1 v4) 1) ≠ 1 → G LY X 16 [rv 75, iv v1, iv v2, iv v3, iv (v4 + 1)] [] s) ∧ ((xand (xshr v1 v4) 1) = 1 → ((0 ≤ ((8 * v2) + v4) ∧ ((8 * v2) + v4) < 64) ∧ G LY X 16 [rv 75, iv v1, iv v2, iv (v3 + (s 110 ((8 * v2) + v4))), iv (v4 + 1)] [] s)))))))))) : G LY X 16 [rv 75, iv v1, iv v2, iv v3, iv v4] [] s := by
  refine G_iload C dX12_agreesWith_16 rfl ?_
  refine G_aload_n C dX12_agreesWith_18 rfl ?_
  refine gI_X12_9 C ly_75 rfl wf_X12_25 dX12_agreesWith_19 ?_
  refine G_icmp_ge (tgt := 62) C dX12_agreesWith_22 (by decide) ⟨h.1.1, h.1.2⟩ (fun q => ?_) (fun q => ?_)
  · have h := h.2.1 q
    refine G_iload_n C dX12_agreesWith_62 rfl ?_
    exact r _ _ _ _ dX12_agreesWith_63 h
  · have h := h.2.2 q
    refine G_iload C dX12_agreesWith_25 rfl ?_
    refine G_iload_n C dX12_agreesWith_27 rfl ?_
    refine G_icmp_eq (tgt := 56) C dX12_agreesWith_28 (by decide) ⟨h.1.1, h.1.2⟩ (fun q => ?_) (fun q => ?_)
    · have h := h.2.1 q
      refine G_iinc (L' := [rv 75, iv v1, iv v2, iv v3, iv (v4 + 1)]) C dX12_agreesWith_56 (by decide) rfl rfl ?_
      refine G_goto (tgt := 16) C dX12_agreesWith_59 (by decide) ?_
      exact h
    · have h := h.2.2 q
      refine G_iload_n C dX12_agreesWith_31 rfl ?_
      refine G_iload C dX12_agreesWith_32 rfl ?_
      refine G_ishr C dX12_agreesWith_34 ?_
      refine G_iconst C dX12_agreesWith_35 ?_
      refine G_iand C dX12_agreesWith_36 ?_
      refine G_iconst C dX12_agreesWith_37 ?_
      refine G_icmp_ne (tgt := 56) C dX12_agreesWith_38 (by decide) ⟨(oI_rg _), (by decide)⟩ (fun q => ?_) (fun q => ?_)
      · have h := h.1 q
        refine G_iinc (L' := [rv 75, iv v1, iv v2, iv v3, iv (v4 + 1)]) C dX12_agreesWith_56 (by decide) rfl rfl ?_
        refine G_goto (tgt := 16) C dX12_agreesWith_59 (by decide) ?_
        exact h
      · have h := h.2 q
        refine G_iload_n C dX12_agreesWith_41 rfl ?_
        refine G_aload_n C dX12_agreesWith_42 rfl ?_
        refine gR_X12_60 C ly_75 rfl wf_X12_119 dX12_agreesWith_43 ?_
        refine G_bipush C dX12_agreesWith_46 bi_8 ?_
        refine G_iload_n C dX12_agreesWith_48 rfl ?_
        refine G_imul C dX12_agreesWith_49 ?_
        refine G_iload C dX12_agreesWith_50 rfl ?_
        refine G_iadd C dX12_agreesWith_52 ?_
        refine G_iald C ly_110 (by decide) h.1 dX12_agreesWith_53 ?_
        have h := h.2
        refine G_iadd C dX12_agreesWith_54 ?_
        refine G_istore_n (L' := [rv 75, iv v1, iv v2, iv (v3 + (s 110 ((8 * v2) + v4))), iv v4]) C dX12_agreesWith_55 (by decide) rfl ?_
        refine G_iinc (L' := [rv 75, iv v1, iv v2, iv (v3 + (s 110 ((8 * v2) + v4))), iv (v4 + 1)]) C dX12_agreesWith_56 (by decide) rfl rfl ?_
        refine G_goto (tgt := 16) C dX12_agreesWith_59 (by decide) ?_
        exact h
set_option maxRecDepth 20000 in
theorem kb_X9_isLetter_0 {X : Cx} {d : Nat} {P : Int → Sto → Prop} (C : Ok LY X RX9 cX9_isLetter 1 d) (r : RetZ LY X cX9_isLetter P) {v0 : Int} {s : Sto} (h : (CallI LY d MX9_isSmallLetter [.inl v0] s (fun r1 s1 => ((rg r1) ∧ ((r1 ≠ 0 → P 1 s1) ∧ (r1 = 0 → ((rg v0) ∧ ((v0 < 65 → P 0 s1) ∧ (65 ≤ v0 → ((rg v0) ∧ ((90 < v0 → P 0 s1) ∧ (v0 ≤ 90 → P 1 s1)))))))))))) : G LY X 0 [iv v0] [] s := by
  refine G_iload_n C dX9_isLetter_0 rfl ?_
  refine G_callSI (K := []) (args := [.inl v0]) C (Nat.le_of_ble_eq_true rfl) mo_X9_isSmallLetter wc_X9_19 rfl dX9_isLetter_1 h (fun r1 s1 h => ?_)
  refine G_if_ne (tgt := 19) C dX9_isLetter_4 (by decide) h.1 (fun q => ?_) (fun q => ?_)
  · have h := h.2.1 q
    refine G_iconst C dX9_isLetter_19 ?_
    refine G_goto (tgt := 24) C dX9_isLetter_20 (by decide) ?_
    exact r _ _ _ _ dX9_isLetter_24 (by decide) h
  · have h := h.2.2 q
    refine G_iload_n C dX9_isLetter_7 rfl ?_
    refine G_bipush C dX9_isLetter_8 bi_65 ?_
    refine G_icmp_lt (tgt := 23) C dX9_isLetter_10 (by decide) ⟨h.1, (by decide)⟩ (fun q => ?_) (fun q => ?_)
    · have h := h.2.1 q
      refine G_iconst C dX9_isLetter_23 ?_
      exact r _ _ _ _ dX9_isLetter_24 (by decide) h
    · have h := h.2.2 q
      refine G_iload_n C dX9_isLetter_13 rfl ?_
      refine G_bipush C dX9_isLetter_14 bi_90 ?_
      refine G_icmp_gt (tgt := 23) C dX9_isLetter_16 (by decide) ⟨h.1, (by decide)⟩ (fun q => ?_) (fun q => ?_)
      · have h := h.2.1 q
        refine G_iconst C dX9_isLetter_23 ?_
        exact r _ _ _ _ dX9_isLetter_24 (by decide) h
      · have h := h.2.2 q
        refine G_iconst C dX9_isLetter_19 ?_
        refine G_goto (tgt := 24) C dX9_isLetter_20 (by decide) ?_
        exact r _ _ _ _ dX9_isLetter_24 (by decide) h
set_option maxRecDepth 20000 in
theorem kb_X9_isDigit_0 {X : Cx} {d : Nat} {P : Int → Sto → Prop} (C : Ok LY X RX9 cX9_isDigit 1 d) (r : RetZ LY X cX9_isDigit P) {v0 : Int} {s : Sto} (h : ((rg v0) ∧ ((v0 < 48 → P 0 s) ∧ (48 ≤ v0 → ((rg v0) ∧ ((57 < v0 → P 0 s) ∧ (v0 ≤ 57 → P 1 s))))))) : G LY X 0 [iv v0] [] s := by
  refine G_iload_n C dX9_isDigit_0 rfl ?_
  refine G_bipush C dX9_isDigit_1 bi_48 ?_
  refine G_icmp_lt (tgt := 16) C dX9_isDigit_3 (by decide) ⟨h.1, (by decide)⟩ (fun q => ?_) (fun q => ?_)
  · have h := h.2.1 q
    refine G_iconst C dX9_isDigit_16 ?_
    exact r _ _ _ _ dX9_isDigit_17 (by decide) h
  · have h := h.2.2 q
    refine G_iload_n C dX9_isDigit_6 rfl ?_
    refine G_bipush C dX9_isDigit_7 bi_57 ?_
    refine G_icmp_gt (tgt := 16) C dX9_isDigit_9 (by decide) ⟨h.1, (by decide)⟩ (fun q => ?_) (fun q => ?_)
    · have h := h.2.1 q
      refine G_iconst C dX9_isDigit_16 ?_
      exact r _ _ _ _ dX9_isDigit_17 (by decide) h
    · have h := h.2.2 q
      refine G_iconst C dX9_isDigit_12 ?_
      refine G_goto (tgt := 17) C dX9_isDigit_13 (by decide) ?_
      exact r _ _ _ _ dX9_isDigit_17 (by decide) h
set_option maxRecDepth 20000 in
theorem kb_X8_numberOf_0 {X : Cx} {d : Nat} {P : Int → Sto → Prop} (C : Ok LY X RX8 cX8_numberOf 5 d) (r : RetI LY X cX8_numberOf P) {v1 v2 : Int} {s : Sto} (h : ((rg (v2 - v1)) ∧ (((v2 - v1) ≤ 4 → G LY X 16 [rv 1, iv v1, iv v2, iv 0, iv v1] [] s) ∧ (4 < (v2 - v1) → P 10201 s)))) : G LY X 0 [rv 1, iv v1, iv v2, none, none] [] s := by
  refine G_iload_n C dX8_numberOf_0 rfl ?_
  refine G_iload_n C dX8_numberOf_1 rfl ?_
  refine G_isub C dX8_numberOf_2 ?_
  refine G_iconst C dX8_numberOf_3 ?_
  refine G_icmp_le (tgt := 11) C dX8_numberOf_4 (by decide) ⟨h.1, (by decide)⟩ (fun q => ?_) (fun q => ?_)
  · have h := h.2.1 q
    refine G_iconst C dX8_numberOf_11 ?_
    refine G_istore_n (L' := [rv 1, iv v1, iv v2, iv 0, none]) C dX8_numberOf_12 (by decide) rfl ?_
    refine G_iload_n C dX8_numberOf_13 rfl ?_
    refine G_istore (L' := [rv 1, iv v1, iv v2, iv 0, iv v1]) C dX8_numberOf_14 (by decide) rfl ?_
    exact h
  · have h := h.2.2 q
    refine G_sipush C dX8_numberOf_7 si_10201 ?_
    exact r _ _ _ _ dX8_numberOf_10 h
set_option maxRecDepth 20000 in
theorem kb_X8_numberOf_16 {X : Cx} {d : Nat} {P : Int → Sto → Prop} (C : Ok LY X RX8 cX8_numberOf 5 d) (r : RetI LY X cX8_numberOf P) {v1 v2 v3 v4 : Int} {s : Sto} (h : ((rg v4 ∧ rg v2) ∧ ((v2 ≤ v4 → P v3 s) ∧ (v4 < v2 → ((0 ≤ v4 ∧ v4 < 400) ∧ G LY X 16 [rv 1, iv v1, iv v2, iv (((10 * v3) + (s 2 v4)) - 48), iv (v4 + 1)] [] s))))) : G LY X 16 [rv 1, iv v1, iv v2, iv v3, iv v4] [] s := by
  refine G_iload C dX8_numberOf_16 rfl ?_
  refine G_iload_n C dX8_numberOf_18 rfl ?_
  refine G_icmp_ge (tgt := 44) C dX8_numberOf_19 (by decide) ⟨h.1.1, h.1.2⟩ (fun q => ?_) (fun q => ?_)
  · have h := h.2.1 q
    refine G_iload_n C dX8_numberOf_44 rfl ?_
    exact r _ _ _ _ dX8_numberOf_45 h
  · have h := h.2.2 q
    refine G_bipush C dX8_numberOf_22 bi_10 ?_
    refine G_iload_n C dX8_numberOf_24 rfl ?_
    refine G_imul C dX8_numberOf_25 ?_
    refine G_aload_n C dX8_numberOf_26 rfl ?_
    refine gR_X9_0 C ly_1 rfl wf_X8_55 dX8_numberOf_27 ?_
    refine G_iload C dX8_numberOf_30 rfl ?_
    refine G_iald C ly_2 (by decide) h.1 dX8_numberOf_32 ?_
    have h := h.2
    refine G_iadd C dX8_numberOf_33 ?_
    refine G_bipush C dX8_numberOf_34 bi_48 ?_
    refine G_isub C dX8_numberOf_36 ?_
    refine G_istore_n (L' := [rv 1, iv v1, iv v2, iv (((10 * v3) + (s 2 v4)) - 48), iv v4]) C dX8_numberOf_37 (by decide) rfl ?_
    refine G_iinc (L' := [rv 1, iv v1, iv v2, iv (((10 * v3) + (s 2 v4)) - 48), iv (v4 + 1)]) C dX8_numberOf_38 (by decide) rfl rfl ?_
    refine G_goto (tgt := 16) C dX8_numberOf_41 (by decide) ?_
    exact h
set_option maxRecDepth 20000 in
theorem kb_X8_wordOf_0 {X : Cx} {d : Nat} {P : Int → Sto → Prop} (C : Ok LY X RX8 cX8_wordOf 6 d) (r : RetI LY X cX8_wordOf P) {v1 v2 : Int} {s : Sto} (h : G LY X 10 [rv 1, iv v1, iv v2, iv 10000, iv 0, iv 0] [] s) : G LY X 0 [rv 1, iv v1, iv v2, none, none, none] [] s := by
  refine G_sipush C dX8_wordOf_0 si_10000 ?_
  refine G_istore_n (L' := [rv 1, iv v1, iv v2, iv 10000, none, none]) C dX8_wordOf_3 (by decide) rfl ?_
  refine G_iconst C dX8_wordOf_4 ?_
  refine G_istore (L' := [rv 1, iv v1, iv v2, iv 10000, iv 0, none]) C dX8_wordOf_5 (by decide) rfl ?_
  refine G_iconst C dX8_wordOf_7 ?_
  refine G_istore (L' := [rv 1, iv v1, iv v2, iv 10000, iv 0, iv 0]) C dX8_wordOf_8 (by decide) rfl ?_
  exact h
set_option maxRecDepth 20000 in
theorem kb_X8_wordOf_10 {X : Cx} {d : Nat} {P : Int → Sto → Prop} (C : Ok LY X RX8 cX8_wordOf 6 d) (r : RetI LY X cX8_wordOf P) {v1 v2 v3 v4 v5 : Int} {s : Sto} (h : (CallI LY d MJ0_length_8abf5 [.inr 504] s (fun r1 s1 => ((rg v5 ∧ rg r1) ∧ ((r1 ≤ v5 → P 10201 s1) ∧ (v5 < r1 → (CallI LY d MJ0_charAt_5068e [.inr 504, .inl v5] s1 (fun r2 s2 => ((rg r2) ∧ ((r2 ≠ 32 → G LY X 10 [rv 1, iv v1, iv v2, iv v3, iv v4, iv (v5 + 1)] [] s2) ∧ (r2 = 32 → ((rg (v5 - v4) ∧ rg (v2 - v1)) ∧ (((v5 - v4) ≠ (v2 - v1) → G LY X 10 [rv 1, iv v1, iv v2, iv (v3 + 1), iv (v5 + 1), iv (v5 + 1)] [] s2) ∧ ((v5 - v4) = (v2 - v1) → (CallI LY d MX8_isSame [.inr 1, .inl v1, .inl v4, .inl v5] s2 (fun r3 s3 => ((rg r3) ∧ ((r3 = 0 → G LY X 10 [rv 1, iv v1, iv v2, iv (v3 + 1), iv (v5 + 1), iv (v5 + 1)] [] s3) ∧ (r3 ≠ 0 → P v3 s3))))))))))))))))))) : G LY X 10 [rv 1, iv v1, iv v2, iv v3, iv v4, iv v5] [] s := by
  refine G_iload C dX8_wordOf_10 rfl ?_
  refine G_ldcS504 C dX8_wordOf_12 ?_
  refine G_callTI (K := [.inl v5]) (args := []) (q := 504) C (by decide) rfl (Nat.le_of_ble_eq_true rfl) mo_J0_length_8abf5 wc_X8_94 rfl dX8_wordOf_14 h (fun r1 s1 h => ?_)
  refine G_icmp_ge (tgt := 72) C dX8_wordOf_17 (by decide) ⟨h.1.1, h.1.2⟩ (fun q => ?_) (fun q => ?_)
  · have h := h.2.1 q
    refine G_sipush C dX8_wordOf_72 si_10201 ?_
    exact r _ _ _ _ dX8_wordOf_75 h
  · have h := h.2.2 q
    refine G_ldcS504 C dX8_wordOf_20 ?_
    refine G_iload C dX8_wordOf_22 rfl ?_
    refine G_callTI (K := []) (args := [.inl v5]) (q := 504) C (by decide) rfl (Nat.le_of_ble_eq_true rfl) mo_J0_charAt_5068e wc_X8_97 rfl dX8_wordOf_24 h (fun r2 s2 h => ?_)
    refine G_bipush C dX8_wordOf_27 bi_32 ?_
    refine G_icmp_ne (tgt := 66) C dX8_wordOf_29 (by decide) ⟨h.1, (by decide)⟩ (fun q => ?_) (fun q => ?_)
    · have h := h.2.1 q
      refine G_iinc (L' := [rv 1, iv v1, iv v2, iv v3, iv v4, iv (v5 + 1)]) C dX8_wordOf_66 (by decide) rfl rfl ?_
      refine G_goto (tgt := 10) C dX8_wordOf_69 (by decide) ?_
      exact h
    · have h := h.2.2 q
      refine G_iload C dX8_wordOf_32 rfl ?_
      refine G_iload C dX8_wordOf_34 rfl ?_
      refine G_isub C dX8_wordOf_36 ?_
      refine G_iload_n C dX8_wordOf_37 rfl ?_
      refine G_iload_n C dX8_wordOf_38 rfl ?_
      refine G_isub C dX8_wordOf_39 ?_
      refine G_icmp_ne (tgt := 57) C dX8_wordOf_40 (by decide) ⟨h.1.1, h.1.2⟩ (fun q => ?_) (fun q => ?_)
      · have h := h.2.1 q
        refine G_iinc (L' := [rv 1, iv v1, iv v2, iv (v3 + 1), iv v4, iv v5]) C dX8_wordOf_57 (by decide) rfl rfl ?_
        refine G_iload C dX8_wordOf_60 rfl ?_
        refine G_iconst C dX8_wordOf_62 ?_
        refine G_iadd C dX8_wordOf_63 ?_
        refine G_istore (L' := [rv 1, iv v1, iv v2, iv (v3 + 1), iv (v5 + 1), iv v5]) C dX8_wordOf_64 (by decide) rfl ?_
        refine G_iinc (L' := [rv 1, iv v1, iv v2, iv (v3 + 1), iv (v5 + 1), iv (v5 + 1)]) C dX8_wordOf_66 (by decide) rfl rfl ?_
        refine G_goto (tgt := 10) C dX8_wordOf_69 (by decide) ?_
        exact h
      · have h := h.2.2 q
        refine G_aload_n C dX8_wordOf_43 rfl ?_
        refine G_iload_n C dX8_wordOf_44 rfl ?_
        refine G_iload C dX8_wordOf_45 rfl ?_
        refine G_iload C dX8_wordOf_47 rfl ?_
        refine G_callSI (K := []) (args := [.inr 1, .inl v1, .inl v4, .inl v5]) C (Nat.le_of_ble_eq_true rfl) mo_X8_isSame wc_X8_101 rfl dX8_wordOf_49 h (fun r3 s3 h => ?_)
        refine G_if_eq (tgt := 57) C dX8_wordOf_52 (by decide) h.1 (fun q => ?_) (fun q => ?_)
        · have h := h.2.1 q
          refine G_iinc (L' := [rv 1, iv v1, iv v2, iv (v3 + 1), iv v4, iv v5]) C dX8_wordOf_57 (by decide) rfl rfl ?_
          refine G_iload C dX8_wordOf_60 rfl ?_
          refine G_iconst C dX8_wordOf_62 ?_
          refine G_iadd C dX8_wordOf_63 ?_
          refine G_istore (L' := [rv 1, iv v1, iv v2, iv (v3 + 1), iv (v5 + 1), iv v5]) C dX8_wordOf_64 (by decide) rfl ?_
          refine G_iinc (L' := [rv 1, iv v1, iv v2, iv (v3 + 1), iv (v5 + 1), iv (v5 + 1)]) C dX8_wordOf_66 (by decide) rfl rfl ?_
          refine G_goto (tgt := 10) C dX8_wordOf_69 (by decide) ?_
          exact h
        · have h := h.2.2 q
          refine G_iload_n C dX8_wordOf_55 rfl ?_
          exact r _ _ _ _ dX8_wordOf_56 h
set_option maxRecDepth 20000 in
theorem kb_X8_readClaim_0 {X : Cx} {d : Nat} {P : Int → Sto → Prop} (C : Ok LY X RX8 cX8_readClaim 5 d) (r : RetZ LY X cX8_readClaim P) {v1 : Int} {s : Sto} (h : ((0 ≤ (s 39 3) ∧ (s 39 3) < 401) ∧ ((rg (s 40 (s 39 3))) ∧ (((s 40 (s 39 3)) = 10005 → ((rg v1) ∧ ((v1 < 8 → (CallV LY d MX8_goOn [.inr 39] s (fun s1 => ((rg (s 40 (s 39 3))) ∧ (((s 40 (s 39 3)) ≠ 10005 → (CallI LY d MX8_readBracket [.inr 39, .inl (v1 + 1)] s1 (fun r2 s2 => ((r2 = 0 ∨ r2 = 1) ∧ P r2 s2)))) ∧ ((s 40 (s 39 3)) = 10005 → (CallI LY d MX8_readDenied [.inr 39, .inl (v1 + 1)] s1 (fun r3 s3 => ((r3 = 0 ∨ r3 = 1) ∧ P r3 s3))))))))) ∧ (8 ≤ v1 → (CallI LY d MX8_fail [.inr 39, .inl 3] s (fun r4 s4 => ((r4 = 0 ∨ r4 = 1) ∧ P r4 s4))))))) ∧ ((s 40 (s 39 3)) ≠ 10005 → ((rg (s 40 (s 39 3))) ∧ (((s 40 (s 39 3)) ≠ 10105 → (CallI LY d MX8_readSum [.inr 39] s (fun r5 s5 => ((rg r5) ∧ ((r5 ≠ 0 → ((0 ≤ (s5 39 3) ∧ (s5 39 3) < 401) ∧ ((rg (s5 40 (s5 39 3))) ∧ (((s5 40 (s5 39 3)) = 10107 → (CallV LY d MX8_goOn [.inr 39] s5 (fun s6 => (CallI LY d MX8_readSum [.inr 39] s6 (fun r7 s7 => (CallV LY d MX4_add [.inr 42, .inl (s5 40 (s5 39 3))] s7 (fun s8 => ((r7 = 0 ∨ r7 = 1) ∧ P r7 s8)))))))) ∧ ((s5 40 (s5 39 3)) ≠ 10107 → ((rg (s5 40 (s5 39 3))) ∧ (((s5 40 (s5 39 3)) = 10108 → (CallV LY d MX8_goOn [.inr 39] s5 (fun s9 => (CallI LY d MX8_readSum [.inr 39] s9 (fun r10 s10 => (CallV LY d MX4_add [.inr 42, .inl (s5 40 (s5 39 3))] s10 (fun s11 => ((r10 = 0 ∨ r10 = 1) ∧ P r10 s11)))))))) ∧ ((s5 40 (s5 39 3)) ≠ 10108 → ((rg (s5 40 (s5 39 3))) ∧ (((s5 40 (s5 39 3)) = 10109 → (CallV LY d MX8_goOn [.inr 39] s5 (fun s12 => (CallI LY d MX8_readSum [.inr 39] s12 (fun r13 s13 => (CallV LY d MX4_add [.inr 42, .inl (s5 40 (s5 39 3))] s13 (fun s14 => ((r13 = 0 ∨ r13 = 1) ∧ P r13 s14)))))))) ∧ ((s5 40 (s5 39 3)) ≠ 10109 → (CallI LY d MX8_fail [.inr 39, .inl 1] s5 (fun r15 s15 => ((r15 = 0 ∨ r15 = 1) ∧ P r15 s15)))))))))))))) ∧ (r5 = 0 → P 0 s5)))))) ∧ ((s 40 (s 39 3)) = 10105 → ((rg v1) ∧ ((v1 < 8 → (CallV LY d MX8_goOn [.inr 39] s (fun s16 => ((rg (s 40 (s 39 3))) ∧ (((s 40 (s 39 3)) ≠ 10005 → (CallI LY d MX8_readBracket [.inr 39, .inl (v1 + 1)] s16 (fun r17 s17 => ((r17 = 0 ∨ r17 = 1) ∧ P r17 s17)))) ∧ ((s 40 (s 39 3)) = 10005 → (CallI LY d MX8_readDenied [.inr 39, .inl (v1 + 1)] s16 (fun r18 s18 => ((r18 = 0 ∨ r18 = 1) ∧ P r18 s18))))))))) ∧ (8 ≤ v1 → (CallI LY d MX8_fail [.inr 39, .inl 3] s (fun r19 s19 => ((r19 = 0 ∨ r19 = 1) ∧ P r19 s19)))))))))))))) : G LY X 0 [rv 39, iv v1, none, none, none] [] s := by
  refine G_aload_n C dX8_readClaim_0 rfl ?_
  refine gR_X8_0 C ly_39 rfl wf_X8_9 dX8_readClaim_1 ?_
  refine G_aload_n C dX8_readClaim_4 rfl ?_
  refine gI_X8_3 C ly_39 rfl wf_X8_25 dX8_readClaim_5 ?_
  refine G_iald C ly_40 (by decide) h.1 dX8_readClaim_8 ?_
  have h := h.2
  refine G_istore_n (L' := [rv 39, iv v1, iv (s 40 (s 39 3)), none, none]) C dX8_readClaim_9 (by decide) rfl ?_
  refine G_iload_n C dX8_readClaim_10 rfl ?_
  refine G_sipush C dX8_readClaim_11 si_10005 ?_
  refine G_icmp_eq (tgt := 24) C dX8_readClaim_14 (by decide) ⟨h.1, (by decide)⟩ (fun q => ?_) (fun q => ?_)
  · have h := h.2.1 q
    refine G_iload_n C dX8_readClaim_24 rfl ?_
    refine G_bipush C dX8_readClaim_25 bi_8 ?_
    refine G_icmp_lt (tgt := 36) C dX8_readClaim_27 (by decide) ⟨h.1, (by decide)⟩ (fun q => ?_) (fun q => ?_)
    · have h := h.2.1 q
      refine G_aload_n C dX8_readClaim_36 rfl ?_
      refine G_callVV (K := []) (args := []) (T := TX8) (N := 6) C ly_39 rfl (Nat.le_of_ble_eq_true rfl) mo_X8_goOn wc_X8_111 rfl dX8_readClaim_37 h (fun s1 h => ?_)
      refine G_iload_n C dX8_readClaim_40 rfl ?_
      refine G_sipush C dX8_readClaim_41 si_10005 ?_
      refine G_icmp_ne (tgt := 57) C dX8_readClaim_44 (by decide) ⟨h.1, (by decide)⟩ (fun q => ?_) (fun q => ?_)
      · have h := h.2.1 q
        refine G_aload_n C dX8_readClaim_57 rfl ?_
        refine G_iload_n C dX8_readClaim_58 rfl ?_
        refine G_iconst C dX8_readClaim_59 ?_
        refine G_iadd C dX8_readClaim_60 ?_
        refine G_callVI (K := []) (args := [.inl (v1 + 1)]) (T := TX8) (N := 6) C ly_39 rfl (Nat.le_of_ble_eq_true rfl) mo_X8_readBracket wc_X8_130 rfl dX8_readClaim_61 h (fun r2 s2 h => ?_)
        exact r _ _ _ _ dX8_readClaim_64 h.1 h.2
      · have h := h.2.2 q
        refine G_aload_n C dX8_readClaim_47 rfl ?_
        refine G_iload_n C dX8_readClaim_48 rfl ?_
        refine G_iconst C dX8_readClaim_49 ?_
        refine G_iadd C dX8_readClaim_50 ?_
        refine G_callVI (K := []) (args := [.inl (v1 + 1)]) (T := TX8) (N := 6) C ly_39 rfl (Nat.le_of_ble_eq_true rfl) mo_X8_readDenied wc_X8_127 rfl dX8_readClaim_51 h (fun r3 s3 h => ?_)
        refine G_goto (tgt := 64) C dX8_readClaim_54 (by decide) ?_
        exact r _ _ _ _ dX8_readClaim_64 h.1 h.2
    · have h := h.2.2 q
      refine G_aload_n C dX8_readClaim_30 rfl ?_
      refine G_iconst C dX8_readClaim_31 ?_
      refine G_callVI (K := []) (args := [.inl 3]) (T := TX8) (N := 6) C ly_39 rfl (Nat.le_of_ble_eq_true rfl) mo_X8_fail wc_X8_105 rfl dX8_readClaim_32 h (fun r4 s4 h => ?_)
      exact r _ _ _ _ dX8_readClaim_35 h.1 h.2
  · have h := h.2.2 q
    refine G_iload_n C dX8_readClaim_17 rfl ?_
    refine G_sipush C dX8_readClaim_18 si_10105 ?_
    refine G_icmp_ne (tgt := 65) C dX8_readClaim_21 (by decide) ⟨h.1, (by decide)⟩ (fun q => ?_) (fun q => ?_)
    · have h := h.2.1 q
      refine G_aload_n C dX8_readClaim_65 rfl ?_
      refine G_callVI (K := []) (args := []) (T := TX8) (N := 6) C ly_39 rfl (Nat.le_of_ble_eq_true rfl) mo_X8_readSum wc_X8_133 rfl dX8_readClaim_66 h (fun r5 s5 h => ?_)
      refine G_if_ne (tgt := 74) C dX8_readClaim_69 (by decide) h.1 (fun q => ?_) (fun q => ?_)
      · have h := h.2.1 q
        refine G_aload_n C dX8_readClaim_74 rfl ?_
        refine gR_X8_0 C ly_39 rfl wf_X8_9 dX8_readClaim_75 ?_
        refine G_aload_n C dX8_readClaim_78 rfl ?_
        refine gI_X8_3 C ly_39 rfl wf_X8_25 dX8_readClaim_79 ?_
        refine G_iald C ly_40 (by decide) h.1 dX8_readClaim_82 ?_
        have h := h.2
        refine G_istore_n (L' := [rv 39, iv v1, iv (s 40 (s 39 3)), iv (s5 40 (s5 39 3)), none]) C dX8_readClaim_83 (by decide) rfl ?_
        refine G_iload_n C dX8_readClaim_84 rfl ?_
        refine G_sipush C dX8_readClaim_85 si_10107 ?_
        refine G_icmp_eq (tgt := 111) C dX8_readClaim_88 (by decide) ⟨h.1, (by decide)⟩ (fun q => ?_) (fun q => ?_)
        · have h := h.2.1 q
          refine G_aload_n C dX8_readClaim_111 rfl ?_
          refine G_callVV (K := []) (args := []) (T := TX8) (N := 6) C ly_39 rfl (Nat.le_of_ble_eq_true rfl) mo_X8_goOn wc_X8_111 rfl dX8_readClaim_112 h (fun s6 h => ?_)
          refine G_aload_n C dX8_readClaim_115 rfl ?_
          refine G_callVI (K := []) (args := []) (T := TX8) (N := 6) C ly_39 rfl (Nat.le_of_ble_eq_true rfl) mo_X8_readSum wc_X8_133 rfl dX8_readClaim_116 h (fun r7 s7 h => ?_)
          refine G_istore (L' := [rv 39, iv v1, iv (s 40 (s 39 3)), iv (s5 40 (s5 39 3)), iv r7]) C dX8_readClaim_119 (by decide) rfl ?_
          refine G_aload_n C dX8_readClaim_121 rfl ?_
          refine gR_X8_2 C ly_39 rfl wf_X8_21 dX8_readClaim_122 ?_
          refine G_iload_n C dX8_readClaim_125 rfl ?_
          refine G_callVV (K := []) (args := [.inl (s5 40 (s5 39 3))]) (T := TX4) (N := 5) C ly_42 rfl (Nat.le_of_ble_eq_true rfl) mo_X4_add wc_X8_124 rfl dX8_readClaim_126 h (fun s8 h => ?_)
          refine G_iload C dX8_readClaim_129 rfl ?_
          exact r _ _ _ _ dX8_readClaim_131 h.1 h.2
        · have h := h.2.2 q
          refine G_iload_n C dX8_readClaim_91 rfl ?_
          refine G_sipush C dX8_readClaim_92 si_10108 ?_
          refine G_icmp_eq (tgt := 111) C dX8_readClaim_95 (by decide) ⟨h.1, (by decide)⟩ (fun q => ?_) (fun q => ?_)
          · have h := h.2.1 q
            refine G_aload_n C dX8_readClaim_111 rfl ?_
            refine G_callVV (K := []) (args := []) (T := TX8) (N := 6) C ly_39 rfl (Nat.le_of_ble_eq_true rfl) mo_X8_goOn wc_X8_111 rfl dX8_readClaim_112 h (fun s9 h => ?_)
            refine G_aload_n C dX8_readClaim_115 rfl ?_
            refine G_callVI (K := []) (args := []) (T := TX8) (N := 6) C ly_39 rfl (Nat.le_of_ble_eq_true rfl) mo_X8_readSum wc_X8_133 rfl dX8_readClaim_116 h (fun r10 s10 h => ?_)
            refine G_istore (L' := [rv 39, iv v1, iv (s 40 (s 39 3)), iv (s5 40 (s5 39 3)), iv r10]) C dX8_readClaim_119 (by decide) rfl ?_
            refine G_aload_n C dX8_readClaim_121 rfl ?_
            refine gR_X8_2 C ly_39 rfl wf_X8_21 dX8_readClaim_122 ?_
            refine G_iload_n C dX8_readClaim_125 rfl ?_
            refine G_callVV (K := []) (args := [.inl (s5 40 (s5 39 3))]) (T := TX4) (N := 5) C ly_42 rfl (Nat.le_of_ble_eq_true rfl) mo_X4_add wc_X8_124 rfl dX8_readClaim_126 h (fun s11 h => ?_)
            refine G_iload C dX8_readClaim_129 rfl ?_
            exact r _ _ _ _ dX8_readClaim_131 h.1 h.2
          · have h := h.2.2 q
            refine G_iload_n C dX8_readClaim_98 rfl ?_
            refine G_sipush C dX8_readClaim_99 si_10109 ?_
            refine G_icmp_eq (tgt := 111) C dX8_readClaim_102 (by decide) ⟨h.1, (by decide)⟩ (fun q => ?_) (fun q => ?_)
            · have h := h.2.1 q
              refine G_aload_n C dX8_readClaim_111 rfl ?_
              refine G_callVV (K := []) (args := []) (T := TX8) (N := 6) C ly_39 rfl (Nat.le_of_ble_eq_true rfl) mo_X8_goOn wc_X8_111 rfl dX8_readClaim_112 h (fun s12 h => ?_)
              refine G_aload_n C dX8_readClaim_115 rfl ?_
              refine G_callVI (K := []) (args := []) (T := TX8) (N := 6) C ly_39 rfl (Nat.le_of_ble_eq_true rfl) mo_X8_readSum wc_X8_133 rfl dX8_readClaim_116 h (fun r13 s13 h => ?_)
              refine G_istore (L' := [rv 39, iv v1, iv (s 40 (s 39 3)), iv (s5 40 (s5 39 3)), iv r13]) C dX8_readClaim_119 (by decide) rfl ?_
              refine G_aload_n C dX8_readClaim_121 rfl ?_
              refine gR_X8_2 C ly_39 rfl wf_X8_21 dX8_readClaim_122 ?_
              refine G_iload_n C dX8_readClaim_125 rfl ?_
              refine G_callVV (K := []) (args := [.inl (s5 40 (s5 39 3))]) (T := TX4) (N := 5) C ly_42 rfl (Nat.le_of_ble_eq_true rfl) mo_X4_add wc_X8_124 rfl dX8_readClaim_126 h (fun s14 h => ?_)
              refine G_iload C dX8_readClaim_129 rfl ?_
              exact r _ _ _ _ dX8_readClaim_131 h.1 h.2
            · have h := h.2.2 q
              refine G_aload_n C dX8_readClaim_105 rfl ?_
              refine G_iconst C dX8_readClaim_106 ?_
              refine G_callVI (K := []) (args := [.inl 1]) (T := TX8) (N := 6) C ly_39 rfl (Nat.le_of_ble_eq_true rfl) mo_X8_fail wc_X8_105 rfl dX8_readClaim_107 h (fun r15 s15 h => ?_)
              exact r _ _ _ _ dX8_readClaim_110 h.1 h.2
      · have h := h.2.2 q
        refine G_iconst C dX8_readClaim_72 ?_
        exact r _ _ _ _ dX8_readClaim_73 (by decide) h
    · have h := h.2.2 q
      refine G_iload_n C dX8_readClaim_24 rfl ?_
      refine G_bipush C dX8_readClaim_25 bi_8 ?_
      refine G_icmp_lt (tgt := 36) C dX8_readClaim_27 (by decide) ⟨h.1, (by decide)⟩ (fun q => ?_) (fun q => ?_)
      · have h := h.2.1 q
        refine G_aload_n C dX8_readClaim_36 rfl ?_
        refine G_callVV (K := []) (args := []) (T := TX8) (N := 6) C ly_39 rfl (Nat.le_of_ble_eq_true rfl) mo_X8_goOn wc_X8_111 rfl dX8_readClaim_37 h (fun s16 h => ?_)
        refine G_iload_n C dX8_readClaim_40 rfl ?_
        refine G_sipush C dX8_readClaim_41 si_10005 ?_
        refine G_icmp_ne (tgt := 57) C dX8_readClaim_44 (by decide) ⟨h.1, (by decide)⟩ (fun q => ?_) (fun q => ?_)
        · have h := h.2.1 q
          refine G_aload_n C dX8_readClaim_57 rfl ?_
          refine G_iload_n C dX8_readClaim_58 rfl ?_
          refine G_iconst C dX8_readClaim_59 ?_
          refine G_iadd C dX8_readClaim_60 ?_
          refine G_callVI (K := []) (args := [.inl (v1 + 1)]) (T := TX8) (N := 6) C ly_39 rfl (Nat.le_of_ble_eq_true rfl) mo_X8_readBracket wc_X8_130 rfl dX8_readClaim_61 h (fun r17 s17 h => ?_)
          exact r _ _ _ _ dX8_readClaim_64 h.1 h.2
        · have h := h.2.2 q
          refine G_aload_n C dX8_readClaim_47 rfl ?_
          refine G_iload_n C dX8_readClaim_48 rfl ?_
          refine G_iconst C dX8_readClaim_49 ?_
          refine G_iadd C dX8_readClaim_50 ?_
          refine G_callVI (K := []) (args := [.inl (v1 + 1)]) (T := TX8) (N := 6) C ly_39 rfl (Nat.le_of_ble_eq_true rfl) mo_X8_readDenied wc_X8_127 rfl dX8_readClaim_51 h (fun r18 s18 h => ?_)
          refine G_goto (tgt := 64) C dX8_readClaim_54 (by decide) ?_
          exact r _ _ _ _ dX8_readClaim_64 h.1 h.2
      · have h := h.2.2 q
        refine G_aload_n C dX8_readClaim_30 rfl ?_
        refine G_iconst C dX8_readClaim_31 ?_
        refine G_callVI (K := []) (args := [.inl 3]) (T := TX8) (N := 6) C ly_39 rfl (Nat.le_of_ble_eq_true rfl) mo_X8_fail wc_X8_105 rfl dX8_readClaim_32 h (fun r19 s19 h => ?_)
        exact r _ _ _ _ dX8_readClaim_35 h.1 h.2
set_option maxRecDepth 20000 in
theorem kb_X4_add_0 {X : Cx} {d : Nat} {P : Sto → Prop} (C : Ok LY X RX4 cX4_add 2 d) (r : RetV LY X cX4_add P) {v1 : Int} {s : Sto} (h : ((rg v1) ∧ ((v1 = (-1) → P s) ∧ (v1 ≠ (-1) → ((rg (s 42 1)) ∧ ((400 ≤ (s 42 1) → P s) ∧ ((s 42 1) < 400 → ((0 ≤ (s 42 1) ∧ (s 42 1) < 400) ∧ (∀ s1 : Sto, s1 = up s 45 (s 42 1) v1 → (∀ s2 : Sto, s2 = up s1 42 1 ((s1 42 1) + 1) → P s2)))))))))) : G LY X 0 [rv 42, iv v1] [] s := by
  refine G_iload_n C dX4_add_0 rfl ?_
  refine G_iconst C dX4_add_1 ?_
  refine G_icmp_eq (tgt := 35) C dX4_add_2 (by decide) ⟨h.1, (by decide)⟩ (fun q => ?_) (fun q => ?_)
  · have h := h.2.1 q
    exact r _ _ _ dX4_add_35 h
  · have h := h.2.2 q
    refine G_aload_n C dX4_add_5 rfl ?_
    refine gI_X4_1 C ly_42 rfl wf_X4_15 dX4_add_6 ?_
    refine G_sipush C dX4_add_9 si_400 ?_
    refine G_icmp_ge (tgt := 35) C dX4_add_12 (by decide) ⟨h.1, (by decide)⟩ (fun q => ?_) (fun q => ?_)
    · have h := h.2.1 q
      exact r _ _ _ dX4_add_35 h
    · have h := h.2.2 q
      refine G_aload_n C dX4_add_15 rfl ?_
      refine gR_X4_4 C ly_42 rfl wf_X4_25 dX4_add_16 ?_
      refine G_aload_n C dX4_add_19 rfl ?_
      refine gI_X4_1 C ly_42 rfl wf_X4_15 dX4_add_20 ?_
      refine G_iload_n C dX4_add_23 rfl ?_
      refine G_iast C ly_45 (by decide) h.1 dX4_add_24 ?_
      have h := h.2
      have h := h _ rfl
      obtain ⟨s1, e1⟩ : ∃ z, z = up s 45 (s 42 1) v1 := ⟨_, rfl⟩
      rw [← e1] at h ⊢
      refine G_aload_n C dX4_add_25 rfl ?_
      refine G_dup C dX4_add_26 ?_
      refine gI_X4_1 C ly_42 rfl wf_X4_15 dX4_add_27 ?_
      refine G_iconst C dX4_add_30 ?_
      refine G_iadd C dX4_add_31 ?_
      refine gP_X4_1 C ly_42 rfl wf_X4_15 dX4_add_32 ?_
      have h := h _ rfl
      obtain ⟨s2, e2⟩ : ∃ z, z = up s1 42 1 ((s1 42 1) + 1) := ⟨_, rfl⟩
      rw [← e2] at h ⊢
      exact r _ _ _ dX4_add_35 h
set_option maxRecDepth 20000 in
theorem kb_X12_emits_0 {X : Cx} {d : Nat} {P : Sto → Prop} (C : Ok LY X RX12 cX12_emits 3 d) (r : RetV LY X cX12_emits P) {v1 v2 : Int} {s : Sto} (h : ((0 ≤ (400 + (s 75 36)) ∧ (400 + (s 75 36)) < 800) ∧ (∀ s1 : Sto, s1 = up s 96 (400 + (s 75 36)) v1 → ((0 ≤ (400 + (s1 75 36)) ∧ (400 + (s1 75 36)) < 800) ∧ (∀ s2 : Sto, s2 = up s1 97 (400 + (s1 75 36)) v2 → (∀ s3 : Sto, s3 = up s2 75 36 ((s2 75 36) + 1) → P s3)))))) : G LY X 0 [rv 75, iv v1, iv v2] [] s := by
  refine G_aload_n C dX12_emits_0 rfl ?_
  refine gR_X12_34 C ly_75 rfl wf_X12_74 dX12_emits_1 ?_
  refine G_sipush C dX12_emits_4 si_400 ?_
  refine G_aload_n C dX12_emits_7 rfl ?_
  refine gI_X12_36 C ly_75 rfl wf_X12_246 dX12_emits_8 ?_
  refine G_iadd C dX12_emits_11 ?_
  refine G_iload_n C dX12_emits_12 rfl ?_
  refine G_iast C ly_96 (by decide) h.1 dX12_emits_13 ?_
  have h := h.2
  have h := h _ rfl
  obtain ⟨s1, e1⟩ : ∃ z, z = up s 96 (400 + (s 75 36)) v1 := ⟨_, rfl⟩
  rw [← e1] at h ⊢
  refine G_aload_n C dX12_emits_14 rfl ?_
  refine gR_X12_35 C ly_75 rfl wf_X12_77 dX12_emits_15 ?_
  refine G_sipush C dX12_emits_18 si_400 ?_
  refine G_aload_n C dX12_emits_21 rfl ?_
  refine gI_X12_36 C ly_75 rfl wf_X12_246 dX12_emits_22 ?_
  refine G_iadd C dX12_emits_25 ?_
  refine G_iload_n C dX12_emits_26 rfl ?_
  refine G_iast C ly_97 (by decide) h.1 dX12_emits_27 ?_
  have h := h.2
  have h := h _ rfl
  obtain ⟨s2, e2⟩ : ∃ z, z = up s1 97 (400 + (s1 75 36)) v2 := ⟨_, rfl⟩
  rw [← e2] at h ⊢
  refine G_aload_n C dX12_emits_28 rfl ?_
  refine G_aload_n C dX12_emits_29 rfl ?_
  refine gI_X12_36 C ly_75 rfl wf_X12_246 dX12_emits_30 ?_
  refine G_iconst C dX12_emits_33 ?_
  refine G_iadd C dX12_emits_34 ?_
  refine gP_X12_36 C ly_75 rfl wf_X12_246 dX12_emits_35 ?_
  have h := h _ rfl
  obtain ⟨s3, e3⟩ : ∃ z, z = up s2 75 36 ((s2 75 36) + 1) := ⟨_, rfl⟩
  rw [← e3] at h ⊢
  exact r _ _ _ dX12_emits_38 h
set_option maxRecDepth 20000 in
theorem kb_X12_readSum_0 {X : Cx} {d : Nat} {P : Int → Sto → Prop} (C : Ok LY X RX12 cX12_readSum 2 d) (r : RetI LY X cX12_readSum P) {s : Sto} (h : (CallI LY d MX12_readProduct [.inr 75] s (fun r1 s1 => ((rg r1) ∧ ((r1 ≠ (-1) → G LY X 10 [rv 75, none] [] s1) ∧ (r1 = (-1) → P (-1) s1)))))) : G LY X 0 [rv 75, none] [] s := by
  refine G_aload_n C dX12_readSum_0 rfl ?_
  refine G_callVI (K := []) (args := []) (T := TX12) (N := 72) C ly_75 rfl (Nat.le_of_ble_eq_true rfl) mo_X12_readProduct wc_X12_265 rfl dX12_readSum_1 h (fun r1 s1 h => ?_)
  refine G_iconst C dX12_readSum_4 ?_
  refine G_icmp_ne (tgt := 10) C dX12_readSum_5 (by decide) ⟨h.1, (by decide)⟩ (fun q => ?_) (fun q => ?_)
  · have h := h.2.1 q
    exact h
  · have h := h.2.2 q
    refine G_iconst C dX12_readSum_8 ?_
    exact r _ _ _ _ dX12_readSum_9 h
set_option maxRecDepth 20000 in
theorem kb_X12_readSum_10 {X : Cx} {d : Nat} {P : Int → Sto → Prop} (C : Ok LY X RX12 cX12_readSum 2 d) (r : RetI LY X cX12_readSum P) {s : Sto} (h : (CallI LY d MX12_isSign [.inr 75, .inl 43] s (fun r1 s1 => ((rg r1) ∧ ((r1 ≠ 0 → ((rg (s1 75 28)) ∧ (((s1 75 28) ≠ 43 → (CallV LY d MX12_reads [.inr 75] s1 (fun s2 => (CallI LY d MX12_readProduct [.inr 75] s2 (fun r3 s3 => ((rg r3) ∧ ((r3 ≠ (-1) → (CallV LY d MX12_emits [.inr 75, .inl 3, .inl 0] s3 (fun s4 => G LY X 10 [rv 75, none] [] s4))) ∧ (r3 = (-1) → P (-1) s3)))))))) ∧ ((s1 75 28) = 43 → (CallV LY d MX12_reads [.inr 75] s1 (fun s5 => (CallI LY d MX12_readProduct [.inr 75] s5 (fun r6 s6 => ((rg r6) ∧ ((r6 ≠ (-1) → (CallV LY d MX12_emits [.inr 75, .inl 2, .inl 0] s6 (fun s7 => G LY X 10 [rv 75, none] [] s7))) ∧ (r6 = (-1) → P (-1) s6))))))))))) ∧ (r1 = 0 → (CallI LY d MX12_isSign [.inr 75, .inl 45] s1 (fun r8 s8 => ((rg r8) ∧ ((r8 = 0 → P 0 s8) ∧ (r8 ≠ 0 → ((rg (s8 75 28)) ∧ (((s8 75 28) ≠ 43 → (CallV LY d MX12_reads [.inr 75] s8 (fun s9 => (CallI LY d MX12_readProduct [.inr 75] s9 (fun r10 s10 => ((rg r10) ∧ ((r10 ≠ (-1) → (CallV LY d MX12_emits [.inr 75, .inl 3, .inl 0] s10 (fun s11 => G LY X 10 [rv 75, none] [] s11))) ∧ (r10 = (-1) → P (-1) s10)))))))) ∧ ((s8 75 28) = 43 → (CallV LY d MX12_reads [.inr 75] s8 (fun s12 => (CallI LY d MX12_readProduct [.inr 75] s12 (fun r13 s13 => ((rg r13) ∧ ((r13 ≠ (-1) → (CallV LY d MX12_emits [.inr 75, .inl 2, .inl 0] s13 (fun s14 => G LY X 10 [rv 75, none] [] s14))) ∧ (r13 = (-1) → P (-1) s13))))))))))))))))))))) : G LY X 10 [rv 75, none] [] s := by
  refine G_aload_n C dX12_readSum_10 rfl ?_
  refine G_bipush C dX12_readSum_11 bi_43 ?_
  refine G_callVI (K := []) (args := [.inl 43]) (T := TX12) (N := 72) C ly_75 rfl (Nat.le_of_ble_eq_true rfl) mo_X12_isSign wc_X12_262 rfl dX12_readSum_13 h (fun r1 s1 h => ?_)
  refine G_if_ne (tgt := 28) C dX12_readSum_16 (by decide) h.1 (fun q => ?_) (fun q => ?_)
  · have h := h.2.1 q
    refine G_aload_n C dX12_readSum_28 rfl ?_
    refine gI_X12_28 C ly_75 rfl wf_X12_224 dX12_readSum_29 ?_
    refine G_bipush C dX12_readSum_32 bi_43 ?_
    refine G_icmp_ne (tgt := 41) C dX12_readSum_34 (by decide) ⟨h.1, (by decide)⟩ (fun q => ?_) (fun q => ?_)
    · have h := h.2.1 q
      refine G_iconst C dX12_readSum_41 ?_
      refine G_istore_n (L' := [rv 75, iv 3]) C dX12_readSum_42 (by decide) rfl ?_
      refine G_aload_n C dX12_readSum_43 rfl ?_
      refine G_callVV (K := []) (args := []) (T := TX12) (N := 72) C ly_75 rfl (Nat.le_of_ble_eq_true rfl) mo_X12_reads wc_X12_255 rfl dX12_readSum_44 h (fun s2 h => ?_)
      refine G_aload_n C dX12_readSum_47 rfl ?_
      refine G_callVI (K := []) (args := []) (T := TX12) (N := 72) C ly_75 rfl (Nat.le_of_ble_eq_true rfl) mo_X12_readProduct wc_X12_265 rfl dX12_readSum_48 h (fun r3 s3 h => ?_)
      refine G_iconst C dX12_readSum_51 ?_
      refine G_icmp_ne (tgt := 57) C dX12_readSum_52 (by decide) ⟨h.1, (by decide)⟩ (fun q => ?_) (fun q => ?_)
      · have h := h.2.1 q
        refine G_aload_n C dX12_readSum_57 rfl ?_
        refine G_iload_n C dX12_readSum_58 rfl ?_
        refine G_iconst C dX12_readSum_59 ?_
        refine G_callVV (K := []) (args := [.inl 3, .inl 0]) (T := TX12) (N := 72) C ly_75 rfl (Nat.le_of_ble_eq_true rfl) mo_X12_emits wc_X12_252 rfl dX12_readSum_60 h (fun s4 h => ?_)
        refine G_goto (tgt := 10) C dX12_readSum_63 (by decide) ?_
        refine G_drop (i := 1) (L' := [rv 75, none]) rfl ?_
        exact h
      · have h := h.2.2 q
        refine G_iconst C dX12_readSum_55 ?_
        exact r _ _ _ _ dX12_readSum_56 h
    · have h := h.2.2 q
      refine G_iconst C dX12_readSum_37 ?_
      refine G_goto (tgt := 42) C dX12_readSum_38 (by decide) ?_
      refine G_istore_n (L' := [rv 75, iv 2]) C dX12_readSum_42 (by decide) rfl ?_
      refine G_aload_n C dX12_readSum_43 rfl ?_
      refine G_callVV (K := []) (args := []) (T := TX12) (N := 72) C ly_75 rfl (Nat.le_of_ble_eq_true rfl) mo_X12_reads wc_X12_255 rfl dX12_readSum_44 h (fun s5 h => ?_)
      refine G_aload_n C dX12_readSum_47 rfl ?_
      refine G_callVI (K := []) (args := []) (T := TX12) (N := 72) C ly_75 rfl (Nat.le_of_ble_eq_true rfl) mo_X12_readProduct wc_X12_265 rfl dX12_readSum_48 h (fun r6 s6 h => ?_)
      refine G_iconst C dX12_readSum_51 ?_
      refine G_icmp_ne (tgt := 57) C dX12_readSum_52 (by decide) ⟨h.1, (by decide)⟩ (fun q => ?_) (fun q => ?_)
      · have h := h.2.1 q
        refine G_aload_n C dX12_readSum_57 rfl ?_
        refine G_iload_n C dX12_readSum_58 rfl ?_
        refine G_iconst C dX12_readSum_59 ?_
        refine G_callVV (K := []) (args := [.inl 2, .inl 0]) (T := TX12) (N := 72) C ly_75 rfl (Nat.le_of_ble_eq_true rfl) mo_X12_emits wc_X12_252 rfl dX12_readSum_60 h (fun s7 h => ?_)
        refine G_goto (tgt := 10) C dX12_readSum_63 (by decide) ?_
        refine G_drop (i := 1) (L' := [rv 75, none]) rfl ?_
        exact h
      · have h := h.2.2 q
        refine G_iconst C dX12_readSum_55 ?_
        exact r _ _ _ _ dX12_readSum_56 h
  · have h := h.2.2 q
    refine G_aload_n C dX12_readSum_19 rfl ?_
    refine G_bipush C dX12_readSum_20 bi_45 ?_
    refine G_callVI (K := []) (args := [.inl 45]) (T := TX12) (N := 72) C ly_75 rfl (Nat.le_of_ble_eq_true rfl) mo_X12_isSign wc_X12_262 rfl dX12_readSum_22 h (fun r8 s8 h => ?_)
    refine G_if_eq (tgt := 66) C dX12_readSum_25 (by decide) h.1 (fun q => ?_) (fun q => ?_)
    · have h := h.2.1 q
      refine G_iconst C dX12_readSum_66 ?_
      exact r _ _ _ _ dX12_readSum_67 h
    · have h := h.2.2 q
      refine G_aload_n C dX12_readSum_28 rfl ?_
      refine gI_X12_28 C ly_75 rfl wf_X12_224 dX12_readSum_29 ?_
      refine G_bipush C dX12_readSum_32 bi_43 ?_
      refine G_icmp_ne (tgt := 41) C dX12_readSum_34 (by decide) ⟨h.1, (by decide)⟩ (fun q => ?_) (fun q => ?_)
      · have h := h.2.1 q
        refine G_iconst C dX12_readSum_41 ?_
        refine G_istore_n (L' := [rv 75, iv 3]) C dX12_readSum_42 (by decide) rfl ?_
        refine G_aload_n C dX12_readSum_43 rfl ?_
        refine G_callVV (K := []) (args := []) (T := TX12) (N := 72) C ly_75 rfl (Nat.le_of_ble_eq_true rfl) mo_X12_reads wc_X12_255 rfl dX12_readSum_44 h (fun s9 h => ?_)
        refine G_aload_n C dX12_readSum_47 rfl ?_
        refine G_callVI (K := []) (args := []) (T := TX12) (N := 72) C ly_75 rfl (Nat.le_of_ble_eq_true rfl) mo_X12_readProduct wc_X12_265 rfl dX12_readSum_48 h (fun r10 s10 h => ?_)
        refine G_iconst C dX12_readSum_51 ?_
        refine G_icmp_ne (tgt := 57) C dX12_readSum_52 (by decide) ⟨h.1, (by decide)⟩ (fun q => ?_) (fun q => ?_)
        · have h := h.2.1 q
          refine G_aload_n C dX12_readSum_57 rfl ?_
          refine G_iload_n C dX12_readSum_58 rfl ?_
          refine G_iconst C dX12_readSum_59 ?_
          refine G_callVV (K := []) (args := [.inl 3, .inl 0]) (T := TX12) (N := 72) C ly_75 rfl (Nat.le_of_ble_eq_true rfl) mo_X12_emits wc_X12_252 rfl dX12_readSum_60 h (fun s11 h => ?_)
          refine G_goto (tgt := 10) C dX12_readSum_63 (by decide) ?_
          refine G_drop (i := 1) (L' := [rv 75, none]) rfl ?_
          exact h
        · have h := h.2.2 q
          refine G_iconst C dX12_readSum_55 ?_
          exact r _ _ _ _ dX12_readSum_56 h
      · have h := h.2.2 q
        refine G_iconst C dX12_readSum_37 ?_
        refine G_goto (tgt := 42) C dX12_readSum_38 (by decide) ?_
        refine G_istore_n (L' := [rv 75, iv 2]) C dX12_readSum_42 (by decide) rfl ?_
        refine G_aload_n C dX12_readSum_43 rfl ?_
        refine G_callVV (K := []) (args := []) (T := TX12) (N := 72) C ly_75 rfl (Nat.le_of_ble_eq_true rfl) mo_X12_reads wc_X12_255 rfl dX12_readSum_44 h (fun s12 h => ?_)
        refine G_aload_n C dX12_readSum_47 rfl ?_
        refine G_callVI (K := []) (args := []) (T := TX12) (N := 72) C ly_75 rfl (Nat.le_of_ble_eq_true rfl) mo_X12_readProduct wc_X12_265 rfl dX12_readSum_48 h (fun r13 s13 h => ?_)
        refine G_iconst C dX12_readSum_51 ?_
        refine G_icmp_ne (tgt := 57) C dX12_readSum_52 (by decide) ⟨h.1, (by decide)⟩ (fun q => ?_) (fun q => ?_)
        · have h := h.2.1 q
          refine G_aload_n C dX12_readSum_57 rfl ?_
          refine G_iload_n C dX12_readSum_58 rfl ?_
          refine G_iconst C dX12_readSum_59 ?_
          refine G_callVV (K := []) (args := [.inl 2, .inl 0]) (T := TX12) (N := 72) C ly_75 rfl (Nat.le_of_ble_eq_true rfl) mo_X12_emits wc_X12_252 rfl dX12_readSum_60 h (fun s14 h => ?_)
          refine G_goto (tgt := 10) C dX12_readSum_63 (by decide) ?_
          refine G_drop (i := 1) (L' := [rv 75, none]) rfl ?_
          exact h
        · have h := h.2.2 q
          refine G_iconst C dX12_readSum_55 ?_
          exact r _ _ _ _ dX12_readSum_56 h
set_option maxRecDepth 20000 in
theorem kb_X12_isLeftOut_0 {X : Cx} {d : Nat} {P : Int → Sto → Prop} (C : Ok LY X RX12 cX12_isLeftOut 2 d) (r : RetZ LY X cX12_isLeftOut P) {v1 : Int} {s : Sto} (h : ((rg v1 ∧ rg (s 75 9)) ∧ ((v1 < (s 75 9) → P 0 s) ∧ ((s 75 9) ≤ v1 → ((rg (s 82 0)) ∧ (((s 82 0) ≠ 2 → P 0 s) ∧ ((s 82 0) = 2 → P 1 s))))))) : G LY X 0 [rv 75, iv v1] [] s := by
  refine G_iload_n C dX12_isLeftOut_0 rfl ?_
  refine G_aload_n C dX12_isLeftOut_1 rfl ?_
  refine gI_X12_9 C ly_75 rfl wf_X12_25 dX12_isLeftOut_2 ?_
  refine G_icmp_lt (tgt := 22) C dX12_isLeftOut_5 (by decide) ⟨h.1.1, h.1.2⟩ (fun q => ?_) (fun q => ?_)
  · have h := h.2.1 q
    refine G_iconst C dX12_isLeftOut_22 ?_
    exact r _ _ _ _ dX12_isLeftOut_23 (by decide) h
  · have h := h.2.2 q
    refine G_aload_n C dX12_isLeftOut_8 rfl ?_
    refine gR_X12_11 C ly_75 rfl wf_X12_32 dX12_isLeftOut_9 ?_
    refine G_iconst C dX12_isLeftOut_12 ?_
    refine G_iald C ly_82 (by decide) (by decide) dX12_isLeftOut_13 ?_
    refine G_iconst C dX12_isLeftOut_14 ?_
    refine G_icmp_ne (tgt := 22) C dX12_isLeftOut_15 (by decide) ⟨h.1, (by decide)⟩ (fun q => ?_) (fun q => ?_)
    · have h := h.2.1 q
      refine G_iconst C dX12_isLeftOut_22 ?_
      exact r _ _ _ _ dX12_isLeftOut_23 (by decide) h
    · have h := h.2.2 q
      refine G_iconst C dX12_isLeftOut_18 ?_
      refine G_goto (tgt := 23) C dX12_isLeftOut_19 (by decide) ?_
      exact r _ _ _ _ dX12_isLeftOut_23 (by decide) h
set_option maxRecDepth 20000 in
theorem kb_X12_areLike_0 {X : Cx} {d : Nat} {P : Int → Sto → Prop} (C : Ok LY X RX12 cX12_areLike 4 d) (r : RetZ LY X cX12_areLike P) {v1 v2 : Int} {s : Sto} (h : ((0 ≤ v1 ∧ v1 < 51) ∧ ((0 ≤ v2 ∧ v2 < 51) ∧ ((rg (s 76 v1) ∧ rg (s 76 v2)) ∧ (((s 76 v1) = (s 76 v2) → G LY X 19 [rv 75, iv v1, iv v2, iv 0] [] s) ∧ ((s 76 v1) ≠ (s 76 v2) → P 0 s)))))) : G LY X 0 [rv 75, iv v1, iv v2, none] [] s := by
  refine G_aload_n C dX12_areLike_0 rfl ?_
  refine gR_X12_2 C ly_75 rfl wf_X12_7 dX12_areLike_1 ?_
  refine G_iload_n C dX12_areLike_4 rfl ?_
  refine G_iald C ly_76 (by decide) h.1 dX12_areLike_5 ?_
  have h := h.2
  refine G_aload_n C dX12_areLike_6 rfl ?_
  refine gR_X12_2 C ly_75 rfl wf_X12_7 dX12_areLike_7 ?_
  refine G_iload_n C dX12_areLike_10 rfl ?_
  refine G_iald C ly_76 (by decide) h.1 dX12_areLike_11 ?_
  have h := h.2
  refine G_icmp_eq (tgt := 17) C dX12_areLike_12 (by decide) ⟨h.1.1, h.1.2⟩ (fun q => ?_) (fun q => ?_)
  · have h := h.2.1 q
    refine G_iconst C dX12_areLike_17 ?_
    refine G_istore_n (L' := [rv 75, iv v1, iv v2, iv 0]) C dX12_areLike_18 (by decide) rfl ?_
    exact h
  · have h := h.2.2 q
    refine G_iconst C dX12_areLike_15 ?_
    exact r _ _ _ _ dX12_areLike_16 (by decide) h
set_option maxRecDepth 20000 in
theorem kb_X12_areLike_19 {X : Cx} {d : Nat} {P : Int → Sto → Prop} (C : Ok LY X RX12 cX12_areLike 4 d) (r : RetZ LY X cX12_areLike P) {v1 v2 v3 : Int} {s : Sto} (h : ((0 ≤ v1 ∧ v1 < 51) ∧ ((rg v3 ∧ rg (s 76 v1)) ∧ (((s 76 v1) ≤ v3 → P 1 s) ∧ (v3 < (s 76 v1) → ((0 ≤ ((6 * v1) + v3) ∧ ((6 * v1) + v3) < 306) ∧ ((0 ≤ ((6 * v2) + v3) ∧ ((6 * v2) + v3) < 306) ∧ ((rg (s 77 ((6 * v1) + v3)) ∧ rg (s 77 ((6 * v2) + v3))) ∧ (((s 77 ((6 * v1) + v3)) = (s 77 ((6 * v2) + v3)) → G LY X 19 [rv 75, iv v1, iv v2, iv (v3 + 1)] [] s) ∧ ((s 77 ((6 * v1) + v3)) ≠ (s 77 ((6 * v2) + v3)) → P 0 s)))))))))) : G LY X 19 [rv 75, iv v1, iv v2, iv v3] [] s := by
  refine G_iload_n C dX12_areLike_19 rfl ?_
  refine G_aload_n C dX12_areLike_20 rfl ?_
  refine gR_X12_2 C ly_75 rfl wf_X12_7 dX12_areLike_21 ?_
  refine G_iload_n C dX12_areLike_24 rfl ?_
  refine G_iald C ly_76 (by decide) h.1 dX12_areLike_25 ?_
  have h := h.2
  refine G_icmp_ge (tgt := 62) C dX12_areLike_26 (by decide) ⟨h.1.1, h.1.2⟩ (fun q => ?_) (fun q => ?_)
  · have h := h.2.1 q
    refine G_iconst C dX12_areLike_62 ?_
    exact r _ _ _ _ dX12_areLike_63 (by decide) h
  · have h := h.2.2 q
    refine G_aload_n C dX12_areLike_29 rfl ?_
    refine gR_X12_3 C ly_75 rfl wf_X12_13 dX12_areLike_30 ?_
    refine G_bipush C dX12_areLike_33 bi_6 ?_
    refine G_iload_n C dX12_areLike_35 rfl ?_
    refine G_imul C dX12_areLike_36 ?_
    refine G_iload_n C dX12_areLike_37 rfl ?_
    refine G_iadd C dX12_areLike_38 ?_
    refine G_iald C ly_77 (by decide) h.1 dX12_areLike_39 ?_
    have h := h.2
    refine G_aload_n C dX12_areLike_40 rfl ?_
    refine gR_X12_3 C ly_75 rfl wf_X12_13 dX12_areLike_41 ?_
    refine G_bipush C dX12_areLike_44 bi_6 ?_
    refine G_iload_n C dX12_areLike_46 rfl ?_
    refine G_imul C dX12_areLike_47 ?_
    refine G_iload_n C dX12_areLike_48 rfl ?_
    refine G_iadd C dX12_areLike_49 ?_
    refine G_iald C ly_77 (by decide) h.1 dX12_areLike_50 ?_
    have h := h.2
    refine G_icmp_eq (tgt := 56) C dX12_areLike_51 (by decide) ⟨h.1.1, h.1.2⟩ (fun q => ?_) (fun q => ?_)
    · have h := h.2.1 q
      refine G_iinc (L' := [rv 75, iv v1, iv v2, iv (v3 + 1)]) C dX12_areLike_56 (by decide) rfl rfl ?_
      refine G_goto (tgt := 19) C dX12_areLike_59 (by decide) ?_
      exact h
    · have h := h.2.2 q
      refine G_iconst C dX12_areLike_54 ?_
      exact r _ _ _ _ dX12_areLike_55 (by decide) h
set_option maxRecDepth 20000 in
theorem kb_X8_isSame_0 {X : Cx} {d : Nat} {P : Int → Sto → Prop} (C : Ok LY X RX8 cX8_isSame 5 d) (r : RetZ LY X cX8_isSame P) {v1 v2 v3 : Int} {s : Sto} (h : G LY X 3 [rv 1, iv v1, iv v2, iv v3, iv v2] [] s) : G LY X 0 [rv 1, iv v1, iv v2, iv v3, none] [] s := by
  refine G_iload_n C dX8_isSame_0 rfl ?_
  refine G_istore (L' := [rv 1, iv v1, iv v2, iv v3, iv v2]) C dX8_isSame_1 (by decide) rfl ?_
  exact h
set_option maxRecDepth 20000 in
theorem kb_X8_isSame_3 {X : Cx} {d : Nat} {P : Int → Sto → Prop} (C : Ok LY X RX8 cX8_isSame 5 d) (r : RetZ LY X cX8_isSame P) {v1 v2 v3 v4 : Int} {s : Sto} (h : ((rg v4 ∧ rg v3) ∧ ((v3 ≤ v4 → P 1 s) ∧ (v4 < v3 → ((0 ≤ ((v1 + v4) - v2) ∧ ((v1 + v4) - v2) < 400) ∧ (CallI LY d MJ0_charAt_5068e [.inr 504, .inl v4] s (fun r1 s1 => ((rg (s 2 ((v1 + v4) - v2)) ∧ rg r1) ∧ (((s 2 ((v1 + v4) - v2)) = r1 → G LY X 3 [rv 1, iv v1, iv v2, iv v3, iv (v4 + 1)] [] s1) ∧ ((s 2 ((v1 + v4) - v2)) ≠ r1 → P 0 s1)))))))))) : G LY X 3 [rv 1, iv v1, iv v2, iv v3, iv v4] [] s := by
  refine G_iload C dX8_isSame_3 rfl ?_
  refine G_iload_n C dX8_isSame_5 rfl ?_
  refine G_icmp_ge (tgt := 38) C dX8_isSame_6 (by decide) ⟨h.1.1, h.1.2⟩ (fun q => ?_) (fun q => ?_)
  · have h := h.2.1 q
    refine G_iconst C dX8_isSame_38 ?_
    exact r _ _ _ _ dX8_isSame_39 (by decide) h
  · have h := h.2.2 q
    refine G_aload_n C dX8_isSame_9 rfl ?_
    refine gR_X9_0 C ly_1 rfl wf_X8_55 dX8_isSame_10 ?_
    refine G_iload_n C dX8_isSame_13 rfl ?_
    refine G_iload C dX8_isSame_14 rfl ?_
    refine G_iadd C dX8_isSame_16 ?_
    refine G_iload_n C dX8_isSame_17 rfl ?_
    refine G_isub C dX8_isSame_18 ?_
    refine G_iald C ly_2 (by decide) h.1 dX8_isSame_19 ?_
    have h := h.2
    refine G_ldcS504 C dX8_isSame_20 ?_
    refine G_iload C dX8_isSame_22 rfl ?_
    refine G_callTI (K := [.inl (s 2 ((v1 + v4) - v2))]) (args := [.inl v4]) (q := 504) C (by decide) rfl (Nat.le_of_ble_eq_true rfl) mo_J0_charAt_5068e wc_X8_97 rfl dX8_isSame_24 h (fun r1 s1 h => ?_)
    refine G_icmp_eq (tgt := 32) C dX8_isSame_27 (by decide) ⟨h.1.1, h.1.2⟩ (fun q => ?_) (fun q => ?_)
    · have h := h.2.1 q
      refine G_iinc (L' := [rv 1, iv v1, iv v2, iv v3, iv (v4 + 1)]) C dX8_isSame_32 (by decide) rfl rfl ?_
      refine G_goto (tgt := 3) C dX8_isSame_35 (by decide) ?_
      exact h
    · have h := h.2.2 q
      refine G_iconst C dX8_isSame_30 ?_
      exact r _ _ _ _ dX8_isSame_31 (by decide) h
set_option maxRecDepth 20000 in
theorem kb_X8_readBracket_0 {X : Cx} {d : Nat} {P : Int → Sto → Prop} (C : Ok LY X RX8 cX8_readBracket 2 d) (r : RetZ LY X cX8_readBracket P) {v1 : Int} {s : Sto} (h : (CallI LY d MX8_readCondition [.inr 39, .inl v1] s (fun r1 s1 => ((rg r1) ∧ ((r1 ≠ 0 → ((0 ≤ (s1 39 3) ∧ (s1 39 3) < 401) ∧ ((rg (s1 40 (s1 39 3))) ∧ (((s1 40 (s1 39 3)) = 10106 → (CallV LY d MX8_goOn [.inr 39] s1 (fun s2 => P 1 s2))) ∧ ((s1 40 (s1 39 3)) ≠ 10106 → (CallI LY d MX8_fail [.inr 39, .inl 1] s1 (fun r3 s3 => ((r3 = 0 ∨ r3 = 1) ∧ P r3 s3)))))))) ∧ (r1 = 0 → P 0 s1)))))) : G LY X 0 [rv 39, iv v1] [] s := by
  refine G_aload_n C dX8_readBracket_0 rfl ?_
  refine G_iload_n C dX8_readBracket_1 rfl ?_
  refine G_callVI (K := []) (args := [.inl v1]) (T := TX8) (N := 6) C ly_39 rfl (Nat.le_of_ble_eq_true rfl) mo_X8_readCondition wc_X8_114 rfl dX8_readBracket_2 h (fun r1 s1 h => ?_)
  refine G_if_ne (tgt := 10) C dX8_readBracket_5 (by decide) h.1 (fun q => ?_) (fun q => ?_)
  · have h := h.2.1 q
    refine G_aload_n C dX8_readBracket_10 rfl ?_
    refine gR_X8_0 C ly_39 rfl wf_X8_9 dX8_readBracket_11 ?_
    refine G_aload_n C dX8_readBracket_14 rfl ?_
    refine gI_X8_3 C ly_39 rfl wf_X8_25 dX8_readBracket_15 ?_
    refine G_iald C ly_40 (by decide) h.1 dX8_readBracket_18 ?_
    have h := h.2
    refine G_sipush C dX8_readBracket_19 si_10106 ?_
    refine G_icmp_eq (tgt := 31) C dX8_readBracket_22 (by decide) ⟨h.1, (by decide)⟩ (fun q => ?_) (fun q => ?_)
    · have h := h.2.1 q
      refine G_aload_n C dX8_readBracket_31 rfl ?_
      refine G_callVV (K := []) (args := []) (T := TX8) (N := 6) C ly_39 rfl (Nat.le_of_ble_eq_true rfl) mo_X8_goOn wc_X8_111 rfl dX8_readBracket_32 h (fun s2 h => ?_)
      refine G_iconst C dX8_readBracket_35 ?_
      exact r _ _ _ _ dX8_readBracket_36 (by decide) h
    · have h := h.2.2 q
      refine G_aload_n C dX8_readBracket_25 rfl ?_
      refine G_iconst C dX8_readBracket_26 ?_
      refine G_callVI (K := []) (args := [.inl 1]) (T := TX8) (N := 6) C ly_39 rfl (Nat.le_of_ble_eq_true rfl) mo_X8_fail wc_X8_105 rfl dX8_readBracket_27 h (fun r3 s3 h => ?_)
      exact r _ _ _ _ dX8_readBracket_30 h.1 h.2
  · have h := h.2.2 q
    refine G_iconst C dX8_readBracket_8 ?_
    exact r _ _ _ _ dX8_readBracket_9 (by decide) h
set_option maxRecDepth 20000 in
theorem kb_X8_readDenied_0 {X : Cx} {d : Nat} {P : Int → Sto → Prop} (C : Ok LY X RX8 cX8_readDenied 3 d) (r : RetZ LY X cX8_readDenied P) {v1 : Int} {s : Sto} (h : (CallI LY d MX8_readClaim [.inr 39, .inl v1] s (fun r1 s1 => (CallV LY d MX4_add [.inr 42, .inl 10005] s1 (fun s2 => ((r1 = 0 ∨ r1 = 1) ∧ P r1 s2)))))) : G LY X 0 [rv 39, iv v1, none] [] s := by
  refine G_aload_n C dX8_readDenied_0 rfl ?_
  refine G_iload_n C dX8_readDenied_1 rfl ?_
  refine G_callVI (K := []) (args := [.inl v1]) (T := TX8) (N := 6) C ly_39 rfl (Nat.le_of_ble_eq_true rfl) mo_X8_readClaim wc_X8_121 rfl dX8_readDenied_2 h (fun r1 s1 h => ?_)
  refine G_istore_n (L' := [rv 39, iv v1, iv r1]) C dX8_readDenied_5 (by decide) rfl ?_
  refine G_aload_n C dX8_readDenied_6 rfl ?_
  refine gR_X8_2 C ly_39 rfl wf_X8_21 dX8_readDenied_7 ?_
  refine G_sipush C dX8_readDenied_10 si_10005 ?_
  refine G_callVV (K := []) (args := [.inl 10005]) (T := TX4) (N := 5) C ly_42 rfl (Nat.le_of_ble_eq_true rfl) mo_X4_add wc_X8_124 rfl dX8_readDenied_13 h (fun s2 h => ?_)
  refine G_iload_n C dX8_readDenied_16 rfl ?_
  exact r _ _ _ _ dX8_readDenied_17 h.1 h.2
set_option maxRecDepth 20000 in
theorem kb_X8_readSum_0 {X : Cx} {d : Nat} {P : Int → Sto → Prop} (C : Ok LY X RX8 cX8_readSum 4 d) (r : RetZ LY X cX8_readSum P) {s : Sto} (h : (CallI LY d MX8_readUnit [.inr 39, .inl (-1)] s (fun r1 s1 => ((rg r1) ∧ ((r1 ≠ 0 → G LY X 14 [rv 39, iv (-1), iv 0, none] [] s1) ∧ (r1 = 0 → P 0 s1)))))) : G LY X 0 [rv 39, none, none, none] [] s := by
  refine G_aload_n C dX8_readSum_0 rfl ?_
  refine G_iconst C dX8_readSum_1 ?_
  refine G_callVI (K := []) (args := [.inl (-1)]) (T := TX8) (N := 6) C ly_39 rfl (Nat.le_of_ble_eq_true rfl) mo_X8_readUnit wc_X8_136 rfl dX8_readSum_2 h (fun r1 s1 h => ?_)
  refine G_if_ne (tgt := 10) C dX8_readSum_5 (by decide) h.1 (fun q => ?_) (fun q => ?_)
  · have h := h.2.1 q
    refine G_iconst C dX8_readSum_10 ?_
    refine G_istore_n (L' := [rv 39, iv (-1), none, none]) C dX8_readSum_11 (by decide) rfl ?_
    refine G_iconst C dX8_readSum_12 ?_
    refine G_istore_n (L' := [rv 39, iv (-1), iv 0, none]) C dX8_readSum_13 (by decide) rfl ?_
    exact h
  · have h := h.2.2 q
    refine G_iconst C dX8_readSum_8 ?_
    exact r _ _ _ _ dX8_readSum_9 (by decide) h
set_option maxRecDepth 20000 in
theorem kb_X8_readSum_14 {X : Cx} {d : Nat} {P : Int → Sto → Prop} (C : Ok LY X RX8 cX8_readSum 4 d) (r : RetZ LY X cX8_readSum P) {v1 v2 : Int} {s : Sto} (h : ((rg v2) ∧ ((400 ≤ v2 → (CallV LY d MX4_add [.inr 42, .inl v1] s (fun s1 => P 1 s1))) ∧ (v2 < 400 → ((0 ≤ (s 39 3) ∧ (s 39 3) < 401) ∧ ((rg (s 40 (s 39 3))) ∧ (((s 40 (s 39 3)) < 10101 → (CallV LY d MX4_add [.inr 42, .inl v1] s (fun s2 => P 1 s2))) ∧ (10101 ≤ (s 40 (s 39 3)) → ((0 ≤ (s 39 3) ∧ (s 39 3) < 401) ∧ ((rg (s 40 (s 39 3))) ∧ ((10104 < (s 40 (s 39 3)) → (CallV LY d MX4_add [.inr 42, .inl v1] s (fun s3 => P 1 s3))) ∧ ((s 40 (s 39 3)) ≤ 10104 → ((0 ≤ (s 39 3) ∧ (s 39 3) < 401) ∧ (CallV LY d MX8_goOn [.inr 39] s (fun s4 => ((rg (s 40 (s 39 3))) ∧ (((s 40 (s 39 3)) = 10101 → (CallV LY d MX4_add [.inr 42, .inl v1] s4 (fun s5 => (CallI LY d MX8_readUnit [.inr 39, .inl (s 40 (s 39 3))] s5 (fun r6 s6 => ((rg r6) ∧ ((r6 ≠ 0 → ((rg (s 40 (s 39 3))) ∧ (((s 40 (s 39 3)) = 10103 → (CallV LY d MX4_add [.inr 42, .inl (s 40 (s 39 3))] s6 (fun s7 => G LY X 14 [rv 39, iv (s 40 (s 39 3)), iv (v2 + 1), none] [] s7))) ∧ ((s 40 (s 39 3)) ≠ 10103 → ((rg (s 40 (s 39 3))) ∧ (((s 40 (s 39 3)) ≠ 10104 → G LY X 14 [rv 39, iv (s 40 (s 39 3)), iv (v2 + 1), none] [] s6) ∧ ((s 40 (s 39 3)) = 10104 → (CallV LY d MX4_add [.inr 42, .inl (s 40 (s 39 3))] s6 (fun s8 => G LY X 14 [rv 39, iv (s 40 (s 39 3)), iv (v2 + 1), none] [] s8))))))))) ∧ (r6 = 0 → P 0 s6)))))))) ∧ ((s 40 (s 39 3)) ≠ 10101 → ((rg (s 40 (s 39 3))) ∧ (((s 40 (s 39 3)) ≠ 10102 → (CallI LY d MX8_readUnit [.inr 39, .inl (s 40 (s 39 3))] s4 (fun r9 s9 => ((rg r9) ∧ ((r9 ≠ 0 → ((rg (s 40 (s 39 3))) ∧ (((s 40 (s 39 3)) = 10103 → (CallV LY d MX4_add [.inr 42, .inl (s 40 (s 39 3))] s9 (fun s10 => G LY X 14 [rv 39, iv v1, iv (v2 + 1), none] [] s10))) ∧ ((s 40 (s 39 3)) ≠ 10103 → ((rg (s 40 (s 39 3))) ∧ (((s 40 (s 39 3)) ≠ 10104 → G LY X 14 [rv 39, iv v1, iv (v2 + 1), none] [] s9) ∧ ((s 40 (s 39 3)) = 10104 → (CallV LY d MX4_add [.inr 42, .inl (s 40 (s 39 3))] s9 (fun s11 => G LY X 14 [rv 39, iv v1, iv (v2 + 1), none] [] s11))))))))) ∧ (r9 = 0 → P 0 s9)))))) ∧ ((s 40 (s 39 3)) = 10102 → (CallV LY d MX4_add [.inr 42, .inl v1] s4 (fun s12 => (CallI LY d MX8_readUnit [.inr 39, .inl (s 40 (s 39 3))] s12 (fun r13 s13 => ((rg r13) ∧ ((r13 ≠ 0 → ((rg (s 40 (s 39 3))) ∧ (((s 40 (s 39 3)) = 10103 → (CallV LY d MX4_add [.inr 42, .inl (s 40 (s 39 3))] s13 (fun s14 => G LY X 14 [rv 39, iv (s 40 (s 39 3)), iv (v2 + 1), none] [] s14))) ∧ ((s 40 (s 39 3)) ≠ 10103 → ((rg (s 40 (s 39 3))) ∧ (((s 40 (s 39 3)) ≠ 10104 → G LY X 14 [rv 39, iv (s 40 (s 39 3)), iv (v2 + 1), none] [] s13) ∧ ((s 40 (s 39 3)) = 10104 → (CallV LY d MX4_add [.inr 42, .inl (s 40 (s 39 3))] s13 (fun s15 => G LY X 14 [rv 39, iv (s 40 (s 39 3)), iv (v2 + 1), none] [] s15))))))))) ∧ (r13 = 0 → P 0 s13)))))))))))))))))))))))))))) : G LY X 14 [rv 39, iv v1, iv v2, none] [] s := by
  refine G_iload_n C dX8_readSum_14 rfl ?_
  refine G_sipush C dX8_readSum_15 si_400 ?_
  refine G_icmp_ge (tgt := 127) C dX8_readSum_18 (by decide) ⟨h.1, (by decide)⟩ (fun q => ?_) (fun q => ?_)
  · have h := h.2.1 q
    refine G_aload_n C dX8_readSum_127 rfl ?_
    refine gR_X8_2 C ly_39 rfl wf_X8_21 dX8_readSum_128 ?_
    refine G_iload_n C dX8_readSum_131 rfl ?_
    refine G_callVV (K := []) (args := [.inl v1]) (T := TX4) (N := 5) C ly_42 rfl (Nat.le_of_ble_eq_true rfl) mo_X4_add wc_X8_124 rfl dX8_readSum_132 h (fun s1 h => ?_)
    refine G_iconst C dX8_readSum_135 ?_
    exact r _ _ _ _ dX8_readSum_136 (by decide) h
  · have h := h.2.2 q
    refine G_aload_n C dX8_readSum_21 rfl ?_
    refine gR_X8_0 C ly_39 rfl wf_X8_9 dX8_readSum_22 ?_
    refine G_aload_n C dX8_readSum_25 rfl ?_
    refine gI_X8_3 C ly_39 rfl wf_X8_25 dX8_readSum_26 ?_
    refine G_iald C ly_40 (by decide) h.1 dX8_readSum_29 ?_
    have h := h.2
    refine G_sipush C dX8_readSum_30 si_10101 ?_
    refine G_icmp_lt (tgt := 127) C dX8_readSum_33 (by decide) ⟨h.1, (by decide)⟩ (fun q => ?_) (fun q => ?_)
    · have h := h.2.1 q
      refine G_aload_n C dX8_readSum_127 rfl ?_
      refine gR_X8_2 C ly_39 rfl wf_X8_21 dX8_readSum_128 ?_
      refine G_iload_n C dX8_readSum_131 rfl ?_
      refine G_callVV (K := []) (args := [.inl v1]) (T := TX4) (N := 5) C ly_42 rfl (Nat.le_of_ble_eq_true rfl) mo_X4_add wc_X8_124 rfl dX8_readSum_132 h (fun s2 h => ?_)
      refine G_iconst C dX8_readSum_135 ?_
      exact r _ _ _ _ dX8_readSum_136 (by decide) h
    · have h := h.2.2 q
      refine G_aload_n C dX8_readSum_36 rfl ?_
      refine gR_X8_0 C ly_39 rfl wf_X8_9 dX8_readSum_37 ?_
      refine G_aload_n C dX8_readSum_40 rfl ?_
      refine gI_X8_3 C ly_39 rfl wf_X8_25 dX8_readSum_41 ?_
      refine G_iald C ly_40 (by decide) h.1 dX8_readSum_44 ?_
      have h := h.2
      refine G_sipush C dX8_readSum_45 si_10104 ?_
      refine G_icmp_gt (tgt := 127) C dX8_readSum_48 (by decide) ⟨h.1, (by decide)⟩ (fun q => ?_) (fun q => ?_)
      · have h := h.2.1 q
        refine G_aload_n C dX8_readSum_127 rfl ?_
        refine gR_X8_2 C ly_39 rfl wf_X8_21 dX8_readSum_128 ?_
        refine G_iload_n C dX8_readSum_131 rfl ?_
        refine G_callVV (K := []) (args := [.inl v1]) (T := TX4) (N := 5) C ly_42 rfl (Nat.le_of_ble_eq_true rfl) mo_X4_add wc_X8_124 rfl dX8_readSum_132 h (fun s3 h => ?_)
        refine G_iconst C dX8_readSum_135 ?_
        exact r _ _ _ _ dX8_readSum_136 (by decide) h
      · have h := h.2.2 q
        refine G_aload_n C dX8_readSum_51 rfl ?_
        refine gR_X8_0 C ly_39 rfl wf_X8_9 dX8_readSum_52 ?_
        refine G_aload_n C dX8_readSum_55 rfl ?_
        refine gI_X8_3 C ly_39 rfl wf_X8_25 dX8_readSum_56 ?_
        refine G_iald C ly_40 (by decide) h.1 dX8_readSum_59 ?_
        have h := h.2
        refine G_istore_n (L' := [rv 39, iv v1, iv v2, iv (s 40 (s 39 3))]) C dX8_readSum_60 (by decide) rfl ?_
        refine G_aload_n C dX8_readSum_61 rfl ?_
        refine G_callVV (K := []) (args := []) (T := TX8) (N := 6) C ly_39 rfl (Nat.le_of_ble_eq_true rfl) mo_X8_goOn wc_X8_111 rfl dX8_readSum_62 h (fun s4 h => ?_)
        refine G_iload_n C dX8_readSum_65 rfl ?_
        refine G_sipush C dX8_readSum_66 si_10101 ?_
        refine G_icmp_eq (tgt := 79) C dX8_readSum_69 (by decide) ⟨h.1, (by decide)⟩ (fun q => ?_) (fun q => ?_)
        · have h := h.2.1 q
          refine G_aload_n C dX8_readSum_79 rfl ?_
          refine gR_X8_2 C ly_39 rfl wf_X8_21 dX8_readSum_80 ?_
          refine G_iload_n C dX8_readSum_83 rfl ?_
          refine G_callVV (K := []) (args := [.inl v1]) (T := TX4) (N := 5) C ly_42 rfl (Nat.le_of_ble_eq_true rfl) mo_X4_add wc_X8_124 rfl dX8_readSum_84 h (fun s5 h => ?_)
          refine G_iload_n C dX8_readSum_87 rfl ?_
          refine G_istore_n (L' := [rv 39, iv (s 40 (s 39 3)), iv v2, iv (s 40 (s 39 3))]) C dX8_readSum_88 (by decide) rfl ?_
          refine G_aload_n C dX8_readSum_89 rfl ?_
          refine G_iload_n C dX8_readSum_90 rfl ?_
          refine G_callVI (K := []) (args := [.inl (s 40 (s 39 3))]) (T := TX8) (N := 6) C ly_39 rfl (Nat.le_of_ble_eq_true rfl) mo_X8_readUnit wc_X8_136 rfl dX8_readSum_91 h (fun r6 s6 h => ?_)
          refine G_if_ne (tgt := 99) C dX8_readSum_94 (by decide) h.1 (fun q => ?_) (fun q => ?_)
          · have h := h.2.1 q
            refine G_iload_n C dX8_readSum_99 rfl ?_
            refine G_sipush C dX8_readSum_100 si_10103 ?_
            refine G_icmp_eq (tgt := 113) C dX8_readSum_103 (by decide) ⟨h.1, (by decide)⟩ (fun q => ?_) (fun q => ?_)
            · have h := h.2.1 q
              refine G_aload_n C dX8_readSum_113 rfl ?_
              refine gR_X8_2 C ly_39 rfl wf_X8_21 dX8_readSum_114 ?_
              refine G_iload_n C dX8_readSum_117 rfl ?_
              refine G_callVV (K := []) (args := [.inl (s 40 (s 39 3))]) (T := TX4) (N := 5) C ly_42 rfl (Nat.le_of_ble_eq_true rfl) mo_X4_add wc_X8_124 rfl dX8_readSum_118 h (fun s7 h => ?_)
              refine G_iinc (L' := [rv 39, iv (s 40 (s 39 3)), iv (v2 + 1), iv (s 40 (s 39 3))]) C dX8_readSum_121 (by decide) rfl rfl ?_
              refine G_goto (tgt := 14) C dX8_readSum_124 (by decide) ?_
              refine G_drop (i := 3) (L' := [rv 39, iv (s 40 (s 39 3)), iv (v2 + 1), none]) rfl ?_
              exact h
            · have h := h.2.2 q
              refine G_iload_n C dX8_readSum_106 rfl ?_
              refine G_sipush C dX8_readSum_107 si_10104 ?_
              refine G_icmp_ne (tgt := 121) C dX8_readSum_110 (by decide) ⟨h.1, (by decide)⟩ (fun q => ?_) (fun q => ?_)
              · have h := h.2.1 q
                refine G_iinc (L' := [rv 39, iv (s 40 (s 39 3)), iv (v2 + 1), iv (s 40 (s 39 3))]) C dX8_readSum_121 (by decide) rfl rfl ?_
                refine G_goto (tgt := 14) C dX8_readSum_124 (by decide) ?_
                refine G_drop (i := 3) (L' := [rv 39, iv (s 40 (s 39 3)), iv (v2 + 1), none]) rfl ?_
                exact h
              · have h := h.2.2 q
                refine G_aload_n C dX8_readSum_113 rfl ?_
                refine gR_X8_2 C ly_39 rfl wf_X8_21 dX8_readSum_114 ?_
                refine G_iload_n C dX8_readSum_117 rfl ?_
                refine G_callVV (K := []) (args := [.inl (s 40 (s 39 3))]) (T := TX4) (N := 5) C ly_42 rfl (Nat.le_of_ble_eq_true rfl) mo_X4_add wc_X8_124 rfl dX8_readSum_118 h (fun s8 h => ?_)
                refine G_iinc (L' := [rv 39, iv (s 40 (s 39 3)), iv (v2 + 1), iv (s 40 (s 39 3))]) C dX8_readSum_121 (by decide) rfl rfl ?_
                refine G_goto (tgt := 14) C dX8_readSum_124 (by decide) ?_
                refine G_drop (i := 3) (L' := [rv 39, iv (s 40 (s 39 3)), iv (v2 + 1), none]) rfl ?_
                exact h
          · have h := h.2.2 q
            refine G_iconst C dX8_readSum_97 ?_
            exact r _ _ _ _ dX8_readSum_98 (by decide) h
        · have h := h.2.2 q
          refine G_iload_n C dX8_readSum_72 rfl ?_
          refine G_sipush C dX8_readSum_73 si_10102 ?_
          refine G_icmp_ne (tgt := 89) C dX8_readSum_76 (by decide) ⟨h.1, (by decide)⟩ (fun q => ?_) (fun q => ?_)
          · have h := h.2.1 q
            refine G_aload_n C dX8_readSum_89 rfl ?_
            refine G_iload_n C dX8_readSum_90 rfl ?_
            refine G_callVI (K := []) (args := [.inl (s 40 (s 39 3))]) (T := TX8) (N := 6) C ly_39 rfl (Nat.le_of_ble_eq_true rfl) mo_X8_readUnit wc_X8_136 rfl dX8_readSum_91 h (fun r9 s9 h => ?_)
            refine G_if_ne (tgt := 99) C dX8_readSum_94 (by decide) h.1 (fun q => ?_) (fun q => ?_)
            · have h := h.2.1 q
              refine G_iload_n C dX8_readSum_99 rfl ?_
              refine G_sipush C dX8_readSum_100 si_10103 ?_
              refine G_icmp_eq (tgt := 113) C dX8_readSum_103 (by decide) ⟨h.1, (by decide)⟩ (fun q => ?_) (fun q => ?_)
              · have h := h.2.1 q
                refine G_aload_n C dX8_readSum_113 rfl ?_
                refine gR_X8_2 C ly_39 rfl wf_X8_21 dX8_readSum_114 ?_
                refine G_iload_n C dX8_readSum_117 rfl ?_
                refine G_callVV (K := []) (args := [.inl (s 40 (s 39 3))]) (T := TX4) (N := 5) C ly_42 rfl (Nat.le_of_ble_eq_true rfl) mo_X4_add wc_X8_124 rfl dX8_readSum_118 h (fun s10 h => ?_)
                refine G_iinc (L' := [rv 39, iv v1, iv (v2 + 1), iv (s 40 (s 39 3))]) C dX8_readSum_121 (by decide) rfl rfl ?_
                refine G_goto (tgt := 14) C dX8_readSum_124 (by decide) ?_
                refine G_drop (i := 3) (L' := [rv 39, iv v1, iv (v2 + 1), none]) rfl ?_
                exact h
              · have h := h.2.2 q
                refine G_iload_n C dX8_readSum_106 rfl ?_
                refine G_sipush C dX8_readSum_107 si_10104 ?_
                refine G_icmp_ne (tgt := 121) C dX8_readSum_110 (by decide) ⟨h.1, (by decide)⟩ (fun q => ?_) (fun q => ?_)
                · have h := h.2.1 q
                  refine G_iinc (L' := [rv 39, iv v1, iv (v2 + 1), iv (s 40 (s 39 3))]) C dX8_readSum_121 (by decide) rfl rfl ?_
                  refine G_goto (tgt := 14) C dX8_readSum_124 (by decide) ?_
                  refine G_drop (i := 3) (L' := [rv 39, iv v1, iv (v2 + 1), none]) rfl ?_
                  exact h
                · have h := h.2.2 q
                  refine G_aload_n C dX8_readSum_113 rfl ?_
                  refine gR_X8_2 C ly_39 rfl wf_X8_21 dX8_readSum_114 ?_
                  refine G_iload_n C dX8_readSum_117 rfl ?_
                  refine G_callVV (K := []) (args := [.inl (s 40 (s 39 3))]) (T := TX4) (N := 5) C ly_42 rfl (Nat.le_of_ble_eq_true rfl) mo_X4_add wc_X8_124 rfl dX8_readSum_118 h (fun s11 h => ?_)
                  refine G_iinc (L' := [rv 39, iv v1, iv (v2 + 1), iv (s 40 (s 39 3))]) C dX8_readSum_121 (by decide) rfl rfl ?_
                  refine G_goto (tgt := 14) C dX8_readSum_124 (by decide) ?_
                  refine G_drop (i := 3) (L' := [rv 39, iv v1, iv (v2 + 1), none]) rfl ?_
                  exact h
            · have h := h.2.2 q
              refine G_iconst C dX8_readSum_97 ?_
              exact r _ _ _ _ dX8_readSum_98 (by decide) h
          · have h := h.2.2 q
            refine G_aload_n C dX8_readSum_79 rfl ?_
            refine gR_X8_2 C ly_39 rfl wf_X8_21 dX8_readSum_80 ?_
            refine G_iload_n C dX8_readSum_83 rfl ?_
            refine G_callVV (K := []) (args := [.inl v1]) (T := TX4) (N := 5) C ly_42 rfl (Nat.le_of_ble_eq_true rfl) mo_X4_add wc_X8_124 rfl dX8_readSum_84 h (fun s12 h => ?_)
            refine G_iload_n C dX8_readSum_87 rfl ?_
            refine G_istore_n (L' := [rv 39, iv (s 40 (s 39 3)), iv v2, iv (s 40 (s 39 3))]) C dX8_readSum_88 (by decide) rfl ?_
            refine G_aload_n C dX8_readSum_89 rfl ?_
            refine G_iload_n C dX8_readSum_90 rfl ?_
            refine G_callVI (K := []) (args := [.inl (s 40 (s 39 3))]) (T := TX8) (N := 6) C ly_39 rfl (Nat.le_of_ble_eq_true rfl) mo_X8_readUnit wc_X8_136 rfl dX8_readSum_91 h (fun r13 s13 h => ?_)
            refine G_if_ne (tgt := 99) C dX8_readSum_94 (by decide) h.1 (fun q => ?_) (fun q => ?_)
            · have h := h.2.1 q
              refine G_iload_n C dX8_readSum_99 rfl ?_
              refine G_sipush C dX8_readSum_100 si_10103 ?_
              refine G_icmp_eq (tgt := 113) C dX8_readSum_103 (by decide) ⟨h.1, (by decide)⟩ (fun q => ?_) (fun q => ?_)
              · have h := h.2.1 q
                refine G_aload_n C dX8_readSum_113 rfl ?_
                refine gR_X8_2 C ly_39 rfl wf_X8_21 dX8_readSum_114 ?_
                refine G_iload_n C dX8_readSum_117 rfl ?_
                refine G_callVV (K := []) (args := [.inl (s 40 (s 39 3))]) (T := TX4) (N := 5) C ly_42 rfl (Nat.le_of_ble_eq_true rfl) mo_X4_add wc_X8_124 rfl dX8_readSum_118 h (fun s14 h => ?_)
                refine G_iinc (L' := [rv 39, iv (s 40 (s 39 3)), iv (v2 + 1), iv (s 40 (s 39 3))]) C dX8_readSum_121 (by decide) rfl rfl ?_
                refine G_goto (tgt := 14) C dX8_readSum_124 (by decide) ?_
                refine G_drop (i := 3) (L' := [rv 39, iv (s 40 (s 39 3)), iv (v2 + 1), none]) rfl ?_
                exact h
              · have h := h.2.2 q
                refine G_iload_n C dX8_readSum_106 rfl ?_
                refine G_sipush C dX8_readSum_107 si_10104 ?_
                refine G_icmp_ne (tgt := 121) C dX8_readSum_110 (by decide) ⟨h.1, (by decide)⟩ (fun q => ?_) (fun q => ?_)
                · have h := h.2.1 q
                  refine G_iinc (L' := [rv 39, iv (s 40 (s 39 3)), iv (v2 + 1), iv (s 40 (s 39 3))]) C dX8_readSum_121 (by decide) rfl rfl ?_
                  refine G_goto (tgt := 14) C dX8_readSum_124 (by decide) ?_
                  refine G_drop (i := 3) (L' := [rv 39, iv (s 40 (s 39 3)), iv (v2 + 1), none]) rfl ?_
                  exact h
                · have h := h.2.2 q
                  refine G_aload_n C dX8_readSum_113 rfl ?_
                  refine gR_X8_2 C ly_39 rfl wf_X8_21 dX8_readSum_114 ?_
                  refine G_iload_n C dX8_readSum_117 rfl ?_
                  refine G_callVV (K := []) (args := [.inl (s 40 (s 39 3))]) (T := TX4) (N := 5) C ly_42 rfl (Nat.le_of_ble_eq_true rfl) mo_X4_add wc_X8_124 rfl dX8_readSum_118 h (fun s15 h => ?_)
                  refine G_iinc (L' := [rv 39, iv (s 40 (s 39 3)), iv (v2 + 1), iv (s 40 (s 39 3))]) C dX8_readSum_121 (by decide) rfl rfl ?_
                  refine G_goto (tgt := 14) C dX8_readSum_124 (by decide) ?_
                  refine G_drop (i := 3) (L' := [rv 39, iv (s 40 (s 39 3)), iv (v2 + 1), none]) rfl ?_
                  exact h
            · have h := h.2.2 q
              refine G_iconst C dX8_readSum_97 ?_
              exact r _ _ _ _ dX8_readSum_98 (by decide) h
