set_option maxRecDepth 20000 in
theorem kb_X11_state_0 {X : Cx} {d : Nat} {P : Int → Sto → Prop} (C : Ok LY X RX11 cX11_state 3 d) (r : RetI LY X cX11_state P) {v1 : Int} {s : Sto} (h : (∀ s1 : Sto, s1 = up s 3 1 v1 → P (s 3 1) s1)) : G LY X 0 [rv 0, iv v1, none] [] s := by
  refine G_aload_n C dX11_state_0 rfl ?_
  refine gR_X11_1 C ly_0 rfl wf_X11_19 dX11_state_1 ?_
  refine gI_X2_1 C ly_3 rfl wf_X11_72 dX11_state_4 ?_
  refine G_istore_n (L' := [rv 0, iv v1, iv (s 3 1)]) C dX11_state_7 (by decide) rfl ?_
  refine G_aload_n C dX11_state_8 rfl ?_
  refine gR_X11_1 C ly_0 rfl wf_X11_19 dX11_state_9 ?_
  refine G_iload_n C dX11_state_12 rfl ?_
  refine gP_X2_1 C ly_3 rfl wf_X11_72 dX11_state_13 ?_
  have h := h _ rfl
  obtain ⟨s1, e1⟩ : ∃ z, z = up s 3 1 v1 := ⟨_, rfl⟩
  rw [← e1] at h ⊢
  refine G_iload_n C dX11_state_16 rfl ?_
  exact r _ _ _ _ dX11_state_17 h
set_option maxRecDepth 20000 in
theorem kb_X11_letters_0 {X : Cx} {d : Nat} {P : Int → Sto → Prop} (C : Ok LY X RX11 cX11_letters 2 d) (r : RetZ LY X cX11_letters P) {v1 : Int} {s : Sto} (h : ((rg v1) ∧ ((v1 < 2 → P 0 s) ∧ (2 ≤ v1 → ((rg v1) ∧ ((v1 ≤ 8 → (CallV LY d MX2_beginAnew [.inr 3, .inl v1] s (fun s1 => P 1 s1))) ∧ (8 < v1 → P 0 s))))))) : G LY X 0 [rv 0, iv v1] [] s := by
  refine G_iload_n C dX11_letters_0 rfl ?_
  refine G_iconst C dX11_letters_1 ?_
  refine G_icmp_lt (tgt := 11) C dX11_letters_2 (by decide) ⟨h.1, (by decide)⟩ (fun q => ?_) (fun q => ?_)
  · have h := h.2.1 q
    refine G_iconst C dX11_letters_11 ?_
    exact r _ _ _ _ dX11_letters_12 (by decide) h
  · have h := h.2.2 q
    refine G_iload_n C dX11_letters_5 rfl ?_
    refine G_bipush C dX11_letters_6 bi_8 ?_
    refine G_icmp_le (tgt := 13) C dX11_letters_8 (by decide) ⟨h.1, (by decide)⟩ (fun q => ?_) (fun q => ?_)
    · have h := h.2.1 q
      refine G_aload_n C dX11_letters_13 rfl ?_
      refine gR_X11_1 C ly_0 rfl wf_X11_19 dX11_letters_14 ?_
      refine G_iload_n C dX11_letters_17 rfl ?_
      refine G_callVV (K := []) (args := [.inl v1]) (T := TX2) (N := 16) C ly_3 rfl (Nat.le_of_ble_eq_true rfl) mo_X2_beginAnew wc_X11_76 rfl dX11_letters_18 h (fun s1 h => ?_)
      refine G_iconst C dX11_letters_21 ?_
      exact r _ _ _ _ dX11_letters_22 (by decide) h
    · have h := h.2.2 q
      refine G_iconst C dX11_letters_11 ?_
      exact r _ _ _ _ dX11_letters_12 (by decide) h
set_option maxRecDepth 20000 in
theorem kb_X11_feed_0 {X : Cx} {d : Nat} {P : Int → Sto → Prop} (C : Ok LY X RX11 cX11_feed 6 d) (r : RetI LY X cX11_feed P) {v1 v2 v3 v4 v5 : Int} {s : Sto} (h : ((rg ((s 1 1) + 20)) ∧ ((((s 1 1) + 20) ≤ 400 → (CallV LY d MX9_add [.inr 1, .inl v1] s (fun s1 => (CallV LY d MX9_add [.inr 1, .inl v2] s1 (fun s2 => (CallV LY d MX9_add [.inr 1, .inl v3] s2 (fun s3 => (CallV LY d MX9_add [.inr 1, .inl v4] s3 (fun s4 => (CallV LY d MX9_add [.inr 1, .inl v5] s4 (fun s5 => P (s5 1 1) s5))))))))))) ∧ (400 < ((s 1 1) + 20) → P (-1) s)))) : G LY X 0 [rv 0, iv v1, iv v2, iv v3, iv v4, iv v5] [] s := by
  refine G_aload_n C dX11_feed_0 rfl ?_
  refine gR_X11_0 C ly_0 rfl wf_X11_12 dX11_feed_1 ?_
  refine gI_X9_1 C ly_1 rfl wf_X11_80 dX11_feed_4 ?_
  refine G_bipush C dX11_feed_7 bi_20 ?_
  refine G_iadd C dX11_feed_9 ?_
  refine G_sipush C dX11_feed_10 si_400 ?_
  refine G_icmp_le (tgt := 18) C dX11_feed_13 (by decide) ⟨h.1, (by decide)⟩ (fun q => ?_) (fun q => ?_)
  · have h := h.2.1 q
    refine G_aload_n C dX11_feed_18 rfl ?_
    refine gR_X11_0 C ly_0 rfl wf_X11_12 dX11_feed_19 ?_
    refine G_iload_n C dX11_feed_22 rfl ?_
    refine G_callVV (K := []) (args := [.inl v1]) (T := TX9) (N := 2) C ly_1 rfl (Nat.le_of_ble_eq_true rfl) mo_X9_add wc_X11_83 rfl dX11_feed_23 h (fun s1 h => ?_)
    refine G_aload_n C dX11_feed_26 rfl ?_
    refine gR_X11_0 C ly_0 rfl wf_X11_12 dX11_feed_27 ?_
    refine G_iload_n C dX11_feed_30 rfl ?_
    refine G_callVV (K := []) (args := [.inl v2]) (T := TX9) (N := 2) C ly_1 rfl (Nat.le_of_ble_eq_true rfl) mo_X9_add wc_X11_83 rfl dX11_feed_31 h (fun s2 h => ?_)
    refine G_aload_n C dX11_feed_34 rfl ?_
    refine gR_X11_0 C ly_0 rfl wf_X11_12 dX11_feed_35 ?_
    refine G_iload_n C dX11_feed_38 rfl ?_
    refine G_callVV (K := []) (args := [.inl v3]) (T := TX9) (N := 2) C ly_1 rfl (Nat.le_of_ble_eq_true rfl) mo_X9_add wc_X11_83 rfl dX11_feed_39 h (fun s3 h => ?_)
    refine G_aload_n C dX11_feed_42 rfl ?_
    refine gR_X11_0 C ly_0 rfl wf_X11_12 dX11_feed_43 ?_
    refine G_iload C dX11_feed_46 rfl ?_
    refine G_callVV (K := []) (args := [.inl v4]) (T := TX9) (N := 2) C ly_1 rfl (Nat.le_of_ble_eq_true rfl) mo_X9_add wc_X11_83 rfl dX11_feed_48 h (fun s4 h => ?_)
    refine G_aload_n C dX11_feed_51 rfl ?_
    refine gR_X11_0 C ly_0 rfl wf_X11_12 dX11_feed_52 ?_
    refine G_iload C dX11_feed_55 rfl ?_
    refine G_callVV (K := []) (args := [.inl v5]) (T := TX9) (N := 2) C ly_1 rfl (Nat.le_of_ble_eq_true rfl) mo_X9_add wc_X11_83 rfl dX11_feed_57 h (fun s5 h => ?_)
    refine G_aload_n C dX11_feed_60 rfl ?_
    refine gR_X11_0 C ly_0 rfl wf_X11_12 dX11_feed_61 ?_
    refine gI_X9_1 C ly_1 rfl wf_X11_80 dX11_feed_64 ?_
    exact r _ _ _ _ dX11_feed_67 h
  · have h := h.2.2 q
    refine G_iconst C dX11_feed_16 ?_
    exact r _ _ _ _ dX11_feed_17 h
set_option maxRecDepth 20000 in
theorem kb_X11_end_0 {X : Cx} {d : Nat} {P : Int → Sto → Prop} (C : Ok LY X RX11 cX11_end 2 d) (r : RetZ LY X cX11_end P) {v1 : Int} {s : Sto} (h : ((rg v1) ∧ ((v1 < 0 → P 0 s) ∧ (0 ≤ v1 → ((rg v1 ∧ rg (s 1 1)) ∧ ((v1 ≤ (s 1 1) → (∀ s1 : Sto, s1 = up s 1 1 v1 → P 1 s1)) ∧ ((s 1 1) < v1 → P 0 s))))))) : G LY X 0 [rv 0, iv v1] [] s := by
  refine G_iload_n C dX11_end_0 rfl ?_
  refine G_if_lt (tgt := 15) C dX11_end_1 (by decide) h.1 (fun q => ?_) (fun q => ?_)
  · have h := h.2.1 q
    refine G_iconst C dX11_end_15 ?_
    exact r _ _ _ _ dX11_end_16 (by decide) h
  · have h := h.2.2 q
    refine G_iload_n C dX11_end_4 rfl ?_
    refine G_aload_n C dX11_end_5 rfl ?_
    refine gR_X11_0 C ly_0 rfl wf_X11_12 dX11_end_6 ?_
    refine gI_X9_1 C ly_1 rfl wf_X11_80 dX11_end_9 ?_
    refine G_icmp_le (tgt := 17) C dX11_end_12 (by decide) ⟨h.1.1, h.1.2⟩ (fun q => ?_) (fun q => ?_)
    · have h := h.2.1 q
      refine G_aload_n C dX11_end_17 rfl ?_
      refine gR_X11_0 C ly_0 rfl wf_X11_12 dX11_end_18 ?_
      refine G_iload_n C dX11_end_21 rfl ?_
      refine gP_X9_1 C ly_1 rfl wf_X11_80 dX11_end_22 ?_
      have h := h _ rfl
      obtain ⟨s1, e1⟩ : ∃ z, z = up s 1 1 v1 := ⟨_, rfl⟩
      rw [← e1] at h ⊢
      refine G_iconst C dX11_end_25 ?_
      exact r _ _ _ _ dX11_end_26 (by decide) h
    · have h := h.2.2 q
      refine G_iconst C dX11_end_15 ?_
      exact r _ _ _ _ dX11_end_16 (by decide) h
set_option maxRecDepth 20000 in
theorem kb_X11_text_0 {X : Cx} {d : Nat} {P : Int → Sto → Prop} (C : Ok LY X RX11 cX11_text 2 d) (r : RetI LY X cX11_text P) {s : Sto} (h : (CallI LY d MX8_read [.inr 39, .inr 1] s (fun r1 s1 => (∀ s2 : Sto, s2 = up s1 1 1 0 → ((rg r1) ∧ ((r1 ≠ 0 → (CallV LY d MX4_copyFrom [.inr 17, .inr 42] s2 (fun s3 => P (s3 17 0) s3))) ∧ (r1 = 0 → P (-1) s2))))))) : G LY X 0 [rv 0, none] [] s := by
  refine G_aload_n C dX11_text_0 rfl ?_
  refine gR_X11_4 C ly_0 rfl wf_X11_33 dX11_text_1 ?_
  refine G_aload_n C dX11_text_4 rfl ?_
  refine gR_X11_0 C ly_0 rfl wf_X11_12 dX11_text_5 ?_
  refine G_callVI (K := []) (args := [.inr 1]) (T := TX8) (N := 6) C ly_39 rfl (Nat.le_of_ble_eq_true rfl) mo_X8_read wc_X11_86 rfl dX11_text_8 h (fun r1 s1 h => ?_)
  refine G_istore_n (L' := [rv 0, iv r1]) C dX11_text_11 (by decide) rfl ?_
  refine G_aload_n C dX11_text_12 rfl ?_
  refine gR_X11_0 C ly_0 rfl wf_X11_12 dX11_text_13 ?_
  refine G_iconst C dX11_text_16 ?_
  refine gP_X9_1 C ly_1 rfl wf_X11_80 dX11_text_17 ?_
  have h := h _ rfl
  obtain ⟨s2, e2⟩ : ∃ z, z = up s1 1 1 0 := ⟨_, rfl⟩
  rw [← e2] at h ⊢
  refine G_iload_n C dX11_text_20 rfl ?_
  refine G_if_ne (tgt := 26) C dX11_text_21 (by decide) h.1 (fun q => ?_) (fun q => ?_)
  · have h := h.2.1 q
    refine G_aload_n C dX11_text_26 rfl ?_
    refine gR_X11_1 C ly_0 rfl wf_X11_19 dX11_text_27 ?_
    refine gR_X2_15 C ly_3 rfl wf_X11_90 dX11_text_30 ?_
    refine G_aload_n C dX11_text_33 rfl ?_
    refine gR_X11_4 C ly_0 rfl wf_X11_33 dX11_text_34 ?_
    refine gR_X8_2 C ly_39 rfl wf_X11_94 dX11_text_37 ?_
    refine G_callVV (K := []) (args := [.inr 42]) (T := TX4) (N := 5) C ly_17 rfl (Nat.le_of_ble_eq_true rfl) mo_X4_copyFrom wc_X11_97 rfl dX11_text_40 h (fun s3 h => ?_)
    refine G_aload_n C dX11_text_43 rfl ?_
    refine gR_X11_1 C ly_0 rfl wf_X11_19 dX11_text_44 ?_
    refine gR_X2_15 C ly_3 rfl wf_X11_90 dX11_text_47 ?_
    refine gI_X4_0 C ly_17 rfl wf_X11_103 dX11_text_50 ?_
    exact r _ _ _ _ dX11_text_53 h
  · have h := h.2.2 q
    refine G_iconst C dX11_text_24 ?_
    exact r _ _ _ _ dX11_text_25 h
set_option maxRecDepth 20000 in
theorem kb_X11_fault_0 {X : Cx} {d : Nat} {P : Int → Sto → Prop} (C : Ok LY X RX11 cX11_fault 2 d) (r : RetI LY X cX11_fault P) {v1 : Int} {s : Sto} (h : ((rg v1) ∧ ((v1 ≠ 0 → ((rg v1) ∧ ((v1 ≠ 1 → P (-1) s) ∧ (v1 = 1 → P (s 39 5) s)))) ∧ (v1 = 0 → P (s 39 4) s)))) : G LY X 0 [rv 0, iv v1] [] s := by
  refine G_iload_n C dX11_fault_0 rfl ?_
  refine G_if_ne (tgt := 12) C dX11_fault_1 (by decide) h.1 (fun q => ?_) (fun q => ?_)
  · have h := h.2.1 q
    refine G_iload_n C dX11_fault_12 rfl ?_
    refine G_iconst C dX11_fault_13 ?_
    refine G_icmp_ne (tgt := 27) C dX11_fault_14 (by decide) ⟨h.1, (by decide)⟩ (fun q => ?_) (fun q => ?_)
    · have h := h.2.1 q
      refine G_iconst C dX11_fault_27 ?_
      exact r _ _ _ _ dX11_fault_28 h
    · have h := h.2.2 q
      refine G_aload_n C dX11_fault_17 rfl ?_
      refine gR_X11_4 C ly_0 rfl wf_X11_33 dX11_fault_18 ?_
      refine gI_X8_5 C ly_39 rfl wf_X11_109 dX11_fault_21 ?_
      refine G_goto (tgt := 28) C dX11_fault_24 (by decide) ?_
      exact r _ _ _ _ dX11_fault_28 h
  · have h := h.2.2 q
    refine G_aload_n C dX11_fault_4 rfl ?_
    refine gR_X11_4 C ly_0 rfl wf_X11_33 dX11_fault_5 ?_
    refine gI_X8_4 C ly_39 rfl wf_X11_106 dX11_fault_8 ?_
    exact r _ _ _ _ dX11_fault_11 h
set_option maxRecDepth 20000 in
theorem kb_X11_person_0 {X : Cx} {d : Nat} {P : Int → Sto → Prop} (C : Ok LY X RX11 cX11_person 5 d) (r : RetI LY X cX11_person P) {v1 v2 v3 : Int} {s : Sto} (h : (CallI LY d MX9_nameOnce [.inr 1] s (fun r1 s1 => ((rg r1) ∧ ((r1 = (-1) → P (-1) s1) ∧ (r1 ≠ (-1) → ((rg v1) ∧ ((v1 < 0 → P (-1) s1) ∧ (0 ≤ v1 → ((rg v1) ∧ ((1 < v1 → P (-1) s1) ∧ (v1 ≤ 1 → ((rg v2) ∧ ((v2 < 0 → P (-1) s1) ∧ (0 ≤ v2 → ((rg v2) ∧ ((99 < v2 → P (-1) s1) ∧ (v2 ≤ 99 → ((rg v3) ∧ ((v3 < 0 → P (-1) s1) ∧ (0 ≤ v3 → ((rg v3) ∧ ((v3 ≤ 9999 → (CallI LY d MX6_add [.inr 5, .inl r1, .inl v1, .inl v2, .inl v3] s1 (fun r2 s2 => P r2 s2))) ∧ (9999 < v3 → P (-1) s1)))))))))))))))))))))))) : G LY X 0 [rv 0, iv v1, iv v2, iv v3, none] [] s := by
  refine G_aload_n C dX11_person_0 rfl ?_
  refine gR_X11_0 C ly_0 rfl wf_X11_12 dX11_person_1 ?_
  refine G_callVI (K := []) (args := []) (T := TX9) (N := 2) C ly_1 rfl (Nat.le_of_ble_eq_true rfl) mo_X9_nameOnce wc_X11_112 rfl dX11_person_4 h (fun r1 s1 h => ?_)
  refine G_istore (L' := [rv 0, iv v1, iv v2, iv v3, iv r1]) C dX11_person_7 (by decide) rfl ?_
  refine G_iload C dX11_person_9 rfl ?_
  refine G_iconst C dX11_person_11 ?_
  refine G_icmp_eq (tgt := 45) C dX11_person_12 (by decide) ⟨h.1, (by decide)⟩ (fun q => ?_) (fun q => ?_)
  · have h := h.2.1 q
    refine G_iconst C dX11_person_45 ?_
    exact r _ _ _ _ dX11_person_46 h
  · have h := h.2.2 q
    refine G_iload_n C dX11_person_15 rfl ?_
    refine G_if_lt (tgt := 45) C dX11_person_16 (by decide) h.1 (fun q => ?_) (fun q => ?_)
    · have h := h.2.1 q
      refine G_iconst C dX11_person_45 ?_
      exact r _ _ _ _ dX11_person_46 h
    · have h := h.2.2 q
      refine G_iload_n C dX11_person_19 rfl ?_
      refine G_iconst C dX11_person_20 ?_
      refine G_icmp_gt (tgt := 45) C dX11_person_21 (by decide) ⟨h.1, (by decide)⟩ (fun q => ?_) (fun q => ?_)
      · have h := h.2.1 q
        refine G_iconst C dX11_person_45 ?_
        exact r _ _ _ _ dX11_person_46 h
      · have h := h.2.2 q
        refine G_iload_n C dX11_person_24 rfl ?_
        refine G_if_lt (tgt := 45) C dX11_person_25 (by decide) h.1 (fun q => ?_) (fun q => ?_)
        · have h := h.2.1 q
          refine G_iconst C dX11_person_45 ?_
          exact r _ _ _ _ dX11_person_46 h
        · have h := h.2.2 q
          refine G_iload_n C dX11_person_28 rfl ?_
          refine G_bipush C dX11_person_29 bi_99 ?_
          refine G_icmp_gt (tgt := 45) C dX11_person_31 (by decide) ⟨h.1, (by decide)⟩ (fun q => ?_) (fun q => ?_)
          · have h := h.2.1 q
            refine G_iconst C dX11_person_45 ?_
            exact r _ _ _ _ dX11_person_46 h
          · have h := h.2.2 q
            refine G_iload_n C dX11_person_34 rfl ?_
            refine G_if_lt (tgt := 45) C dX11_person_35 (by decide) h.1 (fun q => ?_) (fun q => ?_)
            · have h := h.2.1 q
              refine G_iconst C dX11_person_45 ?_
              exact r _ _ _ _ dX11_person_46 h
            · have h := h.2.2 q
              refine G_iload_n C dX11_person_38 rfl ?_
              refine G_sipush C dX11_person_39 si_9999 ?_
              refine G_icmp_le (tgt := 47) C dX11_person_42 (by decide) ⟨h.1, (by decide)⟩ (fun q => ?_) (fun q => ?_)
              · have h := h.2.1 q
                refine G_aload_n C dX11_person_47 rfl ?_
                refine gR_X11_1 C ly_0 rfl wf_X11_19 dX11_person_48 ?_
                refine gR_X2_5 C ly_3 rfl wf_X11_116 dX11_person_51 ?_
                refine G_iload C dX11_person_54 rfl ?_
                refine G_iload_n C dX11_person_56 rfl ?_
                refine G_iload_n C dX11_person_57 rfl ?_
                refine G_iload_n C dX11_person_58 rfl ?_
                refine G_callVI (K := []) (args := [.inl r1, .inl v1, .inl v2, .inl v3]) (T := TX6) (N := 5) C ly_5 rfl (Nat.le_of_ble_eq_true rfl) mo_X6_add wc_X11_120 rfl dX11_person_59 h (fun r2 s2 h => ?_)
                exact r _ _ _ _ dX11_person_62 h
              · have h := h.2.2 q
                refine G_iconst C dX11_person_45 ?_
                exact r _ _ _ _ dX11_person_46 h
set_option maxRecDepth 20000 in
theorem kb_X11_named_0 {X : Cx} {d : Nat} {P : Int → Sto → Prop} (C : Ok LY X RX11 cX11_named 3 d) (r : RetZ LY X cX11_named P) {v1 : Int} {s : Sto} (h : (CallI LY d MX9_nameOnce [.inr 1] s (fun r1 s1 => ((rg r1) ∧ ((r1 = (-1) → P 0 s1) ∧ (r1 ≠ (-1) → (CallI LY d MX6_has [.inr 5, .inl v1] s1 (fun r2 s2 => ((rg r2) ∧ ((r2 ≠ 0 → ((0 ≤ v1 ∧ v1 < 20) ∧ (∀ s3 : Sto, s3 = up s2 6 v1 r1 → P 1 s3))) ∧ (r2 = 0 → P 0 s2))))))))))) : G LY X 0 [rv 0, iv v1, none] [] s := by
  refine G_aload_n C dX11_named_0 rfl ?_
  refine gR_X11_0 C ly_0 rfl wf_X11_12 dX11_named_1 ?_
  refine G_callVI (K := []) (args := []) (T := TX9) (N := 2) C ly_1 rfl (Nat.le_of_ble_eq_true rfl) mo_X9_nameOnce wc_X11_112 rfl dX11_named_4 h (fun r1 s1 h => ?_)
  refine G_istore_n (L' := [rv 0, iv v1, iv r1]) C dX11_named_7 (by decide) rfl ?_
  refine G_iload_n C dX11_named_8 rfl ?_
  refine G_iconst C dX11_named_9 ?_
  refine G_icmp_eq (tgt := 27) C dX11_named_10 (by decide) ⟨h.1, (by decide)⟩ (fun q => ?_) (fun q => ?_)
  · have h := h.2.1 q
    refine G_iconst C dX11_named_27 ?_
    exact r _ _ _ _ dX11_named_28 (by decide) h
  · have h := h.2.2 q
    refine G_aload_n C dX11_named_13 rfl ?_
    refine gR_X11_1 C ly_0 rfl wf_X11_19 dX11_named_14 ?_
    refine gR_X2_5 C ly_3 rfl wf_X11_116 dX11_named_17 ?_
    refine G_iload_n C dX11_named_20 rfl ?_
    refine G_callVI (K := []) (args := [.inl v1]) (T := TX6) (N := 5) C ly_5 rfl (Nat.le_of_ble_eq_true rfl) mo_X6_has wc_X11_125 rfl dX11_named_21 h (fun r2 s2 h => ?_)
    refine G_if_ne (tgt := 29) C dX11_named_24 (by decide) h.1 (fun q => ?_) (fun q => ?_)
    · have h := h.2.1 q
      refine G_aload_n C dX11_named_29 rfl ?_
      refine gR_X11_1 C ly_0 rfl wf_X11_19 dX11_named_30 ?_
      refine gR_X2_5 C ly_3 rfl wf_X11_116 dX11_named_33 ?_
      refine gR_X6_1 C ly_5 rfl wf_X11_129 dX11_named_36 ?_
      refine G_iload_n C dX11_named_39 rfl ?_
      refine G_iload_n C dX11_named_40 rfl ?_
      refine G_iast C ly_6 (by decide) h.1 dX11_named_41 ?_
      have h := h.2
      have h := h _ rfl
      obtain ⟨s3, e3⟩ : ∃ z, z = up s2 6 v1 r1 := ⟨_, rfl⟩
      rw [← e3] at h ⊢
      refine G_iconst C dX11_named_42 ?_
      exact r _ _ _ _ dX11_named_43 (by decide) h
    · have h := h.2.2 q
      refine G_iconst C dX11_named_27 ?_
      exact r _ _ _ _ dX11_named_28 (by decide) h
set_option maxRecDepth 20000 in
theorem kb_X11_alphabet_0 {X : Cx} {d : Nat} {P : Int → Sto → Prop} (C : Ok LY X RX11 cX11_alphabet 2 d) (r : RetZ LY X cX11_alphabet P) {s : Sto} (h : (CallI LY d MX9_orderOnce [.inr 1, .inl (s 3 0)] s (fun r1 s1 => ((rg r1) ∧ ((r1 ≠ (-1) → (∀ s2 : Sto, s2 = up s1 3 2 r1 → P 1 s2)) ∧ (r1 = (-1) → P 0 s1)))))) : G LY X 0 [rv 0, none] [] s := by
  refine G_aload_n C dX11_alphabet_0 rfl ?_
  refine gR_X11_0 C ly_0 rfl wf_X11_12 dX11_alphabet_1 ?_
  refine G_aload_n C dX11_alphabet_4 rfl ?_
  refine gR_X11_1 C ly_0 rfl wf_X11_19 dX11_alphabet_5 ?_
  refine gI_X2_0 C ly_3 rfl wf_X11_133 dX11_alphabet_8 ?_
  refine G_callVI (K := []) (args := [.inl (s 3 0)]) (T := TX9) (N := 2) C ly_1 rfl (Nat.le_of_ble_eq_true rfl) mo_X9_orderOnce wc_X11_136 rfl dX11_alphabet_11 h (fun r1 s1 h => ?_)
  refine G_istore_n (L' := [rv 0, iv r1]) C dX11_alphabet_14 (by decide) rfl ?_
  refine G_iload_n C dX11_alphabet_15 rfl ?_
  refine G_iconst C dX11_alphabet_16 ?_
  refine G_icmp_ne (tgt := 22) C dX11_alphabet_17 (by decide) ⟨h.1, (by decide)⟩ (fun q => ?_) (fun q => ?_)
  · have h := h.2.1 q
    refine G_aload_n C dX11_alphabet_22 rfl ?_
    refine gR_X11_1 C ly_0 rfl wf_X11_19 dX11_alphabet_23 ?_
    refine G_iload_n C dX11_alphabet_26 rfl ?_
    refine gP_X2_2 C ly_3 rfl wf_X11_140 dX11_alphabet_27 ?_
    have h := h _ rfl
    obtain ⟨s2, e2⟩ : ∃ z, z = up s1 3 2 r1 := ⟨_, rfl⟩
    rw [← e2] at h ⊢
    refine G_iconst C dX11_alphabet_30 ?_
    exact r _ _ _ _ dX11_alphabet_31 (by decide) h
  · have h := h.2.2 q
    refine G_iconst C dX11_alphabet_20 ?_
    exact r _ _ _ _ dX11_alphabet_21 (by decide) h
set_option maxRecDepth 20000 in
theorem kb_X11_set_0 {X : Cx} {d : Nat} {P : Int → Sto → Prop} (C : Ok LY X RX11 cX11_set 3 d) (r : RetZ LY X cX11_set P) {v1 v2 : Int} {s : Sto} (h : ((rg v1) ∧ ((v1 < 0 → P 0 s) ∧ (0 ≤ v1 → ((rg v1) ∧ ((7 ≤ v1 → P 0 s) ∧ (v1 < 7 → ((0 ≤ v1 ∧ v1 < 7) ∧ ((rg v2 ∧ rg (stA 500 v1)) ∧ ((v2 < (stA 500 v1) → P 0 s) ∧ ((stA 500 v1) ≤ v2 → ((0 ≤ v1 ∧ v1 < 7) ∧ ((rg v2 ∧ rg (stA 501 v1)) ∧ ((v2 ≤ (stA 501 v1) → ((0 ≤ v1 ∧ v1 < 7) ∧ (∀ s1 : Sto, s1 = up s 4 v1 v2 → P 1 s1))) ∧ ((stA 501 v1) < v2 → P 0 s))))))))))))))) : G LY X 0 [rv 0, iv v1, iv v2] [] s := by
  refine G_iload_n C dX11_set_0 rfl ?_
  refine G_if_lt (tgt := 28) C dX11_set_1 (by decide) h.1 (fun q => ?_) (fun q => ?_)
  · have h := h.2.1 q
    refine G_iconst C dX11_set_28 ?_
    exact r _ _ _ _ dX11_set_29 (by decide) h
  · have h := h.2.2 q
    refine G_iload_n C dX11_set_4 rfl ?_
    refine G_bipush C dX11_set_5 bi_7 ?_
    refine G_icmp_ge (tgt := 28) C dX11_set_7 (by decide) ⟨h.1, (by decide)⟩ (fun q => ?_) (fun q => ?_)
    · have h := h.2.1 q
      refine G_iconst C dX11_set_28 ?_
      exact r _ _ _ _ dX11_set_29 (by decide) h
    · have h := h.2.2 q
      refine G_iload_n C dX11_set_10 rfl ?_
      refine G_gets (q := 500) (nm := "LEAST_SETTING") C (by decide) (ws_792) dX11_set_11 ?_
      refine G_iload_n C dX11_set_14 rfl ?_
      refine G_sald C (by decide) h.1 dX11_set_15 ?_
      have h := h.2
      refine G_icmp_lt (tgt := 28) C dX11_set_16 (by decide) ⟨h.1.1, h.1.2⟩ (fun q => ?_) (fun q => ?_)
      · have h := h.2.1 q
        refine G_iconst C dX11_set_28 ?_
        exact r _ _ _ _ dX11_set_29 (by decide) h
      · have h := h.2.2 q
        refine G_iload_n C dX11_set_19 rfl ?_
        refine G_gets (q := 501) (nm := "GREATEST_SETTING") C (by decide) (ws_794) dX11_set_20 ?_
        refine G_iload_n C dX11_set_23 rfl ?_
        refine G_sald C (by decide) h.1 dX11_set_24 ?_
        have h := h.2
        refine G_icmp_le (tgt := 30) C dX11_set_25 (by decide) ⟨h.1.1, h.1.2⟩ (fun q => ?_) (fun q => ?_)
        · have h := h.2.1 q
          refine G_aload_n C dX11_set_30 rfl ?_
          refine gR_X11_1 C ly_0 rfl wf_X11_19 dX11_set_31 ?_
          refine gR_X2_4 C ly_3 rfl wf_X11_149 dX11_set_34 ?_
          refine G_iload_n C dX11_set_37 rfl ?_
          refine G_iload_n C dX11_set_38 rfl ?_
          refine G_iast C ly_4 (by decide) h.1 dX11_set_39 ?_
          have h := h.2
          have h := h _ rfl
          obtain ⟨s1, e1⟩ : ∃ z, z = up s 4 v1 v2 := ⟨_, rfl⟩
          rw [← e1] at h ⊢
          refine G_iconst C dX11_set_40 ?_
          exact r _ _ _ _ dX11_set_41 (by decide) h
        · have h := h.2.2 q
          refine G_iconst C dX11_set_28 ?_
          exact r _ _ _ _ dX11_set_29 (by decide) h
set_option maxRecDepth 20000 in
theorem kb_X11_site_0 {X : Cx} {d : Nat} {P : Int → Sto → Prop} (C : Ok LY X RX11 cX11_site 7 d) (r : RetZ LY X cX11_site P) {v1 v2 v3 v4 v5 : Int} {s : Sto} (h : ((rg v1) ∧ ((v1 < 0 → P 0 s) ∧ (0 ≤ v1 → ((rg v1) ∧ ((6 ≤ v1 → P 0 s) ∧ (v1 < 6 → ((rg v2) ∧ ((v2 < 0 → P 0 s) ∧ (0 ≤ v2 → ((rg v2) ∧ ((1 < v2 → P 0 s) ∧ (v2 ≤ 1 → ((rg v3) ∧ ((v3 < (-99) → P 0 s) ∧ ((-99) ≤ v3 → ((rg v3) ∧ ((v3 ≤ 99 → ((rg v4) ∧ ((v4 < 0 → P 0 s) ∧ (0 ≤ v4 → ((rg v4) ∧ ((99 < v4 → P 0 s) ∧ (v4 ≤ 99 → ((rg v5) ∧ ((v5 < 0 → P 0 s) ∧ (0 ≤ v5 → ((rg v5) ∧ ((v5 ≤ 20 → ((0 ≤ (v1 * 4) ∧ (v1 * 4) < 24) ∧ (∀ s1 : Sto, s1 = up s 10 (v1 * 4) v2 → ((0 ≤ ((v1 * 4) + 1) ∧ ((v1 * 4) + 1) < 24) ∧ (∀ s2 : Sto, s2 = up s1 10 ((v1 * 4) + 1) v3 → ((0 ≤ ((v1 * 4) + 2) ∧ ((v1 * 4) + 2) < 24) ∧ (∀ s3 : Sto, s3 = up s2 10 ((v1 * 4) + 2) v4 → ((0 ≤ ((v1 * 4) + 3) ∧ ((v1 * 4) + 3) < 24) ∧ (∀ s4 : Sto, s4 = up s3 10 ((v1 * 4) + 3) v5 → P 1 s4))))))))) ∧ (20 < v5 → P 0 s))))))))))))) ∧ (99 < v3 → P 0 s))))))))))))))))))) : G LY X 0 [rv 0, iv v1, iv v2, iv v3, iv v4, iv v5, none] [] s := by
  refine G_iload_n C dX11_site_0 rfl ?_
  refine G_if_lt (tgt := 31) C dX11_site_1 (by decide) h.1 (fun q => ?_) (fun q => ?_)
  · have h := h.2.1 q
    refine G_iconst C dX11_site_31 ?_
    exact r _ _ _ _ dX11_site_32 (by decide) h
  · have h := h.2.2 q
    refine G_iload_n C dX11_site_4 rfl ?_
    refine G_bipush C dX11_site_5 bi_6 ?_
    refine G_icmp_ge (tgt := 31) C dX11_site_7 (by decide) ⟨h.1, (by decide)⟩ (fun q => ?_) (fun q => ?_)
    · have h := h.2.1 q
      refine G_iconst C dX11_site_31 ?_
      exact r _ _ _ _ dX11_site_32 (by decide) h
    · have h := h.2.2 q
      refine G_iload_n C dX11_site_10 rfl ?_
      refine G_if_lt (tgt := 31) C dX11_site_11 (by decide) h.1 (fun q => ?_) (fun q => ?_)
      · have h := h.2.1 q
        refine G_iconst C dX11_site_31 ?_
        exact r _ _ _ _ dX11_site_32 (by decide) h
      · have h := h.2.2 q
        refine G_iload_n C dX11_site_14 rfl ?_
        refine G_iconst C dX11_site_15 ?_
        refine G_icmp_gt (tgt := 31) C dX11_site_16 (by decide) ⟨h.1, (by decide)⟩ (fun q => ?_) (fun q => ?_)
        · have h := h.2.1 q
          refine G_iconst C dX11_site_31 ?_
          exact r _ _ _ _ dX11_site_32 (by decide) h
        · have h := h.2.2 q
          refine G_iload_n C dX11_site_19 rfl ?_
          refine G_bipush C dX11_site_20 bi_m99 ?_
          refine G_icmp_lt (tgt := 31) C dX11_site_22 (by decide) ⟨h.1, (by decide)⟩ (fun q => ?_) (fun q => ?_)
          · have h := h.2.1 q
            refine G_iconst C dX11_site_31 ?_
            exact r _ _ _ _ dX11_site_32 (by decide) h
          · have h := h.2.2 q
            refine G_iload_n C dX11_site_25 rfl ?_
            refine G_bipush C dX11_site_26 bi_99 ?_
            refine G_icmp_le (tgt := 33) C dX11_site_28 (by decide) ⟨h.1, (by decide)⟩ (fun q => ?_) (fun q => ?_)
            · have h := h.2.1 q
              refine G_iload C dX11_site_33 rfl ?_
              refine G_if_lt (tgt := 57) C dX11_site_35 (by decide) h.1 (fun q => ?_) (fun q => ?_)
              · have h := h.2.1 q
                refine G_iconst C dX11_site_57 ?_
                exact r _ _ _ _ dX11_site_58 (by decide) h
              · have h := h.2.2 q
                refine G_iload C dX11_site_38 rfl ?_
                refine G_bipush C dX11_site_40 bi_99 ?_
                refine G_icmp_gt (tgt := 57) C dX11_site_42 (by decide) ⟨h.1, (by decide)⟩ (fun q => ?_) (fun q => ?_)
                · have h := h.2.1 q
                  refine G_iconst C dX11_site_57 ?_
                  exact r _ _ _ _ dX11_site_58 (by decide) h
                · have h := h.2.2 q
                  refine G_iload C dX11_site_45 rfl ?_
                  refine G_if_lt (tgt := 57) C dX11_site_47 (by decide) h.1 (fun q => ?_) (fun q => ?_)
                  · have h := h.2.1 q
                    refine G_iconst C dX11_site_57 ?_
                    exact r _ _ _ _ dX11_site_58 (by decide) h
                  · have h := h.2.2 q
                    refine G_iload C dX11_site_50 rfl ?_
                    refine G_bipush C dX11_site_52 bi_20 ?_
                    refine G_icmp_le (tgt := 59) C dX11_site_54 (by decide) ⟨h.1, (by decide)⟩ (fun q => ?_) (fun q => ?_)
                    · have h := h.2.1 q
                      refine G_iload_n C dX11_site_59 rfl ?_
                      refine G_iconst C dX11_site_60 ?_
                      refine G_imul C dX11_site_61 ?_
                      refine G_istore (L' := [rv 0, iv v1, iv v2, iv v3, iv v4, iv v5, iv (v1 * 4)]) C dX11_site_62 (by decide) rfl ?_
                      refine G_aload_n C dX11_site_64 rfl ?_
                      refine gR_X11_1 C ly_0 rfl wf_X11_19 dX11_site_65 ?_
                      refine gR_X2_6 C ly_3 rfl wf_X11_152 dX11_site_68 ?_
                      refine G_iload C dX11_site_71 rfl ?_
                      refine G_iload_n C dX11_site_73 rfl ?_
                      refine G_iast C ly_10 (by decide) h.1 dX11_site_74 ?_
                      have h := h.2
                      have h := h _ rfl
                      obtain ⟨s1, e1⟩ : ∃ z, z = up s 10 (v1 * 4) v2 := ⟨_, rfl⟩
                      rw [← e1] at h ⊢
                      refine G_aload_n C dX11_site_75 rfl ?_
                      refine gR_X11_1 C ly_0 rfl wf_X11_19 dX11_site_76 ?_
                      refine gR_X2_6 C ly_3 rfl wf_X11_152 dX11_site_79 ?_
                      refine G_iload C dX11_site_82 rfl ?_
                      refine G_iconst C dX11_site_84 ?_
                      refine G_iadd C dX11_site_85 ?_
                      refine G_iload_n C dX11_site_86 rfl ?_
                      refine G_iast C ly_10 (by decide) h.1 dX11_site_87 ?_
                      have h := h.2
                      have h := h _ rfl
                      obtain ⟨s2, e2⟩ : ∃ z, z = up s1 10 ((v1 * 4) + 1) v3 := ⟨_, rfl⟩
                      rw [← e2] at h ⊢
                      refine G_aload_n C dX11_site_88 rfl ?_
                      refine gR_X11_1 C ly_0 rfl wf_X11_19 dX11_site_89 ?_
                      refine gR_X2_6 C ly_3 rfl wf_X11_152 dX11_site_92 ?_
                      refine G_iload C dX11_site_95 rfl ?_
                      refine G_iconst C dX11_site_97 ?_
                      refine G_iadd C dX11_site_98 ?_
                      refine G_iload C dX11_site_99 rfl ?_
                      refine G_iast C ly_10 (by decide) h.1 dX11_site_101 ?_
                      have h := h.2
                      have h := h _ rfl
                      obtain ⟨s3, e3⟩ : ∃ z, z = up s2 10 ((v1 * 4) + 2) v4 := ⟨_, rfl⟩
                      rw [← e3] at h ⊢
                      refine G_aload_n C dX11_site_102 rfl ?_
                      refine gR_X11_1 C ly_0 rfl wf_X11_19 dX11_site_103 ?_
                      refine gR_X2_6 C ly_3 rfl wf_X11_152 dX11_site_106 ?_
                      refine G_iload C dX11_site_109 rfl ?_
                      refine G_iconst C dX11_site_111 ?_
                      refine G_iadd C dX11_site_112 ?_
                      refine G_iload C dX11_site_113 rfl ?_
                      refine G_iast C ly_10 (by decide) h.1 dX11_site_115 ?_
                      have h := h.2
                      have h := h _ rfl
                      obtain ⟨s4, e4⟩ : ∃ z, z = up s3 10 ((v1 * 4) + 3) v5 := ⟨_, rfl⟩
                      rw [← e4] at h ⊢
                      refine G_iconst C dX11_site_116 ?_
                      exact r _ _ _ _ dX11_site_117 (by decide) h
                    · have h := h.2.2 q
                      refine G_iconst C dX11_site_57 ?_
                      exact r _ _ _ _ dX11_site_58 (by decide) h
            · have h := h.2.2 q
              refine G_iconst C dX11_site_31 ?_
              exact r _ _ _ _ dX11_site_32 (by decide) h
set_option maxRecDepth 20000 in
theorem kb_X11_chance_0 {X : Cx} {d : Nat} {P : Int → Sto → Prop} (C : Ok LY X RX11 cX11_chance 4 d) (r : RetZ LY X cX11_chance P) {v1 v2 : Int} {s : Sto} (h : (CallI LY d MX9_orderOnce [.inr 1, .inl (s 3 0)] s (fun r1 s1 => ((rg r1) ∧ ((r1 = (-1) → P 0 s1) ∧ (r1 ≠ (-1) → ((rg v1) ∧ ((v1 < 0 → P 0 s1) ∧ (0 ≤ v1 → ((rg v1) ∧ ((6 ≤ v1 → P 0 s1) ∧ (v1 < 6 → ((rg v2) ∧ ((v2 < 0 → P 0 s1) ∧ (0 ≤ v2 → ((rg v2) ∧ ((v2 ≤ 99 → ((0 ≤ v1 ∧ v1 < 6) ∧ (∀ s2 : Sto, s2 = up s1 11 v1 r1 → ((0 ≤ v1 ∧ v1 < 6) ∧ (∀ s3 : Sto, s3 = up s2 12 v1 v2 → P 1 s3))))) ∧ (99 < v2 → P 0 s1)))))))))))))))))) : G LY X 0 [rv 0, iv v1, iv v2, none] [] s := by
  refine G_aload_n C dX11_chance_0 rfl ?_
  refine gR_X11_0 C ly_0 rfl wf_X11_12 dX11_chance_1 ?_
  refine G_aload_n C dX11_chance_4 rfl ?_
  refine gR_X11_1 C ly_0 rfl wf_X11_19 dX11_chance_5 ?_
  refine gI_X2_0 C ly_3 rfl wf_X11_133 dX11_chance_8 ?_
  refine G_callVI (K := []) (args := [.inl (s 3 0)]) (T := TX9) (N := 2) C ly_1 rfl (Nat.le_of_ble_eq_true rfl) mo_X9_orderOnce wc_X11_136 rfl dX11_chance_11 h (fun r1 s1 h => ?_)
  refine G_istore_n (L' := [rv 0, iv v1, iv v2, iv r1]) C dX11_chance_14 (by decide) rfl ?_
  refine G_iload_n C dX11_chance_15 rfl ?_
  refine G_iconst C dX11_chance_16 ?_
  refine G_icmp_eq (tgt := 40) C dX11_chance_17 (by decide) ⟨h.1, (by decide)⟩ (fun q => ?_) (fun q => ?_)
  · have h := h.2.1 q
    refine G_iconst C dX11_chance_40 ?_
    exact r _ _ _ _ dX11_chance_41 (by decide) h
  · have h := h.2.2 q
    refine G_iload_n C dX11_chance_20 rfl ?_
    refine G_if_lt (tgt := 40) C dX11_chance_21 (by decide) h.1 (fun q => ?_) (fun q => ?_)
    · have h := h.2.1 q
      refine G_iconst C dX11_chance_40 ?_
      exact r _ _ _ _ dX11_chance_41 (by decide) h
    · have h := h.2.2 q
      refine G_iload_n C dX11_chance_24 rfl ?_
      refine G_bipush C dX11_chance_25 bi_6 ?_
      refine G_icmp_ge (tgt := 40) C dX11_chance_27 (by decide) ⟨h.1, (by decide)⟩ (fun q => ?_) (fun q => ?_)
      · have h := h.2.1 q
        refine G_iconst C dX11_chance_40 ?_
        exact r _ _ _ _ dX11_chance_41 (by decide) h
      · have h := h.2.2 q
        refine G_iload_n C dX11_chance_30 rfl ?_
        refine G_if_lt (tgt := 40) C dX11_chance_31 (by decide) h.1 (fun q => ?_) (fun q => ?_)
        · have h := h.2.1 q
          refine G_iconst C dX11_chance_40 ?_
          exact r _ _ _ _ dX11_chance_41 (by decide) h
        · have h := h.2.2 q
          refine G_iload_n C dX11_chance_34 rfl ?_
          refine G_bipush C dX11_chance_35 bi_99 ?_
          refine G_icmp_le (tgt := 42) C dX11_chance_37 (by decide) ⟨h.1, (by decide)⟩ (fun q => ?_) (fun q => ?_)
          · have h := h.2.1 q
            refine G_aload_n C dX11_chance_42 rfl ?_
            refine gR_X11_1 C ly_0 rfl wf_X11_19 dX11_chance_43 ?_
            refine gR_X2_7 C ly_3 rfl wf_X11_155 dX11_chance_46 ?_
            refine G_iload_n C dX11_chance_49 rfl ?_
            refine G_iload_n C dX11_chance_50 rfl ?_
            refine G_iast C ly_11 (by decide) h.1 dX11_chance_51 ?_
            have h := h.2
            have h := h _ rfl
            obtain ⟨s2, e2⟩ : ∃ z, z = up s1 11 v1 r1 := ⟨_, rfl⟩
            rw [← e2] at h ⊢
            refine G_aload_n C dX11_chance_52 rfl ?_
            refine gR_X11_1 C ly_0 rfl wf_X11_19 dX11_chance_53 ?_
            refine gR_X2_8 C ly_3 rfl wf_X11_158 dX11_chance_56 ?_
            refine G_iload_n C dX11_chance_59 rfl ?_
            refine G_iload_n C dX11_chance_60 rfl ?_
            refine G_iast C ly_12 (by decide) h.1 dX11_chance_61 ?_
            have h := h.2
            have h := h _ rfl
            obtain ⟨s3, e3⟩ : ∃ z, z = up s2 12 v1 v2 := ⟨_, rfl⟩
            rw [← e3] at h ⊢
            refine G_iconst C dX11_chance_62 ?_
            exact r _ _ _ _ dX11_chance_63 (by decide) h
          · have h := h.2.2 q
            refine G_iconst C dX11_chance_40 ?_
            exact r _ _ _ _ dX11_chance_41 (by decide) h
set_option maxRecDepth 20000 in
theorem kb_X11_of_0 {X : Cx} {d : Nat} {P : Int → Sto → Prop} (C : Ok LY X RX11 cX11_of 4 d) (r : RetI LY X cX11_of P) {v1 v2 : Int} {s : Sto} (h : (CallI LY d MX6_has [.inr 5, .inl v1] s (fun r1 s1 => ((rg r1) ∧ ((r1 ≠ 0 → (rg v2 ∧ (((v2 < 0 ∨ 4 < v2) → ((0 ≤ v1 ∧ v1 < 20) ∧ (CallI LY d MX11_letterOfName [.inr 0, .inl (s1 6 v1), .inl v2] s1 (fun r2 s2 => P r2 s2)))) ∧ (v2 = 0 → ((0 ≤ v1 ∧ v1 < 20) ∧ P (s1 7 v1) s1)) ∧ (v2 = 1 → ((0 ≤ v1 ∧ v1 < 20) ∧ P (s1 8 v1) s1)) ∧ (v2 = 2 → ((0 ≤ v1 ∧ v1 < 20) ∧ P (s1 9 v1) s1)) ∧ (v2 = 3 → ((0 ≤ v1 ∧ v1 < 20) ∧ (CallI LY d MX5_nameLength [.inl (s1 6 v1)] s1 (fun r3 s3 => P r3 s3)))) ∧ (v2 = 4 → (CallV LY d MX7_lineUp [.inr 46, .inr 3, .inl (s1 3 2)] s1 (fun s4 => ((0 ≤ v1 ∧ v1 < 20) ∧ P (s4 50 v1) s4))))))) ∧ (r1 = 0 → P (-1000000) s1)))))) : G LY X 0 [rv 0, iv v1, iv v2, none] [] s := by
  refine G_aload_n C dX11_of_0 rfl ?_
  refine gR_X11_1 C ly_0 rfl wf_X11_19 dX11_of_1 ?_
  refine gR_X2_5 C ly_3 rfl wf_X11_116 dX11_of_4 ?_
  refine G_astore_n (L' := [rv 0, iv v1, iv v2, rv 5]) C dX11_of_7 (by decide) rfl ?_
  refine G_aload_n C dX11_of_8 rfl ?_
  refine G_iload_n C dX11_of_9 rfl ?_
  refine G_callVI (K := []) (args := [.inl v1]) (T := TX6) (N := 5) C ly_5 rfl (Nat.le_of_ble_eq_true rfl) mo_X6_has wc_X11_125 rfl dX11_of_10 h (fun r1 s1 h => ?_)
  refine G_if_ne (tgt := 19) C dX11_of_13 (by decide) h.1 (fun q => ?_) (fun q => ?_)
  · have h := h.2.1 q
    refine G_iload_n C dX11_of_19 rfl ?_
    refine G_tabl C dX11_of_20 h.1 (by decide) (by decide) (fun q => ?_) (fun j hj q => ?_)
    · have h := h.2.1 q
      show G LY X 115 [rv 0, iv v1, iv v2, rv 5] [] s1
      refine G_aload_n C dX11_of_115 rfl ?_
      refine G_aload_n C dX11_of_116 rfl ?_
      refine gR_X6_1 C ly_5 rfl wf_X11_129 dX11_of_117 ?_
      refine G_iload_n C dX11_of_120 rfl ?_
      refine G_iald C ly_6 (by decide) h.1 dX11_of_121 ?_
      have h := h.2
      refine G_iload_n C dX11_of_122 rfl ?_
      refine G_callVI (K := []) (args := [.inl (s1 6 v1), .inl v2]) (T := TX11) (N := 10) C ly_0 rfl (Nat.le_of_ble_eq_true rfl) mo_X11_letterOfName wc_X11_183 rfl dX11_of_123 h (fun r2 s2 h => ?_)
      exact r _ _ _ _ dX11_of_126 h
    · match j, hj, q with
      | 0, _, q =>
        have h := h.2.2.1 (by simpa using q)
        show G LY X 56 [rv 0, iv v1, iv v2, rv 5] [] s1
        refine G_aload_n C dX11_of_56 rfl ?_
        refine gR_X6_2 C ly_5 rfl wf_X11_162 dX11_of_57 ?_
        refine G_iload_n C dX11_of_60 rfl ?_
        refine G_iald C ly_7 (by decide) h.1 dX11_of_61 ?_
        have h := h.2
        exact r _ _ _ _ dX11_of_62 h
      | 1, _, q =>
        have h := h.2.2.2.1 (by simpa using q)
        show G LY X 63 [rv 0, iv v1, iv v2, rv 5] [] s1
        refine G_aload_n C dX11_of_63 rfl ?_
        refine gR_X6_3 C ly_5 rfl wf_X11_165 dX11_of_64 ?_
        refine G_iload_n C dX11_of_67 rfl ?_
        refine G_iald C ly_8 (by decide) h.1 dX11_of_68 ?_
        have h := h.2
        exact r _ _ _ _ dX11_of_69 h
      | 2, _, q =>
        have h := h.2.2.2.2.1 (by simpa using q)
        show G LY X 70 [rv 0, iv v1, iv v2, rv 5] [] s1
        refine G_aload_n C dX11_of_70 rfl ?_
        refine gR_X6_4 C ly_5 rfl wf_X11_168 dX11_of_71 ?_
        refine G_iload_n C dX11_of_74 rfl ?_
        refine G_iald C ly_9 (by decide) h.1 dX11_of_75 ?_
        have h := h.2
        exact r _ _ _ _ dX11_of_76 h
      | 3, _, q =>
        have h := h.2.2.2.2.2.1 (by simpa using q)
        show G LY X 77 [rv 0, iv v1, iv v2, rv 5] [] s1
        refine G_aload_n C dX11_of_77 rfl ?_
        refine gR_X6_1 C ly_5 rfl wf_X11_129 dX11_of_78 ?_
        refine G_iload_n C dX11_of_81 rfl ?_
        refine G_iald C ly_6 (by decide) h.1 dX11_of_82 ?_
        have h := h.2
        refine G_callSI (K := []) (args := [.inl (s1 6 v1)]) C (Nat.le_of_ble_eq_true rfl) mo_X5_nameLength wc_X11_171 rfl dX11_of_83 h (fun r3 s3 h => ?_)
        exact r _ _ _ _ dX11_of_86 h
      | 4, _, q =>
        have h := h.2.2.2.2.2.2 (by simpa using q)
        show G LY X 87 [rv 0, iv v1, iv v2, rv 5] [] s1
        refine G_aload_n C dX11_of_87 rfl ?_
        refine gR_X11_5 C ly_0 rfl wf_X11_40 dX11_of_88 ?_
        refine G_aload_n C dX11_of_91 rfl ?_
        refine gR_X11_1 C ly_0 rfl wf_X11_19 dX11_of_92 ?_
        refine G_aload_n C dX11_of_95 rfl ?_
        refine gR_X11_1 C ly_0 rfl wf_X11_19 dX11_of_96 ?_
        refine gI_X2_2 C ly_3 rfl wf_X11_140 dX11_of_99 ?_
        refine G_callVV (K := []) (args := [.inr 3, .inl (s1 3 2)]) (T := TX7) (N := 5) C ly_46 rfl (Nat.le_of_ble_eq_true rfl) mo_X7_lineUp wc_X11_176 rfl dX11_of_102 h (fun s4 h => ?_)
        refine G_aload_n C dX11_of_105 rfl ?_
        refine gR_X11_5 C ly_0 rfl wf_X11_40 dX11_of_106 ?_
        refine gR_X7_3 C ly_46 rfl wf_X11_180 dX11_of_109 ?_
        refine G_iload_n C dX11_of_112 rfl ?_
        refine G_iald C ly_50 (by decide) h.1 dX11_of_113 ?_
        have h := h.2
        exact r _ _ _ _ dX11_of_114 h
  · have h := h.2.2 q
    refine G_ldc C wk_X11_161 (z := (-1000000)) (by decide) dX11_of_16 ?_
    exact r _ _ _ _ dX11_of_18 h
set_option maxRecDepth 20000 in
theorem kb_X11_worth_0 {X : Cx} {d : Nat} {P : Int → Sto → Prop} (C : Ok LY X RX11 cX11_worth 4 d) (r : RetI LY X cX11_worth P) {v1 v2 : Int} {s : Sto} (h : (CallI LY d MX6_has [.inr 5, .inl v1] s (fun r1 s1 => ((rg r1) ∧ ((r1 = 0 → P (-1000000) s1) ∧ (r1 ≠ 0 → ((rg v2) ∧ ((v2 < (-1) → P (-1000000) s1) ∧ ((-1) ≤ v2 → ((rg v2) ∧ ((v2 < 6 → ((rg v2) ∧ ((v2 ≠ (-1) → ((0 ≤ v2 ∧ v2 < 6) ∧ ((rg (s1 11 v2)) ∧ (((s1 11 v2) ≠ (-1) → (CallI LY d MX11_worthBy [.inr 0, .inl v1, .inl (s1 11 v2)] s1 (fun r2 s2 => P r2 s2))) ∧ ((s1 11 v2) = (-1) → P (-1000000) s1))))) ∧ (v2 = (-1) → ((rg (s1 3 2)) ∧ (((s1 3 2) ≠ (-1) → (CallI LY d MX11_worthBy [.inr 0, .inl v1, .inl (s1 3 2)] s1 (fun r3 s3 => P r3 s3))) ∧ ((s1 3 2) = (-1) → P (-1000000) s1))))))) ∧ (6 ≤ v2 → P (-1000000) s1)))))))))))) : G LY X 0 [rv 0, iv v1, iv v2, none] [] s := by
  refine G_aload_n C dX11_worth_0 rfl ?_
  refine gR_X11_1 C ly_0 rfl wf_X11_19 dX11_worth_1 ?_
  refine gR_X2_5 C ly_3 rfl wf_X11_116 dX11_worth_4 ?_
  refine G_iload_n C dX11_worth_7 rfl ?_
  refine G_callVI (K := []) (args := [.inl v1]) (T := TX6) (N := 5) C ly_5 rfl (Nat.le_of_ble_eq_true rfl) mo_X6_has wc_X11_125 rfl dX11_worth_8 h (fun r1 s1 h => ?_)
  refine G_if_eq (tgt := 25) C dX11_worth_11 (by decide) h.1 (fun q => ?_) (fun q => ?_)
  · have h := h.2.1 q
    refine G_ldc C wk_X11_161 (z := (-1000000)) (by decide) dX11_worth_25 ?_
    exact r _ _ _ _ dX11_worth_27 h
  · have h := h.2.2 q
    refine G_iload_n C dX11_worth_14 rfl ?_
    refine G_iconst C dX11_worth_15 ?_
    refine G_icmp_lt (tgt := 25) C dX11_worth_16 (by decide) ⟨h.1, (by decide)⟩ (fun q => ?_) (fun q => ?_)
    · have h := h.2.1 q
      refine G_ldc C wk_X11_161 (z := (-1000000)) (by decide) dX11_worth_25 ?_
      exact r _ _ _ _ dX11_worth_27 h
    · have h := h.2.2 q
      refine G_iload_n C dX11_worth_19 rfl ?_
      refine G_bipush C dX11_worth_20 bi_6 ?_
      refine G_icmp_lt (tgt := 28) C dX11_worth_22 (by decide) ⟨h.1, (by decide)⟩ (fun q => ?_) (fun q => ?_)
      · have h := h.2.1 q
        refine G_iload_n C dX11_worth_28 rfl ?_
        refine G_iconst C dX11_worth_29 ?_
        refine G_icmp_ne (tgt := 43) C dX11_worth_30 (by decide) ⟨h.1, (by decide)⟩ (fun q => ?_) (fun q => ?_)
        · have h := h.2.1 q
          refine G_aload_n C dX11_worth_43 rfl ?_
          refine gR_X11_1 C ly_0 rfl wf_X11_19 dX11_worth_44 ?_
          refine gR_X2_7 C ly_3 rfl wf_X11_155 dX11_worth_47 ?_
          refine G_iload_n C dX11_worth_50 rfl ?_
          refine G_iald C ly_11 (by decide) h.1 dX11_worth_51 ?_
          have h := h.2
          refine G_istore_n (L' := [rv 0, iv v1, iv v2, iv (s1 11 v2)]) C dX11_worth_52 (by decide) rfl ?_
          refine G_iload_n C dX11_worth_53 rfl ?_
          refine G_iconst C dX11_worth_54 ?_
          refine G_icmp_ne (tgt := 63) C dX11_worth_55 (by decide) ⟨h.1, (by decide)⟩ (fun q => ?_) (fun q => ?_)
          · have h := h.2.1 q
            refine G_aload_n C dX11_worth_63 rfl ?_
            refine G_iload_n C dX11_worth_64 rfl ?_
            refine G_iload_n C dX11_worth_65 rfl ?_
            refine G_callVI (K := []) (args := [.inl v1, .inl (s1 11 v2)]) (T := TX11) (N := 10) C ly_0 rfl (Nat.le_of_ble_eq_true rfl) mo_X11_worthBy wc_X11_190 rfl dX11_worth_66 h (fun r2 s2 h => ?_)
            exact r _ _ _ _ dX11_worth_69 h
          · have h := h.2.2 q
            refine G_ldc C wk_X11_161 (z := (-1000000)) (by decide) dX11_worth_58 ?_
            refine G_goto (tgt := 69) C dX11_worth_60 (by decide) ?_
            exact r _ _ _ _ dX11_worth_69 h
        · have h := h.2.2 q
          refine G_aload_n C dX11_worth_33 rfl ?_
          refine gR_X11_1 C ly_0 rfl wf_X11_19 dX11_worth_34 ?_
          refine gI_X2_2 C ly_3 rfl wf_X11_140 dX11_worth_37 ?_
          refine G_goto (tgt := 52) C dX11_worth_40 (by decide) ?_
          refine G_istore_n (L' := [rv 0, iv v1, iv v2, iv (s1 3 2)]) C dX11_worth_52 (by decide) rfl ?_
          refine G_iload_n C dX11_worth_53 rfl ?_
          refine G_iconst C dX11_worth_54 ?_
          refine G_icmp_ne (tgt := 63) C dX11_worth_55 (by decide) ⟨h.1, (by decide)⟩ (fun q => ?_) (fun q => ?_)
          · have h := h.2.1 q
            refine G_aload_n C dX11_worth_63 rfl ?_
            refine G_iload_n C dX11_worth_64 rfl ?_
            refine G_iload_n C dX11_worth_65 rfl ?_
            refine G_callVI (K := []) (args := [.inl v1, .inl (s1 3 2)]) (T := TX11) (N := 10) C ly_0 rfl (Nat.le_of_ble_eq_true rfl) mo_X11_worthBy wc_X11_190 rfl dX11_worth_66 h (fun r3 s3 h => ?_)
            exact r _ _ _ _ dX11_worth_69 h
          · have h := h.2.2 q
            refine G_ldc C wk_X11_161 (z := (-1000000)) (by decide) dX11_worth_58 ?_
            refine G_goto (tgt := 69) C dX11_worth_60 (by decide) ?_
            exact r _ _ _ _ dX11_worth_69 h
      · have h := h.2.2 q
        refine G_ldc C wk_X11_161 (z := (-1000000)) (by decide) dX11_worth_25 ?_
        exact r _ _ _ _ dX11_worth_27 h
set_option maxRecDepth 20000 in
theorem kb_X11_expected_0 {X : Cx} {d : Nat} {P : Int → Sto → Prop} (C : Ok LY X RX11 cX11_expected 6 d) (r : RetI LY X cX11_expected P) {v1 v2 : Int} {s : Sto} (h : (CallI LY d MX6_has [.inr 5, .inl v1] s (fun r1 s1 => ((rg r1) ∧ ((r1 = 0 → P (-1000000) s1) ∧ (r1 ≠ 0 → ((rg v2) ∧ ((v2 < 0 → P (-1000000) s1) ∧ (0 ≤ v2 → ((rg v2) ∧ ((v2 ≤ 1 → G LY X 34 [rv 0, iv v1, iv v2, iv 0, iv 0, iv 0] [] s1) ∧ (1 < v2 → P (-1000000) s1)))))))))))) : G LY X 0 [rv 0, iv v1, iv v2, none, none, none] [] s := by
  refine G_aload_n C dX11_expected_0 rfl ?_
  refine gR_X11_1 C ly_0 rfl wf_X11_19 dX11_expected_1 ?_
  refine gR_X2_5 C ly_3 rfl wf_X11_116 dX11_expected_4 ?_
  refine G_iload_n C dX11_expected_7 rfl ?_
  refine G_callVI (K := []) (args := [.inl v1]) (T := TX6) (N := 5) C ly_5 rfl (Nat.le_of_ble_eq_true rfl) mo_X6_has wc_X11_125 rfl dX11_expected_8 h (fun r1 s1 h => ?_)
  refine G_if_eq (tgt := 23) C dX11_expected_11 (by decide) h.1 (fun q => ?_) (fun q => ?_)
  · have h := h.2.1 q
    refine G_ldc C wk_X11_161 (z := (-1000000)) (by decide) dX11_expected_23 ?_
    exact r _ _ _ _ dX11_expected_25 h
  · have h := h.2.2 q
    refine G_iload_n C dX11_expected_14 rfl ?_
    refine G_if_lt (tgt := 23) C dX11_expected_15 (by decide) h.1 (fun q => ?_) (fun q => ?_)
    · have h := h.2.1 q
      refine G_ldc C wk_X11_161 (z := (-1000000)) (by decide) dX11_expected_23 ?_
      exact r _ _ _ _ dX11_expected_25 h
    · have h := h.2.2 q
      refine G_iload_n C dX11_expected_18 rfl ?_
      refine G_iconst C dX11_expected_19 ?_
      refine G_icmp_le (tgt := 26) C dX11_expected_20 (by decide) ⟨h.1, (by decide)⟩ (fun q => ?_) (fun q => ?_)
      · have h := h.2.1 q
        refine G_iconst C dX11_expected_26 ?_
        refine G_istore_n (L' := [rv 0, iv v1, iv v2, iv 0, none, none]) C dX11_expected_27 (by decide) rfl ?_
        refine G_iconst C dX11_expected_28 ?_
        refine G_istore (L' := [rv 0, iv v1, iv v2, iv 0, iv 0, none]) C dX11_expected_29 (by decide) rfl ?_
        refine G_iconst C dX11_expected_31 ?_
        refine G_istore (L' := [rv 0, iv v1, iv v2, iv 0, iv 0, iv 0]) C dX11_expected_32 (by decide) rfl ?_
        exact h
      · have h := h.2.2 q
        refine G_ldc C wk_X11_161 (z := (-1000000)) (by decide) dX11_expected_23 ?_
        exact r _ _ _ _ dX11_expected_25 h
set_option maxRecDepth 20000 in
theorem kb_X11_expected_34 {X : Cx} {d : Nat} {P : Int → Sto → Prop} (C : Ok LY X RX11 cX11_expected 6 d) (r : RetI LY X cX11_expected P) (h1d : 1 ≤ d) {v1 v2 v3 v4 v5 : Int} {s : Sto} (h : ((rg v5) ∧ ((6 ≤ v5 → ((rg v3) ∧ (CallI LY d MX11_commonPart [.inl (xabs v3), .inl v4] s (fun r1 s1 => ((rg r1) ∧ ((r1 ≠ 0 → ((rg v2) ∧ ((v2 ≠ 0 → ((rg r1 ∧ r1 ≠ 0) ∧ P (xdiv v4 r1) s1)) ∧ (v2 = 0 → ((rg r1 ∧ r1 ≠ 0) ∧ P (xdiv v3 r1) s1))))) ∧ (r1 = 0 → P 0 s1))))))) ∧ (v5 < 6 → ((0 ≤ v5 ∧ v5 < 6) ∧ ((rg (s 11 v5)) ∧ (((s 11 v5) = (-1) → G LY X 34 [rv 0, iv v1, iv v2, iv v3, iv v4, iv (v5 + 1)] [] s) ∧ ((s 11 v5) ≠ (-1) → ((0 ≤ v5 ∧ v5 < 6) ∧ ((rg (s 12 v5)) ∧ (((s 12 v5) ≤ 0 → G LY X 34 [rv 0, iv v1, iv v2, iv v3, iv v4, iv (v5 + 1)] [] s) ∧ (0 < (s 12 v5) → ((0 ≤ v5 ∧ v5 < 6) ∧ (CallI LY d MX11_worthBy [.inr 0, .inl v1, .inl (s 11 v5)] s (fun r2 s2 => ((0 ≤ v5 ∧ v5 < 6) ∧ ((0 ≤ v5 ∧ v5 < 6) ∧ G LY X 34 [rv 0, iv v1, iv v2, iv (v3 + (r2 * (s2 12 v5))), iv (v4 + (s2 12 v5)), iv (v5 + 1)] [] s2))))))))))))))))) : G LY X 34 [rv 0, iv v1, iv v2, iv v3, iv v4, iv v5] [] s := by
  refine G_iload C dX11_expected_34 rfl ?_
  refine G_bipush C dX11_expected_36 bi_6 ?_
  refine G_icmp_ge (tgt := 118) C dX11_expected_38 (by decide) ⟨h.1, (by decide)⟩ (fun q => ?_) (fun q => ?_)
  · have h := h.2.1 q
    refine G_iload_n C dX11_expected_118 rfl ?_
    refine G_abs C h.1 h1d (Nat.le_of_ble_eq_true rfl) ws_866 mabsw dX11_expected_119 ?_
    have h := h.2
    refine G_iload C dX11_expected_122 rfl ?_
    refine G_callSI (K := []) (args := [.inl (xabs v3), .inl v4]) C (Nat.le_of_ble_eq_true rfl) mo_X11_commonPart wc_X11_205 rfl dX11_expected_124 h (fun r1 s1 h => ?_)
    refine G_istore (L' := [rv 0, iv v1, iv v2, iv v3, iv v4, iv r1]) C dX11_expected_127 (by decide) rfl ?_
    refine G_iload C dX11_expected_129 rfl ?_
    refine G_if_ne (tgt := 136) C dX11_expected_131 (by decide) h.1 (fun q => ?_) (fun q => ?_)
    · have h := h.2.1 q
      refine G_iload_n C dX11_expected_136 rfl ?_
      refine G_if_ne (tgt := 147) C dX11_expected_137 (by decide) h.1 (fun q => ?_) (fun q => ?_)
      · have h := h.2.1 q
        refine G_iload C dX11_expected_147 rfl ?_
        refine G_iload C dX11_expected_149 rfl ?_
        refine G_idiv C dX11_expected_151 h.1 ?_
        have h := h.2
        exact r _ _ _ _ dX11_expected_152 h
      · have h := h.2.2 q
        refine G_iload_n C dX11_expected_140 rfl ?_
        refine G_iload C dX11_expected_141 rfl ?_
        refine G_idiv C dX11_expected_143 h.1 ?_
        have h := h.2
        refine G_goto (tgt := 152) C dX11_expected_144 (by decide) ?_
        exact r _ _ _ _ dX11_expected_152 h
    · have h := h.2.2 q
      refine G_iconst C dX11_expected_134 ?_
      exact r _ _ _ _ dX11_expected_135 h
  · have h := h.2.2 q
    refine G_aload_n C dX11_expected_41 rfl ?_
    refine gR_X11_1 C ly_0 rfl wf_X11_19 dX11_expected_42 ?_
    refine gR_X2_7 C ly_3 rfl wf_X11_155 dX11_expected_45 ?_
    refine G_iload C dX11_expected_48 rfl ?_
    refine G_iald C ly_11 (by decide) h.1 dX11_expected_50 ?_
    have h := h.2
    refine G_iconst C dX11_expected_51 ?_
    refine G_icmp_eq (tgt := 112) C dX11_expected_52 (by decide) ⟨h.1, (by decide)⟩ (fun q => ?_) (fun q => ?_)
    · have h := h.2.1 q
      refine G_iinc (L' := [rv 0, iv v1, iv v2, iv v3, iv v4, iv (v5 + 1)]) C dX11_expected_112 (by decide) rfl rfl ?_
      refine G_goto (tgt := 34) C dX11_expected_115 (by decide) ?_
      exact h
    · have h := h.2.2 q
      refine G_aload_n C dX11_expected_55 rfl ?_
      refine gR_X11_1 C ly_0 rfl wf_X11_19 dX11_expected_56 ?_
      refine gR_X2_8 C ly_3 rfl wf_X11_158 dX11_expected_59 ?_
      refine G_iload C dX11_expected_62 rfl ?_
      refine G_iald C ly_12 (by decide) h.1 dX11_expected_64 ?_
      have h := h.2
      refine G_if_le (tgt := 112) C dX11_expected_65 (by decide) h.1 (fun q => ?_) (fun q => ?_)
      · have h := h.2.1 q
        refine G_iinc (L' := [rv 0, iv v1, iv v2, iv v3, iv v4, iv (v5 + 1)]) C dX11_expected_112 (by decide) rfl rfl ?_
        refine G_goto (tgt := 34) C dX11_expected_115 (by decide) ?_
        exact h
      · have h := h.2.2 q
        refine G_iload_n C dX11_expected_68 rfl ?_
        refine G_aload_n C dX11_expected_69 rfl ?_
        refine G_iload_n C dX11_expected_70 rfl ?_
        refine G_aload_n C dX11_expected_71 rfl ?_
        refine gR_X11_1 C ly_0 rfl wf_X11_19 dX11_expected_72 ?_
        refine gR_X2_7 C ly_3 rfl wf_X11_155 dX11_expected_75 ?_
        refine G_iload C dX11_expected_78 rfl ?_
        refine G_iald C ly_11 (by decide) h.1 dX11_expected_80 ?_
        have h := h.2
        refine G_callVI (K := [.inl v3]) (args := [.inl v1, .inl (s 11 v5)]) (T := TX11) (N := 10) C ly_0 rfl (Nat.le_of_ble_eq_true rfl) mo_X11_worthBy wc_X11_190 rfl dX11_expected_81 h (fun r2 s2 h => ?_)
        refine G_aload_n C dX11_expected_84 rfl ?_
        refine gR_X11_1 C ly_0 rfl wf_X11_19 dX11_expected_85 ?_
        refine gR_X2_8 C ly_3 rfl wf_X11_158 dX11_expected_88 ?_
        refine G_iload C dX11_expected_91 rfl ?_
        refine G_iald C ly_12 (by decide) h.1 dX11_expected_93 ?_
        have h := h.2
        refine G_imul C dX11_expected_94 ?_
        refine G_iadd C dX11_expected_95 ?_
        refine G_istore_n (L' := [rv 0, iv v1, iv v2, iv (v3 + (r2 * (s2 12 v5))), iv v4, iv v5]) C dX11_expected_96 (by decide) rfl ?_
        refine G_iload C dX11_expected_97 rfl ?_
        refine G_aload_n C dX11_expected_99 rfl ?_
        refine gR_X11_1 C ly_0 rfl wf_X11_19 dX11_expected_100 ?_
        refine gR_X2_8 C ly_3 rfl wf_X11_158 dX11_expected_103 ?_
        refine G_iload C dX11_expected_106 rfl ?_
        refine G_iald C ly_12 (by decide) h.1 dX11_expected_108 ?_
        have h := h.2
        refine G_iadd C dX11_expected_109 ?_
        refine G_istore (L' := [rv 0, iv v1, iv v2, iv (v3 + (r2 * (s2 12 v5))), iv (v4 + (s2 12 v5)), iv v5]) C dX11_expected_110 (by decide) rfl ?_
        refine G_iinc (L' := [rv 0, iv v1, iv v2, iv (v3 + (r2 * (s2 12 v5))), iv (v4 + (s2 12 v5)), iv (v5 + 1)]) C dX11_expected_112 (by decide) rfl rfl ?_
        refine G_goto (tgt := 34) C dX11_expected_115 (by decide) ?_
        exact h
set_option maxRecDepth 20000 in
theorem kb_X11_with_0 {X : Cx} {d : Nat} {P : Int → Sto → Prop} (C : Ok LY X RX11 cX11_with 8 d) (r : RetI LY X cX11_with P) {v1 v2 : Int} {s : Sto} (h : (CallI LY d MX9_nameOnce [.inr 1] s (fun r1 s1 => ((rg r1) ∧ ((r1 = (-1) → P (-1000000) s1) ∧ (r1 ≠ (-1) → (CallI LY d MX6_has [.inr 5, .inl v1] s1 (fun r2 s2 => ((rg r2) ∧ ((r2 = 0 → P (-1000000) s2) ∧ (r2 ≠ 0 → ((rg v2) ∧ ((v2 < 0 → P (-1000000) s2) ∧ (0 ≤ v2 → ((rg v2) ∧ ((v2 ≤ 3 → (CallV LY d MX7_payPlaces [.inr 46, .inr 3] s2 (fun s3 => (CallV LY d MX7_lineUp [.inr 46, .inr 3, .inl (s3 3 2)] s3 (fun s4 => ((0 ≤ v1 ∧ v1 < 20) ∧ (CallI LY d MX7_worthOf [.inr 46, .inl v1] s4 (fun r5 s5 => ((rg v2) ∧ ((v2 ≠ 0 → (CallI LY d MX1_feeOf [.inr 52, .inr 4, .inl (s4 6 v1), .inl r1] s5 (fun r6 s6 => ((rg v2) ∧ ((v2 ≠ 1 → (CallI LY d MX7_worthWith [.inr 46, .inr 3, .inl v1, .inl r1] s6 (fun r7 s7 => ((rg v2) ∧ ((v2 ≠ 2 → P r7 s7) ∧ (v2 = 2 → P (((s7 4 5) * (r7 - r5)) - r6) s7)))))) ∧ (v2 = 1 → P r6 s6)))))) ∧ (v2 = 0 → (CallI LY d MX1_allows [.inr 52, .inr 3, .inl v1, .inl (s4 6 v1), .inl r1, .inl r5] s5 (fun r8 s8 => ((rg r8) ∧ ((r8 = 0 → P 0 s8) ∧ (r8 ≠ 0 → P 1 s8)))))))))))))))) ∧ (3 < v2 → P (-1000000) s2))))))))))))))))) : G LY X 0 [rv 0, iv v1, iv v2, none, none, none, none, none] [] s := by
  refine G_aload_n C dX11_with_0 rfl ?_
  refine gR_X11_0 C ly_0 rfl wf_X11_12 dX11_with_1 ?_
  refine G_callVI (K := []) (args := []) (T := TX9) (N := 2) C ly_1 rfl (Nat.le_of_ble_eq_true rfl) mo_X9_nameOnce wc_X11_112 rfl dX11_with_4 h (fun r1 s1 h => ?_)
  refine G_istore_n (L' := [rv 0, iv v1, iv v2, iv r1, none, none, none, none]) C dX11_with_7 (by decide) rfl ?_
  refine G_iload_n C dX11_with_8 rfl ?_
  refine G_iconst C dX11_with_9 ?_
  refine G_icmp_eq (tgt := 36) C dX11_with_10 (by decide) ⟨h.1, (by decide)⟩ (fun q => ?_) (fun q => ?_)
  · have h := h.2.1 q
    refine G_ldc C wk_X11_161 (z := (-1000000)) (by decide) dX11_with_36 ?_
    exact r _ _ _ _ dX11_with_38 h
  · have h := h.2.2 q
    refine G_aload_n C dX11_with_13 rfl ?_
    refine gR_X11_1 C ly_0 rfl wf_X11_19 dX11_with_14 ?_
    refine gR_X2_5 C ly_3 rfl wf_X11_116 dX11_with_17 ?_
    refine G_iload_n C dX11_with_20 rfl ?_
    refine G_callVI (K := []) (args := [.inl v1]) (T := TX6) (N := 5) C ly_5 rfl (Nat.le_of_ble_eq_true rfl) mo_X6_has wc_X11_125 rfl dX11_with_21 h (fun r2 s2 h => ?_)
    refine G_if_eq (tgt := 36) C dX11_with_24 (by decide) h.1 (fun q => ?_) (fun q => ?_)
    · have h := h.2.1 q
      refine G_ldc C wk_X11_161 (z := (-1000000)) (by decide) dX11_with_36 ?_
      exact r _ _ _ _ dX11_with_38 h
    · have h := h.2.2 q
      refine G_iload_n C dX11_with_27 rfl ?_
      refine G_if_lt (tgt := 36) C dX11_with_28 (by decide) h.1 (fun q => ?_) (fun q => ?_)
      · have h := h.2.1 q
        refine G_ldc C wk_X11_161 (z := (-1000000)) (by decide) dX11_with_36 ?_
        exact r _ _ _ _ dX11_with_38 h
      · have h := h.2.2 q
        refine G_iload_n C dX11_with_31 rfl ?_
        refine G_iconst C dX11_with_32 ?_
        refine G_icmp_le (tgt := 39) C dX11_with_33 (by decide) ⟨h.1, (by decide)⟩ (fun q => ?_) (fun q => ?_)
        · have h := h.2.1 q
          refine G_aload_n C dX11_with_39 rfl ?_
          refine gR_X11_5 C ly_0 rfl wf_X11_40 dX11_with_40 ?_
          refine G_aload_n C dX11_with_43 rfl ?_
          refine gR_X11_1 C ly_0 rfl wf_X11_19 dX11_with_44 ?_
          refine G_callVV (K := []) (args := [.inr 3]) (T := TX7) (N := 5) C ly_46 rfl (Nat.le_of_ble_eq_true rfl) mo_X7_payPlaces wc_X11_193 rfl dX11_with_47 h (fun s3 h => ?_)
          refine G_aload_n C dX11_with_50 rfl ?_
          refine gR_X11_5 C ly_0 rfl wf_X11_40 dX11_with_51 ?_
          refine G_aload_n C dX11_with_54 rfl ?_
          refine gR_X11_1 C ly_0 rfl wf_X11_19 dX11_with_55 ?_
          refine G_aload_n C dX11_with_58 rfl ?_
          refine gR_X11_1 C ly_0 rfl wf_X11_19 dX11_with_59 ?_
          refine gI_X2_2 C ly_3 rfl wf_X11_140 dX11_with_62 ?_
          refine G_callVV (K := []) (args := [.inr 3, .inl (s3 3 2)]) (T := TX7) (N := 5) C ly_46 rfl (Nat.le_of_ble_eq_true rfl) mo_X7_lineUp wc_X11_176 rfl dX11_with_65 h (fun s4 h => ?_)
          refine G_aload_n C dX11_with_68 rfl ?_
          refine gR_X11_1 C ly_0 rfl wf_X11_19 dX11_with_69 ?_
          refine gR_X2_5 C ly_3 rfl wf_X11_116 dX11_with_72 ?_
          refine gR_X6_1 C ly_5 rfl wf_X11_129 dX11_with_75 ?_
          refine G_iload_n C dX11_with_78 rfl ?_
          refine G_iald C ly_6 (by decide) h.1 dX11_with_79 ?_
          have h := h.2
          refine G_istore (L' := [rv 0, iv v1, iv v2, iv r1, iv (s4 6 v1), none, none, none]) C dX11_with_80 (by decide) rfl ?_
          refine G_aload_n C dX11_with_82 rfl ?_
          refine gR_X11_5 C ly_0 rfl wf_X11_40 dX11_with_83 ?_
          refine G_iload_n C dX11_with_86 rfl ?_
          refine G_callVI (K := []) (args := [.inl v1]) (T := TX7) (N := 5) C ly_46 rfl (Nat.le_of_ble_eq_true rfl) mo_X7_worthOf wc_X11_197 rfl dX11_with_87 h (fun r5 s5 h => ?_)
          refine G_istore (L' := [rv 0, iv v1, iv v2, iv r1, iv (s4 6 v1), iv r5, none, none]) C dX11_with_90 (by decide) rfl ?_
          refine G_iload_n C dX11_with_92 rfl ?_
          refine G_if_ne (tgt := 122) C dX11_with_93 (by decide) h.1 (fun q => ?_) (fun q => ?_)
          · have h := h.2.1 q
            refine G_aload_n C dX11_with_122 rfl ?_
            refine gR_X11_6 C ly_0 rfl wf_X11_47 dX11_with_123 ?_
            refine G_aload_n C dX11_with_126 rfl ?_
            refine gR_X11_1 C ly_0 rfl wf_X11_19 dX11_with_127 ?_
            refine gR_X2_4 C ly_3 rfl wf_X11_149 dX11_with_130 ?_
            refine G_iload C dX11_with_133 rfl ?_
            refine G_iload_n C dX11_with_135 rfl ?_
            refine G_callVI (K := []) (args := [.inr 4, .inl (s4 6 v1), .inl r1]) (T := TX1) (N := 3) C ly_52 rfl (Nat.le_of_ble_eq_true rfl) mo_X1_feeOf wc_X11_212 rfl dX11_with_136 h (fun r6 s6 h => ?_)
            refine G_istore (L' := [rv 0, iv v1, iv v2, iv r1, iv (s4 6 v1), iv r5, iv r6, none]) C dX11_with_139 (by decide) rfl ?_
            refine G_iload_n C dX11_with_141 rfl ?_
            refine G_iconst C dX11_with_142 ?_
            refine G_icmp_ne (tgt := 149) C dX11_with_143 (by decide) ⟨h.1, (by decide)⟩ (fun q => ?_) (fun q => ?_)
            · have h := h.2.1 q
              refine G_aload_n C dX11_with_149 rfl ?_
              refine gR_X11_5 C ly_0 rfl wf_X11_40 dX11_with_150 ?_
              refine G_aload_n C dX11_with_153 rfl ?_
              refine gR_X11_1 C ly_0 rfl wf_X11_19 dX11_with_154 ?_
              refine G_iload_n C dX11_with_157 rfl ?_
              refine G_iload_n C dX11_with_158 rfl ?_
              refine G_callVI (K := []) (args := [.inr 3, .inl v1, .inl r1]) (T := TX7) (N := 5) C ly_46 rfl (Nat.le_of_ble_eq_true rfl) mo_X7_worthWith wc_X11_216 rfl dX11_with_159 h (fun r7 s7 h => ?_)
              refine G_istore (L' := [rv 0, iv v1, iv v2, iv r1, iv (s4 6 v1), iv r5, iv r6, iv r7]) C dX11_with_162 (by decide) rfl ?_
              refine G_iload_n C dX11_with_164 rfl ?_
              refine G_iconst C dX11_with_165 ?_
              refine G_icmp_ne (tgt := 190) C dX11_with_166 (by decide) ⟨h.1, (by decide)⟩ (fun q => ?_) (fun q => ?_)
              · have h := h.2.1 q
                refine G_iload C dX11_with_190 rfl ?_
                exact r _ _ _ _ dX11_with_192 h
              · have h := h.2.2 q
                refine G_aload_n C dX11_with_169 rfl ?_
                refine gR_X11_1 C ly_0 rfl wf_X11_19 dX11_with_170 ?_
                refine gR_X2_4 C ly_3 rfl wf_X11_149 dX11_with_173 ?_
                refine G_iconst C dX11_with_176 ?_
                refine G_iald C ly_4 (by decide) (by decide) dX11_with_177 ?_
                refine G_iload C dX11_with_178 rfl ?_
                refine G_iload C dX11_with_180 rfl ?_
                refine G_isub C dX11_with_182 ?_
                refine G_imul C dX11_with_183 ?_
                refine G_iload C dX11_with_184 rfl ?_
                refine G_isub C dX11_with_186 ?_
                refine G_goto (tgt := 192) C dX11_with_187 (by decide) ?_
                exact r _ _ _ _ dX11_with_192 h
            · have h := h.2.2 q
              refine G_iload C dX11_with_146 rfl ?_
              exact r _ _ _ _ dX11_with_148 h
          · have h := h.2.2 q
            refine G_aload_n C dX11_with_96 rfl ?_
            refine gR_X11_6 C ly_0 rfl wf_X11_47 dX11_with_97 ?_
            refine G_aload_n C dX11_with_100 rfl ?_
            refine gR_X11_1 C ly_0 rfl wf_X11_19 dX11_with_101 ?_
            refine G_iload_n C dX11_with_104 rfl ?_
            refine G_iload C dX11_with_105 rfl ?_
            refine G_iload_n C dX11_with_107 rfl ?_
            refine G_iload C dX11_with_108 rfl ?_
            refine G_callVI (K := []) (args := [.inr 3, .inl v1, .inl (s4 6 v1), .inl r1, .inl r5]) (T := TX1) (N := 3) C ly_52 rfl (Nat.le_of_ble_eq_true rfl) mo_X1_allows wc_X11_208 rfl dX11_with_110 h (fun r8 s8 h => ?_)
            refine G_if_eq (tgt := 120) C dX11_with_113 (by decide) h.1 (fun q => ?_) (fun q => ?_)
            · have h := h.2.1 q
              refine G_iconst C dX11_with_120 ?_
              exact r _ _ _ _ dX11_with_121 h
            · have h := h.2.2 q
              refine G_iconst C dX11_with_116 ?_
              refine G_goto (tgt := 121) C dX11_with_117 (by decide) ?_
              exact r _ _ _ _ dX11_with_121 h
        · have h := h.2.2 q
          refine G_ldc C wk_X11_161 (z := (-1000000)) (by decide) dX11_with_36 ?_
          exact r _ _ _ _ dX11_with_38 h
set_option maxRecDepth 20000 in
theorem kb_X11_sell_0 {X : Cx} {d : Nat} {P : Int → Sto → Prop} (C : Ok LY X RX11 cX11_sell 2 d) (r : RetI LY X cX11_sell P) {s : Sto} (h : (CallI LY d MX9_nameOnce [.inr 1] s (fun r1 s1 => ((rg r1) ∧ ((r1 = (-1) → P (-1) s1) ∧ (r1 ≠ (-1) → ((rg (s1 3 9)) ∧ (((s1 3 9) < 10 → ((0 ≤ (s1 3 9) ∧ (s1 3 9) < 10) ∧ (∀ s2 : Sto, s2 = up s1 13 (s1 3 9) r1 → (∀ s3 : Sto, s3 = up s2 3 9 ((s2 3 9) + 1) → P ((s3 3 9) - 1) s3)))) ∧ (10 ≤ (s1 3 9) → P (-1) s1))))))))) : G LY X 0 [rv 0, none] [] s := by
  refine G_aload_n C dX11_sell_0 rfl ?_
  refine gR_X11_0 C ly_0 rfl wf_X11_12 dX11_sell_1 ?_
  refine G_callVI (K := []) (args := []) (T := TX9) (N := 2) C ly_1 rfl (Nat.le_of_ble_eq_true rfl) mo_X9_nameOnce wc_X11_112 rfl dX11_sell_4 h (fun r1 s1 h => ?_)
  refine G_istore_n (L' := [rv 0, iv r1]) C dX11_sell_7 (by decide) rfl ?_
  refine G_iload_n C dX11_sell_8 rfl ?_
  refine G_iconst C dX11_sell_9 ?_
  refine G_icmp_eq (tgt := 25) C dX11_sell_10 (by decide) ⟨h.1, (by decide)⟩ (fun q => ?_) (fun q => ?_)
  · have h := h.2.1 q
    refine G_iconst C dX11_sell_25 ?_
    exact r _ _ _ _ dX11_sell_26 h
  · have h := h.2.2 q
    refine G_aload_n C dX11_sell_13 rfl ?_
    refine gR_X11_1 C ly_0 rfl wf_X11_19 dX11_sell_14 ?_
    refine gI_X2_9 C ly_3 rfl wf_X11_220 dX11_sell_17 ?_
    refine G_bipush C dX11_sell_20 bi_10 ?_
    refine G_icmp_lt (tgt := 27) C dX11_sell_22 (by decide) ⟨h.1, (by decide)⟩ (fun q => ?_) (fun q => ?_)
    · have h := h.2.1 q
      refine G_aload_n C dX11_sell_27 rfl ?_
      refine gR_X11_1 C ly_0 rfl wf_X11_19 dX11_sell_28 ?_
      refine gR_X2_10 C ly_3 rfl wf_X11_223 dX11_sell_31 ?_
      refine G_aload_n C dX11_sell_34 rfl ?_
      refine gR_X11_1 C ly_0 rfl wf_X11_19 dX11_sell_35 ?_
      refine gI_X2_9 C ly_3 rfl wf_X11_220 dX11_sell_38 ?_
      refine G_iload_n C dX11_sell_41 rfl ?_
      refine G_iast C ly_13 (by decide) h.1 dX11_sell_42 ?_
      have h := h.2
      have h := h _ rfl
      obtain ⟨s2, e2⟩ : ∃ z, z = up s1 13 (s1 3 9) r1 := ⟨_, rfl⟩
      rw [← e2] at h ⊢
      refine G_aload_n C dX11_sell_43 rfl ?_
      refine gR_X11_1 C ly_0 rfl wf_X11_19 dX11_sell_44 ?_
      refine G_dup C dX11_sell_47 ?_
      refine gI_X2_9 C ly_3 rfl wf_X11_220 dX11_sell_48 ?_
      refine G_iconst C dX11_sell_51 ?_
      refine G_iadd C dX11_sell_52 ?_
      refine gP_X2_9 C ly_3 rfl wf_X11_220 dX11_sell_53 ?_
      have h := h _ rfl
      obtain ⟨s3, e3⟩ : ∃ z, z = up s2 3 9 ((s2 3 9) + 1) := ⟨_, rfl⟩
      rw [← e3] at h ⊢
      refine G_aload_n C dX11_sell_56 rfl ?_
      refine gR_X11_1 C ly_0 rfl wf_X11_19 dX11_sell_57 ?_
      refine gI_X2_9 C ly_3 rfl wf_X11_220 dX11_sell_60 ?_
      refine G_iconst C dX11_sell_63 ?_
      refine G_isub C dX11_sell_64 ?_
      exact r _ _ _ _ dX11_sell_65 h
    · have h := h.2.2 q
      refine G_iconst C dX11_sell_25 ?_
      exact r _ _ _ _ dX11_sell_26 h
set_option maxRecDepth 20000 in
theorem kb_X11_take_0 {X : Cx} {d : Nat} {P : Int → Sto → Prop} (C : Ok LY X RX11 cX11_take 6 d) (r : RetI LY X cX11_take P) {v1 v2 : Int} {s : Sto} (h : (CallI LY d MX6_has [.inr 5, .inl v1] s (fun r1 s1 => ((rg r1) ∧ ((r1 = 0 → P (-1) s1) ∧ (r1 ≠ 0 → ((rg v2) ∧ ((v2 < 0 → P (-1) s1) ∧ (0 ≤ v2 → ((rg v2 ∧ rg (s1 3 9)) ∧ ((v2 < (s1 3 9) → ((0 ≤ v1 ∧ v1 < 20) ∧ ((0 ≤ v2 ∧ v2 < 10) ∧ (CallI LY d MX1_feeOf [.inr 52, .inr 4, .inl (s1 6 v1), .inl (s1 13 v2)] s1 (fun r2 s2 => ((0 ≤ v1 ∧ v1 < 20) ∧ ((rg (s2 9 v1) ∧ rg r2) ∧ (((s2 9 v1) < r2 → P (-1) s2) ∧ (r2 ≤ (s2 9 v1) → (CallI LY d MX11_worthBy [.inr 0, .inl v1, .inl (s2 3 2)] s2 (fun r3 s3 => (CallI LY d MX1_allows [.inr 52, .inr 3, .inl v1, .inl (s1 6 v1), .inl (s1 13 v2), .inl r3] s3 (fun r4 s4 => ((rg r4) ∧ ((r4 ≠ 0 → ((0 ≤ v1 ∧ v1 < 20) ∧ (∀ s5 : Sto, s5 = up s4 6 v1 (s1 13 v2) → ((0 ≤ v1 ∧ v1 < 20) ∧ ((0 ≤ v1 ∧ v1 < 20) ∧ (∀ s6 : Sto, s6 = up s5 9 v1 ((s5 9 v1) - r2) → P r2 s6)))))) ∧ (r4 = 0 → P (-1) s4)))))))))))))))) ∧ ((s1 3 9) ≤ v2 → P (-1) s1)))))))))))) : G LY X 0 [rv 0, iv v1, iv v2, none, none, none] [] s := by
  refine G_aload_n C dX11_take_0 rfl ?_
  refine gR_X11_1 C ly_0 rfl wf_X11_19 dX11_take_1 ?_
  refine gR_X2_5 C ly_3 rfl wf_X11_116 dX11_take_4 ?_
  refine G_iload_n C dX11_take_7 rfl ?_
  refine G_callVI (K := []) (args := [.inl v1]) (T := TX6) (N := 5) C ly_5 rfl (Nat.le_of_ble_eq_true rfl) mo_X6_has wc_X11_125 rfl dX11_take_8 h (fun r1 s1 h => ?_)
  refine G_if_eq (tgt := 29) C dX11_take_11 (by decide) h.1 (fun q => ?_) (fun q => ?_)
  · have h := h.2.1 q
    refine G_iconst C dX11_take_29 ?_
    exact r _ _ _ _ dX11_take_30 h
  · have h := h.2.2 q
    refine G_iload_n C dX11_take_14 rfl ?_
    refine G_if_lt (tgt := 29) C dX11_take_15 (by decide) h.1 (fun q => ?_) (fun q => ?_)
    · have h := h.2.1 q
      refine G_iconst C dX11_take_29 ?_
      exact r _ _ _ _ dX11_take_30 h
    · have h := h.2.2 q
      refine G_iload_n C dX11_take_18 rfl ?_
      refine G_aload_n C dX11_take_19 rfl ?_
      refine gR_X11_1 C ly_0 rfl wf_X11_19 dX11_take_20 ?_
      refine gI_X2_9 C ly_3 rfl wf_X11_220 dX11_take_23 ?_
      refine G_icmp_lt (tgt := 31) C dX11_take_26 (by decide) ⟨h.1.1, h.1.2⟩ (fun q => ?_) (fun q => ?_)
      · have h := h.2.1 q
        refine G_aload_n C dX11_take_31 rfl ?_
        refine gR_X11_1 C ly_0 rfl wf_X11_19 dX11_take_32 ?_
        refine gR_X2_5 C ly_3 rfl wf_X11_116 dX11_take_35 ?_
        refine gR_X6_1 C ly_5 rfl wf_X11_129 dX11_take_38 ?_
        refine G_iload_n C dX11_take_41 rfl ?_
        refine G_iald C ly_6 (by decide) h.1 dX11_take_42 ?_
        have h := h.2
        refine G_istore_n (L' := [rv 0, iv v1, iv v2, iv (s1 6 v1), none, none]) C dX11_take_43 (by decide) rfl ?_
        refine G_aload_n C dX11_take_44 rfl ?_
        refine gR_X11_1 C ly_0 rfl wf_X11_19 dX11_take_45 ?_
        refine gR_X2_10 C ly_3 rfl wf_X11_223 dX11_take_48 ?_
        refine G_iload_n C dX11_take_51 rfl ?_
        refine G_iald C ly_13 (by decide) h.1 dX11_take_52 ?_
        have h := h.2
        refine G_istore (L' := [rv 0, iv v1, iv v2, iv (s1 6 v1), iv (s1 13 v2), none]) C dX11_take_53 (by decide) rfl ?_
        refine G_aload_n C dX11_take_55 rfl ?_
        refine gR_X11_6 C ly_0 rfl wf_X11_47 dX11_take_56 ?_
        refine G_aload_n C dX11_take_59 rfl ?_
        refine gR_X11_1 C ly_0 rfl wf_X11_19 dX11_take_60 ?_
        refine gR_X2_4 C ly_3 rfl wf_X11_149 dX11_take_63 ?_
        refine G_iload_n C dX11_take_66 rfl ?_
        refine G_iload C dX11_take_67 rfl ?_
        refine G_callVI (K := []) (args := [.inr 4, .inl (s1 6 v1), .inl (s1 13 v2)]) (T := TX1) (N := 3) C ly_52 rfl (Nat.le_of_ble_eq_true rfl) mo_X1_feeOf wc_X11_212 rfl dX11_take_69 h (fun r2 s2 h => ?_)
        refine G_istore (L' := [rv 0, iv v1, iv v2, iv (s1 6 v1), iv (s1 13 v2), iv r2]) C dX11_take_72 (by decide) rfl ?_
        refine G_aload_n C dX11_take_74 rfl ?_
        refine gR_X11_1 C ly_0 rfl wf_X11_19 dX11_take_75 ?_
        refine gR_X2_5 C ly_3 rfl wf_X11_116 dX11_take_78 ?_
        refine gR_X6_4 C ly_5 rfl wf_X11_168 dX11_take_81 ?_
        refine G_iload_n C dX11_take_84 rfl ?_
        refine G_iald C ly_9 (by decide) h.1 dX11_take_85 ?_
        have h := h.2
        refine G_iload C dX11_take_86 rfl ?_
        refine G_icmp_lt (tgt := 121) C dX11_take_88 (by decide) ⟨h.1.1, h.1.2⟩ (fun q => ?_) (fun q => ?_)
        · have h := h.2.1 q
          refine G_iconst C dX11_take_121 ?_
          exact r _ _ _ _ dX11_take_122 h
        · have h := h.2.2 q
          refine G_aload_n C dX11_take_91 rfl ?_
          refine gR_X11_6 C ly_0 rfl wf_X11_47 dX11_take_92 ?_
          refine G_aload_n C dX11_take_95 rfl ?_
          refine gR_X11_1 C ly_0 rfl wf_X11_19 dX11_take_96 ?_
          refine G_iload_n C dX11_take_99 rfl ?_
          refine G_iload_n C dX11_take_100 rfl ?_
          refine G_iload C dX11_take_101 rfl ?_
          refine G_aload_n C dX11_take_103 rfl ?_
          refine G_iload_n C dX11_take_104 rfl ?_
          refine G_aload_n C dX11_take_105 rfl ?_
          refine gR_X11_1 C ly_0 rfl wf_X11_19 dX11_take_106 ?_
          refine gI_X2_2 C ly_3 rfl wf_X11_140 dX11_take_109 ?_
          refine G_callVI (K := [.inl (s1 13 v2), .inl (s1 6 v1), .inl v1, .inr 3, .inr 52]) (args := [.inl v1, .inl (s2 3 2)]) (T := TX11) (N := 10) C ly_0 rfl (Nat.le_of_ble_eq_true rfl) mo_X11_worthBy wc_X11_190 rfl dX11_take_112 h (fun r3 s3 h => ?_)
          refine G_callVI (K := []) (args := [.inr 3, .inl v1, .inl (s1 6 v1), .inl (s1 13 v2), .inl r3]) (T := TX1) (N := 3) C ly_52 rfl (Nat.le_of_ble_eq_true rfl) mo_X1_allows wc_X11_208 rfl dX11_take_115 h (fun r4 s4 h => ?_)
          refine G_if_ne (tgt := 123) C dX11_take_118 (by decide) h.1 (fun q => ?_) (fun q => ?_)
          · have h := h.2.1 q
            refine G_aload_n C dX11_take_123 rfl ?_
            refine gR_X11_1 C ly_0 rfl wf_X11_19 dX11_take_124 ?_
            refine gR_X2_5 C ly_3 rfl wf_X11_116 dX11_take_127 ?_
            refine gR_X6_1 C ly_5 rfl wf_X11_129 dX11_take_130 ?_
            refine G_iload_n C dX11_take_133 rfl ?_
            refine G_iload C dX11_take_134 rfl ?_
            refine G_iast C ly_6 (by decide) h.1 dX11_take_136 ?_
            have h := h.2
            have h := h _ rfl
            obtain ⟨s5, e5⟩ : ∃ z, z = up s4 6 v1 (s1 13 v2) := ⟨_, rfl⟩
            rw [← e5] at h ⊢
            refine G_aload_n C dX11_take_137 rfl ?_
            refine gR_X11_1 C ly_0 rfl wf_X11_19 dX11_take_138 ?_
            refine gR_X2_5 C ly_3 rfl wf_X11_116 dX11_take_141 ?_
            refine gR_X6_4 C ly_5 rfl wf_X11_168 dX11_take_144 ?_
            refine G_iload_n C dX11_take_147 rfl ?_
            refine G_dup2 C dX11_take_148 ?_
            refine G_iald C ly_9 (by decide) h.1 dX11_take_149 ?_
            have h := h.2
            refine G_iload C dX11_take_150 rfl ?_
            refine G_isub C dX11_take_152 ?_
            refine G_iast C ly_9 (by decide) h.1 dX11_take_153 ?_
            have h := h.2
            have h := h _ rfl
            obtain ⟨s6, e6⟩ : ∃ z, z = up s5 9 v1 ((s5 9 v1) - r2) := ⟨_, rfl⟩
            rw [← e6] at h ⊢
            refine G_iload C dX11_take_154 rfl ?_
            exact r _ _ _ _ dX11_take_156 h
          · have h := h.2.2 q
            refine G_iconst C dX11_take_121 ?_
            exact r _ _ _ _ dX11_take_122 h
      · have h := h.2.2 q
        refine G_iconst C dX11_take_29 ?_
        exact r _ _ _ _ dX11_take_30 h
set_option maxRecDepth 20000 in
theorem kb_X11_rest_0 {X : Cx} {d : Nat} {P : Int → Sto → Prop} (C : Ok LY X RX11 cX11_rest 2 d) (r : RetI LY X cX11_rest P) {v1 : Int} {s : Sto} (h : ((rg v1) ∧ ((v1 < 0 → P (-1) s) ∧ (0 ≤ v1 → ((rg v1) ∧ ((v1 ≤ 2 → (CallV LY d MX10_goThrough [.inr 56, .inr 3, .inr 46, .inr 52] s (fun s1 => ((rg v1) ∧ ((v1 ≠ 0 → ((rg v1) ∧ ((v1 ≠ 1 → P (s1 56 4) s1) ∧ (v1 = 1 → P (s1 56 3) s1)))) ∧ (v1 = 0 → P (s1 56 2) s1)))))) ∧ (2 < v1 → P (-1) s))))))) : G LY X 0 [rv 0, iv v1] [] s := by
  refine G_iload_n C dX11_rest_0 rfl ?_
  refine G_if_lt (tgt := 9) C dX11_rest_1 (by decide) h.1 (fun q => ?_) (fun q => ?_)
  · have h := h.2.1 q
    refine G_iconst C dX11_rest_9 ?_
    exact r _ _ _ _ dX11_rest_10 h
  · have h := h.2.2 q
    refine G_iload_n C dX11_rest_4 rfl ?_
    refine G_iconst C dX11_rest_5 ?_
    refine G_icmp_le (tgt := 11) C dX11_rest_6 (by decide) ⟨h.1, (by decide)⟩ (fun q => ?_) (fun q => ?_)
    · have h := h.2.1 q
      refine G_aload_n C dX11_rest_11 rfl ?_
      refine gR_X11_7 C ly_0 rfl wf_X11_54 dX11_rest_12 ?_
      refine G_aload_n C dX11_rest_15 rfl ?_
      refine gR_X11_1 C ly_0 rfl wf_X11_19 dX11_rest_16 ?_
      refine G_aload_n C dX11_rest_19 rfl ?_
      refine gR_X11_5 C ly_0 rfl wf_X11_40 dX11_rest_20 ?_
      refine G_aload_n C dX11_rest_23 rfl ?_
      refine gR_X11_6 C ly_0 rfl wf_X11_47 dX11_rest_24 ?_
      refine G_callVV (K := []) (args := [.inr 3, .inr 46, .inr 52]) (T := TX10) (N := 5) C ly_56 rfl (Nat.le_of_ble_eq_true rfl) mo_X10_goThrough wc_X11_226 rfl dX11_rest_27 h (fun s1 h => ?_)
      refine G_iload_n C dX11_rest_30 rfl ?_
      refine G_if_ne (tgt := 42) C dX11_rest_31 (by decide) h.1 (fun q => ?_) (fun q => ?_)
      · have h := h.2.1 q
        refine G_iload_n C dX11_rest_42 rfl ?_
        refine G_iconst C dX11_rest_43 ?_
        refine G_icmp_ne (tgt := 57) C dX11_rest_44 (by decide) ⟨h.1, (by decide)⟩ (fun q => ?_) (fun q => ?_)
        · have h := h.2.1 q
          refine G_aload_n C dX11_rest_57 rfl ?_
          refine gR_X11_7 C ly_0 rfl wf_X11_54 dX11_rest_58 ?_
          refine gI_X10_4 C ly_56 rfl wf_X11_236 dX11_rest_61 ?_
          exact r _ _ _ _ dX11_rest_64 h
        · have h := h.2.2 q
          refine G_aload_n C dX11_rest_47 rfl ?_
          refine gR_X11_7 C ly_0 rfl wf_X11_54 dX11_rest_48 ?_
          refine gI_X10_3 C ly_56 rfl wf_X11_233 dX11_rest_51 ?_
          refine G_goto (tgt := 64) C dX11_rest_54 (by decide) ?_
          exact r _ _ _ _ dX11_rest_64 h
      · have h := h.2.2 q
        refine G_aload_n C dX11_rest_34 rfl ?_
        refine gR_X11_7 C ly_0 rfl wf_X11_54 dX11_rest_35 ?_
        refine gI_X10_2 C ly_56 rfl wf_X11_230 dX11_rest_38 ?_
        exact r _ _ _ _ dX11_rest_41 h
    · have h := h.2.2 q
      refine G_iconst C dX11_rest_9 ?_
      exact r _ _ _ _ dX11_rest_10 h
set_option maxRecDepth 20000 in
theorem kb_X11_wed_0 {X : Cx} {d : Nat} {P : Int → Sto → Prop} (C : Ok LY X RX11 cX11_wed 7 d) (r : RetI LY X cX11_wed P) (h1d : 1 ≤ d) {v1 v2 : Int} {s : Sto} (h : (CallI LY d MX6_has [.inr 5, .inl v1] s (fun r1 s1 => ((rg r1) ∧ ((r1 = 0 → P (-1000000) s1) ∧ (r1 ≠ 0 → ((rg v2) ∧ ((v2 < 0 → P (-1000000) s1) ∧ (0 ≤ v2 → ((rg v2) ∧ ((v2 ≤ 2 → (CallV LY d MX7_payPlaces [.inr 46, .inr 3] s1 (fun s2 => (CallV LY d MX7_lineUp [.inr 46, .inr 3, .inl (s2 3 2)] s2 (fun s3 => (CallI LY d MX11_partnerOf [.inr 0, .inl v1] s3 (fun r4 s4 => ((rg v2) ∧ ((v2 ≠ 0 → ((rg r4) ∧ ((r4 ≠ (-1) → ((0 ≤ v1 ∧ v1 < 20) ∧ ((rg (s4 7 v1)) ∧ (((s4 7 v1) ≠ 0 → ((rg r4 ∧ rg v1) ∧ ((r4 ≠ v1 → (CallI LY d MX7_worthOf [.inr 46, .inl r4] s4 (fun r5 s5 => (CallI LY d MX7_worthOf [.inr 46, .inl v1] s5 (fun r6 s6 => ((rg v2) ∧ ((v2 ≠ 1 → ((rg (r5 - r6)) ∧ P (xabs (r5 - r6)) s6)) ∧ (v2 = 1 → ((rg (r5 - r6)) ∧ (((r5 - r6) < 0 → P v1 s6) ∧ (0 ≤ (r5 - r6) → P r4 s6))))))))))) ∧ (r4 = v1 → (CallI LY d MX7_worthOf [.inr 46, .inl r4] s4 (fun r7 s7 => (CallI LY d MX7_worthOf [.inr 46, .inl r4] s7 (fun r8 s8 => ((rg v2) ∧ ((v2 ≠ 1 → ((rg (r7 - r8)) ∧ P (xabs (r7 - r8)) s8)) ∧ (v2 = 1 → ((rg (r7 - r8)) ∧ (((r7 - r8) < 0 → P r4 s8) ∧ (0 ≤ (r7 - r8) → P r4 s8)))))))))))))) ∧ ((s4 7 v1) = 0 → ((rg v1 ∧ rg v1) ∧ ((v1 ≠ v1 → (CallI LY d MX7_worthOf [.inr 46, .inl v1] s4 (fun r9 s9 => (CallI LY d MX7_worthOf [.inr 46, .inl v1] s9 (fun r10 s10 => ((rg v2) ∧ ((v2 ≠ 1 → ((rg (r9 - r10)) ∧ P (xabs (r9 - r10)) s10)) ∧ (v2 = 1 → ((rg (r9 - r10)) ∧ (((r9 - r10) < 0 → P v1 s10) ∧ (0 ≤ (r9 - r10) → P v1 s10))))))))))) ∧ (v1 = v1 → (CallI LY d MX7_worthOf [.inr 46, .inl v1] s4 (fun r11 s11 => (CallI LY d MX7_worthOf [.inr 46, .inl r4] s11 (fun r12 s12 => ((rg v2) ∧ ((v2 ≠ 1 → ((rg (r11 - r12)) ∧ P (xabs (r11 - r12)) s12)) ∧ (v2 = 1 → ((rg (r11 - r12)) ∧ (((r11 - r12) < 0 → P r4 s12) ∧ (0 ≤ (r11 - r12) → P v1 s12)))))))))))))))))) ∧ (r4 = (-1) → ((rg v2) ∧ ((v2 ≠ 1 → P 0 s4) ∧ (v2 = 1 → P (-1) s4))))))) ∧ (v2 = 0 → P r4 s4)))))))))) ∧ (2 < v2 → P (-1000000) s1)))))))))))) : G LY X 0 [rv 0, iv v1, iv v2, none, none, none, none] [] s := by
  refine G_aload_n C dX11_wed_0 rfl ?_
  refine gR_X11_1 C ly_0 rfl wf_X11_19 dX11_wed_1 ?_
  refine gR_X2_5 C ly_3 rfl wf_X11_116 dX11_wed_4 ?_
  refine G_iload_n C dX11_wed_7 rfl ?_
  refine G_callVI (K := []) (args := [.inl v1]) (T := TX6) (N := 5) C ly_5 rfl (Nat.le_of_ble_eq_true rfl) mo_X6_has wc_X11_125 rfl dX11_wed_8 h (fun r1 s1 h => ?_)
  refine G_if_eq (tgt := 23) C dX11_wed_11 (by decide) h.1 (fun q => ?_) (fun q => ?_)
  · have h := h.2.1 q
    refine G_ldc C wk_X11_161 (z := (-1000000)) (by decide) dX11_wed_23 ?_
    exact r _ _ _ _ dX11_wed_25 h
  · have h := h.2.2 q
    refine G_iload_n C dX11_wed_14 rfl ?_
    refine G_if_lt (tgt := 23) C dX11_wed_15 (by decide) h.1 (fun q => ?_) (fun q => ?_)
    · have h := h.2.1 q
      refine G_ldc C wk_X11_161 (z := (-1000000)) (by decide) dX11_wed_23 ?_
      exact r _ _ _ _ dX11_wed_25 h
    · have h := h.2.2 q
      refine G_iload_n C dX11_wed_18 rfl ?_
      refine G_iconst C dX11_wed_19 ?_
      refine G_icmp_le (tgt := 26) C dX11_wed_20 (by decide) ⟨h.1, (by decide)⟩ (fun q => ?_) (fun q => ?_)
      · have h := h.2.1 q
        refine G_aload_n C dX11_wed_26 rfl ?_
        refine gR_X11_5 C ly_0 rfl wf_X11_40 dX11_wed_27 ?_
        refine G_aload_n C dX11_wed_30 rfl ?_
        refine gR_X11_1 C ly_0 rfl wf_X11_19 dX11_wed_31 ?_
        refine G_callVV (K := []) (args := [.inr 3]) (T := TX7) (N := 5) C ly_46 rfl (Nat.le_of_ble_eq_true rfl) mo_X7_payPlaces wc_X11_193 rfl dX11_wed_34 h (fun s2 h => ?_)
        refine G_aload_n C dX11_wed_37 rfl ?_
        refine gR_X11_5 C ly_0 rfl wf_X11_40 dX11_wed_38 ?_
        refine G_aload_n C dX11_wed_41 rfl ?_
        refine gR_X11_1 C ly_0 rfl wf_X11_19 dX11_wed_42 ?_
        refine G_aload_n C dX11_wed_45 rfl ?_
        refine gR_X11_1 C ly_0 rfl wf_X11_19 dX11_wed_46 ?_
        refine gI_X2_2 C ly_3 rfl wf_X11_140 dX11_wed_49 ?_
        refine G_callVV (K := []) (args := [.inr 3, .inl (s2 3 2)]) (T := TX7) (N := 5) C ly_46 rfl (Nat.le_of_ble_eq_true rfl) mo_X7_lineUp wc_X11_176 rfl dX11_wed_52 h (fun s3 h => ?_)
        refine G_aload_n C dX11_wed_55 rfl ?_
        refine G_iload_n C dX11_wed_56 rfl ?_
        refine G_callVI (K := []) (args := [.inl v1]) (T := TX11) (N := 10) C ly_0 rfl (Nat.le_of_ble_eq_true rfl) mo_X11_partnerOf wc_X11_239 rfl dX11_wed_57 h (fun r4 s4 h => ?_)
        refine G_istore_n (L' := [rv 0, iv v1, iv v2, iv r4, none, none, none]) C dX11_wed_60 (by decide) rfl ?_
        refine G_iload_n C dX11_wed_61 rfl ?_
        refine G_if_ne (tgt := 67) C dX11_wed_62 (by decide) h.1 (fun q => ?_) (fun q => ?_)
        · have h := h.2.1 q
          refine G_iload_n C dX11_wed_67 rfl ?_
          refine G_iconst C dX11_wed_68 ?_
          refine G_icmp_ne (tgt := 83) C dX11_wed_69 (by decide) ⟨h.1, (by decide)⟩ (fun q => ?_) (fun q => ?_)
          · have h := h.2.1 q
            refine G_aload_n C dX11_wed_83 rfl ?_
            refine gR_X11_1 C ly_0 rfl wf_X11_19 dX11_wed_84 ?_
            refine gR_X2_5 C ly_3 rfl wf_X11_116 dX11_wed_87 ?_
            refine gR_X6_2 C ly_5 rfl wf_X11_162 dX11_wed_90 ?_
            refine G_iload_n C dX11_wed_93 rfl ?_
            refine G_iald C ly_7 (by decide) h.1 dX11_wed_94 ?_
            have h := h.2
            refine G_if_ne (tgt := 102) C dX11_wed_95 (by decide) h.1 (fun q => ?_) (fun q => ?_)
            · have h := h.2.1 q
              refine G_iload_n C dX11_wed_102 rfl ?_
              refine G_istore (L' := [rv 0, iv v1, iv v2, iv r4, iv r4, none, none]) C dX11_wed_103 (by decide) rfl ?_
              refine G_iload C dX11_wed_105 rfl ?_
              refine G_iload_n C dX11_wed_107 rfl ?_
              refine G_icmp_ne (tgt := 115) C dX11_wed_108 (by decide) ⟨h.1.1, h.1.2⟩ (fun q => ?_) (fun q => ?_)
              · have h := h.2.1 q
                refine G_iload_n C dX11_wed_115 rfl ?_
                refine G_istore (L' := [rv 0, iv v1, iv v2, iv r4, iv r4, iv v1, none]) C dX11_wed_116 (by decide) rfl ?_
                refine G_aload_n C dX11_wed_118 rfl ?_
                refine gR_X11_5 C ly_0 rfl wf_X11_40 dX11_wed_119 ?_
                refine G_iload C dX11_wed_122 rfl ?_
                refine G_callVI (K := []) (args := [.inl r4]) (T := TX7) (N := 5) C ly_46 rfl (Nat.le_of_ble_eq_true rfl) mo_X7_worthOf wc_X11_197 rfl dX11_wed_124 h (fun r5 s5 h => ?_)
                refine G_aload_n C dX11_wed_127 rfl ?_
                refine gR_X11_5 C ly_0 rfl wf_X11_40 dX11_wed_128 ?_
                refine G_iload C dX11_wed_131 rfl ?_
                refine G_callVI (K := [.inl r5]) (args := [.inl v1]) (T := TX7) (N := 5) C ly_46 rfl (Nat.le_of_ble_eq_true rfl) mo_X7_worthOf wc_X11_197 rfl dX11_wed_133 h (fun r6 s6 h => ?_)
                refine G_isub C dX11_wed_136 ?_
                refine G_istore (L' := [rv 0, iv v1, iv v2, iv r4, iv r4, iv v1, iv (r5 - r6)]) C dX11_wed_137 (by decide) rfl ?_
                refine G_iload_n C dX11_wed_139 rfl ?_
                refine G_iconst C dX11_wed_140 ?_
                refine G_icmp_ne (tgt := 157) C dX11_wed_141 (by decide) ⟨h.1, (by decide)⟩ (fun q => ?_) (fun q => ?_)
                · have h := h.2.1 q
                  refine G_iload C dX11_wed_157 rfl ?_
                  refine G_abs C h.1 h1d (Nat.le_of_ble_eq_true rfl) ws_866 mabsw dX11_wed_159 ?_
                  have h := h.2
                  exact r _ _ _ _ dX11_wed_162 h
                · have h := h.2.2 q
                  refine G_iload C dX11_wed_144 rfl ?_
                  refine G_if_lt (tgt := 154) C dX11_wed_146 (by decide) h.1 (fun q => ?_) (fun q => ?_)
                  · have h := h.2.1 q
                    refine G_iload C dX11_wed_154 rfl ?_
                    exact r _ _ _ _ dX11_wed_156 h
                  · have h := h.2.2 q
                    refine G_iload C dX11_wed_149 rfl ?_
                    refine G_goto (tgt := 156) C dX11_wed_151 (by decide) ?_
                    exact r _ _ _ _ dX11_wed_156 h
              · have h := h.2.2 q
                refine G_iload_n C dX11_wed_111 rfl ?_
                refine G_goto (tgt := 116) C dX11_wed_112 (by decide) ?_
                refine G_istore (L' := [rv 0, iv v1, iv v2, iv r4, iv r4, iv r4, none]) C dX11_wed_116 (by decide) rfl ?_
                refine G_aload_n C dX11_wed_118 rfl ?_
                refine gR_X11_5 C ly_0 rfl wf_X11_40 dX11_wed_119 ?_
                refine G_iload C dX11_wed_122 rfl ?_
                refine G_callVI (K := []) (args := [.inl r4]) (T := TX7) (N := 5) C ly_46 rfl (Nat.le_of_ble_eq_true rfl) mo_X7_worthOf wc_X11_197 rfl dX11_wed_124 h (fun r7 s7 h => ?_)
                refine G_aload_n C dX11_wed_127 rfl ?_
                refine gR_X11_5 C ly_0 rfl wf_X11_40 dX11_wed_128 ?_
                refine G_iload C dX11_wed_131 rfl ?_
                refine G_callVI (K := [.inl r7]) (args := [.inl r4]) (T := TX7) (N := 5) C ly_46 rfl (Nat.le_of_ble_eq_true rfl) mo_X7_worthOf wc_X11_197 rfl dX11_wed_133 h (fun r8 s8 h => ?_)
                refine G_isub C dX11_wed_136 ?_
                refine G_istore (L' := [rv 0, iv v1, iv v2, iv r4, iv r4, iv r4, iv (r7 - r8)]) C dX11_wed_137 (by decide) rfl ?_
                refine G_iload_n C dX11_wed_139 rfl ?_
                refine G_iconst C dX11_wed_140 ?_
                refine G_icmp_ne (tgt := 157) C dX11_wed_141 (by decide) ⟨h.1, (by decide)⟩ (fun q => ?_) (fun q => ?_)
                · have h := h.2.1 q
                  refine G_iload C dX11_wed_157 rfl ?_
                  refine G_abs C h.1 h1d (Nat.le_of_ble_eq_true rfl) ws_866 mabsw dX11_wed_159 ?_
                  have h := h.2
                  exact r _ _ _ _ dX11_wed_162 h
                · have h := h.2.2 q
                  refine G_iload C dX11_wed_144 rfl ?_
                  refine G_if_lt (tgt := 154) C dX11_wed_146 (by decide) h.1 (fun q => ?_) (fun q => ?_)
                  · have h := h.2.1 q
                    refine G_iload C dX11_wed_154 rfl ?_
                    exact r _ _ _ _ dX11_wed_156 h
                  · have h := h.2.2 q
                    refine G_iload C dX11_wed_149 rfl ?_
                    refine G_goto (tgt := 156) C dX11_wed_151 (by decide) ?_
                    exact r _ _ _ _ dX11_wed_156 h
            · have h := h.2.2 q
              refine G_iload_n C dX11_wed_98 rfl ?_
              refine G_goto (tgt := 103) C dX11_wed_99 (by decide) ?_
              refine G_istore (L' := [rv 0, iv v1, iv v2, iv r4, iv v1, none, none]) C dX11_wed_103 (by decide) rfl ?_
              refine G_iload C dX11_wed_105 rfl ?_
              refine G_iload_n C dX11_wed_107 rfl ?_
              refine G_icmp_ne (tgt := 115) C dX11_wed_108 (by decide) ⟨h.1.1, h.1.2⟩ (fun q => ?_) (fun q => ?_)
              · have h := h.2.1 q
                refine G_iload_n C dX11_wed_115 rfl ?_
                refine G_istore (L' := [rv 0, iv v1, iv v2, iv r4, iv v1, iv v1, none]) C dX11_wed_116 (by decide) rfl ?_
                refine G_aload_n C dX11_wed_118 rfl ?_
                refine gR_X11_5 C ly_0 rfl wf_X11_40 dX11_wed_119 ?_
                refine G_iload C dX11_wed_122 rfl ?_
                refine G_callVI (K := []) (args := [.inl v1]) (T := TX7) (N := 5) C ly_46 rfl (Nat.le_of_ble_eq_true rfl) mo_X7_worthOf wc_X11_197 rfl dX11_wed_124 h (fun r9 s9 h => ?_)
                refine G_aload_n C dX11_wed_127 rfl ?_
                refine gR_X11_5 C ly_0 rfl wf_X11_40 dX11_wed_128 ?_
                refine G_iload C dX11_wed_131 rfl ?_
                refine G_callVI (K := [.inl r9]) (args := [.inl v1]) (T := TX7) (N := 5) C ly_46 rfl (Nat.le_of_ble_eq_true rfl) mo_X7_worthOf wc_X11_197 rfl dX11_wed_133 h (fun r10 s10 h => ?_)
                refine G_isub C dX11_wed_136 ?_
                refine G_istore (L' := [rv 0, iv v1, iv v2, iv r4, iv v1, iv v1, iv (r9 - r10)]) C dX11_wed_137 (by decide) rfl ?_
                refine G_iload_n C dX11_wed_139 rfl ?_
                refine G_iconst C dX11_wed_140 ?_
                refine G_icmp_ne (tgt := 157) C dX11_wed_141 (by decide) ⟨h.1, (by decide)⟩ (fun q => ?_) (fun q => ?_)
                · have h := h.2.1 q
                  refine G_iload C dX11_wed_157 rfl ?_
                  refine G_abs C h.1 h1d (Nat.le_of_ble_eq_true rfl) ws_866 mabsw dX11_wed_159 ?_
                  have h := h.2
                  exact r _ _ _ _ dX11_wed_162 h
                · have h := h.2.2 q
                  refine G_iload C dX11_wed_144 rfl ?_
                  refine G_if_lt (tgt := 154) C dX11_wed_146 (by decide) h.1 (fun q => ?_) (fun q => ?_)
                  · have h := h.2.1 q
                    refine G_iload C dX11_wed_154 rfl ?_
                    exact r _ _ _ _ dX11_wed_156 h
                  · have h := h.2.2 q
                    refine G_iload C dX11_wed_149 rfl ?_
                    refine G_goto (tgt := 156) C dX11_wed_151 (by decide) ?_
                    exact r _ _ _ _ dX11_wed_156 h
              · have h := h.2.2 q
                refine G_iload_n C dX11_wed_111 rfl ?_
                refine G_goto (tgt := 116) C dX11_wed_112 (by decide) ?_
                refine G_istore (L' := [rv 0, iv v1, iv v2, iv r4, iv v1, iv r4, none]) C dX11_wed_116 (by decide) rfl ?_
                refine G_aload_n C dX11_wed_118 rfl ?_
                refine gR_X11_5 C ly_0 rfl wf_X11_40 dX11_wed_119 ?_
                refine G_iload C dX11_wed_122 rfl ?_
                refine G_callVI (K := []) (args := [.inl v1]) (T := TX7) (N := 5) C ly_46 rfl (Nat.le_of_ble_eq_true rfl) mo_X7_worthOf wc_X11_197 rfl dX11_wed_124 h (fun r11 s11 h => ?_)
                refine G_aload_n C dX11_wed_127 rfl ?_
                refine gR_X11_5 C ly_0 rfl wf_X11_40 dX11_wed_128 ?_
                refine G_iload C dX11_wed_131 rfl ?_
                refine G_callVI (K := [.inl r11]) (args := [.inl r4]) (T := TX7) (N := 5) C ly_46 rfl (Nat.le_of_ble_eq_true rfl) mo_X7_worthOf wc_X11_197 rfl dX11_wed_133 h (fun r12 s12 h => ?_)
                refine G_isub C dX11_wed_136 ?_
                refine G_istore (L' := [rv 0, iv v1, iv v2, iv r4, iv v1, iv r4, iv (r11 - r12)]) C dX11_wed_137 (by decide) rfl ?_
                refine G_iload_n C dX11_wed_139 rfl ?_
                refine G_iconst C dX11_wed_140 ?_
                refine G_icmp_ne (tgt := 157) C dX11_wed_141 (by decide) ⟨h.1, (by decide)⟩ (fun q => ?_) (fun q => ?_)
                · have h := h.2.1 q
                  refine G_iload C dX11_wed_157 rfl ?_
                  refine G_abs C h.1 h1d (Nat.le_of_ble_eq_true rfl) ws_866 mabsw dX11_wed_159 ?_
                  have h := h.2
                  exact r _ _ _ _ dX11_wed_162 h
                · have h := h.2.2 q
                  refine G_iload C dX11_wed_144 rfl ?_
                  refine G_if_lt (tgt := 154) C dX11_wed_146 (by decide) h.1 (fun q => ?_) (fun q => ?_)
                  · have h := h.2.1 q
                    refine G_iload C dX11_wed_154 rfl ?_
                    exact r _ _ _ _ dX11_wed_156 h
                  · have h := h.2.2 q
                    refine G_iload C dX11_wed_149 rfl ?_
                    refine G_goto (tgt := 156) C dX11_wed_151 (by decide) ?_
                    exact r _ _ _ _ dX11_wed_156 h
          · have h := h.2.2 q
            refine G_iload_n C dX11_wed_72 rfl ?_
            refine G_iconst C dX11_wed_73 ?_
            refine G_icmp_ne (tgt := 81) C dX11_wed_74 (by decide) ⟨h.1, (by decide)⟩ (fun q => ?_) (fun q => ?_)
            · have h := h.2.1 q
              refine G_iconst C dX11_wed_81 ?_
              exact r _ _ _ _ dX11_wed_82 h
            · have h := h.2.2 q
              refine G_iconst C dX11_wed_77 ?_
              refine G_goto (tgt := 82) C dX11_wed_78 (by decide) ?_
              exact r _ _ _ _ dX11_wed_82 h
        · have h := h.2.2 q
          refine G_iload_n C dX11_wed_65 rfl ?_
          exact r _ _ _ _ dX11_wed_66 h
      · have h := h.2.2 q
        refine G_ldc C wk_X11_161 (z := (-1000000)) (by decide) dX11_wed_23 ?_
        exact r _ _ _ _ dX11_wed_25 h
set_option maxRecDepth 20000 in
theorem kb_X11_voter_0 {X : Cx} {d : Nat} {P : Int → Sto → Prop} (C : Ok LY X RX11 cX11_voter 4 d) (r : RetI LY X cX11_voter P) {v1 v2 : Int} {s : Sto} (h : (CallI LY d MX9_orderOnce [.inr 1, .inl (s 3 0)] s (fun r1 s1 => ((rg r1) ∧ ((r1 = (-1) → P (-1) s1) ∧ (r1 ≠ (-1) → ((rg v1) ∧ ((v1 < 1 → P (-1) s1) ∧ (1 ≤ v1 → ((rg v1) ∧ ((9 < v1 → P (-1) s1) ∧ (v1 ≤ 9 → ((rg v2) ∧ ((v2 < 0 → P (-1) s1) ∧ (0 ≤ v2 → ((rg v2) ∧ ((v2 ≤ 999 → (CallI LY d MX2_addVoter [.inr 3, .inl r1, .inl v1, .inl v2] s1 (fun r2 s2 => P r2 s2))) ∧ (999 < v2 → P (-1) s1)))))))))))))))))) : G LY X 0 [rv 0, iv v1, iv v2, none] [] s := by
  refine G_aload_n C dX11_voter_0 rfl ?_
  refine gR_X11_0 C ly_0 rfl wf_X11_12 dX11_voter_1 ?_
  refine G_aload_n C dX11_voter_4 rfl ?_
  refine gR_X11_1 C ly_0 rfl wf_X11_19 dX11_voter_5 ?_
  refine gI_X2_0 C ly_3 rfl wf_X11_133 dX11_voter_8 ?_
  refine G_callVI (K := []) (args := [.inl (s 3 0)]) (T := TX9) (N := 2) C ly_1 rfl (Nat.le_of_ble_eq_true rfl) mo_X9_orderOnce wc_X11_136 rfl dX11_voter_11 h (fun r1 s1 h => ?_)
  refine G_istore_n (L' := [rv 0, iv v1, iv v2, iv r1]) C dX11_voter_14 (by decide) rfl ?_
  refine G_iload_n C dX11_voter_15 rfl ?_
  refine G_iconst C dX11_voter_16 ?_
  refine G_icmp_eq (tgt := 42) C dX11_voter_17 (by decide) ⟨h.1, (by decide)⟩ (fun q => ?_) (fun q => ?_)
  · have h := h.2.1 q
    refine G_iconst C dX11_voter_42 ?_
    exact r _ _ _ _ dX11_voter_43 h
  · have h := h.2.2 q
    refine G_iload_n C dX11_voter_20 rfl ?_
    refine G_iconst C dX11_voter_21 ?_
    refine G_icmp_lt (tgt := 42) C dX11_voter_22 (by decide) ⟨h.1, (by decide)⟩ (fun q => ?_) (fun q => ?_)
    · have h := h.2.1 q
      refine G_iconst C dX11_voter_42 ?_
      exact r _ _ _ _ dX11_voter_43 h
    · have h := h.2.2 q
      refine G_iload_n C dX11_voter_25 rfl ?_
      refine G_bipush C dX11_voter_26 bi_9 ?_
      refine G_icmp_gt (tgt := 42) C dX11_voter_28 (by decide) ⟨h.1, (by decide)⟩ (fun q => ?_) (fun q => ?_)
      · have h := h.2.1 q
        refine G_iconst C dX11_voter_42 ?_
        exact r _ _ _ _ dX11_voter_43 h
      · have h := h.2.2 q
        refine G_iload_n C dX11_voter_31 rfl ?_
        refine G_if_lt (tgt := 42) C dX11_voter_32 (by decide) h.1 (fun q => ?_) (fun q => ?_)
        · have h := h.2.1 q
          refine G_iconst C dX11_voter_42 ?_
          exact r _ _ _ _ dX11_voter_43 h
        · have h := h.2.2 q
          refine G_iload_n C dX11_voter_35 rfl ?_
          refine G_sipush C dX11_voter_36 si_999 ?_
          refine G_icmp_le (tgt := 44) C dX11_voter_39 (by decide) ⟨h.1, (by decide)⟩ (fun q => ?_) (fun q => ?_)
          · have h := h.2.1 q
            refine G_aload_n C dX11_voter_44 rfl ?_
            refine gR_X11_1 C ly_0 rfl wf_X11_19 dX11_voter_45 ?_
            refine G_iload_n C dX11_voter_48 rfl ?_
            refine G_iload_n C dX11_voter_49 rfl ?_
            refine G_iload_n C dX11_voter_50 rfl ?_
            refine G_callVI (K := []) (args := [.inl r1, .inl v1, .inl v2]) (T := TX2) (N := 16) C ly_3 rfl (Nat.le_of_ble_eq_true rfl) mo_X2_addVoter wc_X11_248 rfl dX11_voter_51 h (fun r2 s2 h => ?_)
            exact r _ _ _ _ dX11_voter_54 h
          · have h := h.2.2 q
            refine G_iconst C dX11_voter_42 ?_
            exact r _ _ _ _ dX11_voter_43 h
set_option maxRecDepth 20000 in
theorem kb_X11_over_0 {X : Cx} {d : Nat} {P : Int → Sto → Prop} (C : Ok LY X RX11 cX11_over 3 d) (r : RetI LY X cX11_over P) {v1 v2 : Int} {s : Sto} (h : (CallI LY d MX11_areTwoLetters [.inr 0, .inl v1, .inl v2] s (fun r1 s1 => ((rg r1) ∧ ((r1 ≠ 0 → (CallV LY d MX0_count [.inr 59, .inr 3] s1 (fun s2 => (CallI LY d MX0_supportOf [.inr 59, .inl v1, .inl v2] s2 (fun r3 s3 => P r3 s3))))) ∧ (r1 = 0 → P (-1) s1)))))) : G LY X 0 [rv 0, iv v1, iv v2] [] s := by
  refine G_aload_n C dX11_over_0 rfl ?_
  refine G_iload_n C dX11_over_1 rfl ?_
  refine G_iload_n C dX11_over_2 rfl ?_
  refine G_callVI (K := []) (args := [.inl v1, .inl v2]) (T := TX11) (N := 10) C ly_0 rfl (Nat.le_of_ble_eq_true rfl) mo_X11_areTwoLetters wc_X11_252 rfl dX11_over_3 h (fun r1 s1 h => ?_)
  refine G_if_ne (tgt := 11) C dX11_over_6 (by decide) h.1 (fun q => ?_) (fun q => ?_)
  · have h := h.2.1 q
    refine G_aload_n C dX11_over_11 rfl ?_
    refine gR_X11_8 C ly_0 rfl wf_X11_61 dX11_over_12 ?_
    refine G_aload_n C dX11_over_15 rfl ?_
    refine gR_X11_1 C ly_0 rfl wf_X11_19 dX11_over_16 ?_
    refine G_callVV (K := []) (args := [.inr 3]) (T := TX0) (N := 11) C ly_59 rfl (Nat.le_of_ble_eq_true rfl) mo_X0_count wc_X11_256 rfl dX11_over_19 h (fun s2 h => ?_)
    refine G_aload_n C dX11_over_22 rfl ?_
    refine gR_X11_8 C ly_0 rfl wf_X11_61 dX11_over_23 ?_
    refine G_iload_n C dX11_over_26 rfl ?_
    refine G_iload_n C dX11_over_27 rfl ?_
    refine G_callVI (K := []) (args := [.inl v1, .inl v2]) (T := TX0) (N := 11) C ly_59 rfl (Nat.le_of_ble_eq_true rfl) mo_X0_supportOf wc_X11_258 rfl dX11_over_28 h (fun r3 s3 h => ?_)
    exact r _ _ _ _ dX11_over_31 h
  · have h := h.2.2 q
    refine G_iconst C dX11_over_9 ?_
    exact r _ _ _ _ dX11_over_10 h
set_option maxRecDepth 20000 in
theorem kb_X11_vote_0 {X : Cx} {d : Nat} {P : Int → Sto → Prop} (C : Ok LY X RX11 cX11_vote 3 d) (r : RetI LY X cX11_vote P) {v1 v2 : Int} {s : Sto} (h : ((rg v1) ∧ ((v1 < 0 → P (-1) s) ∧ (0 ≤ v1 → ((rg v1) ∧ ((3 ≤ v1 → P (-1) s) ∧ (v1 < 3 → ((rg v2) ∧ ((v2 < 0 → P (-1) s) ∧ (0 ≤ v2 → ((rg v2 ∧ rg (s 3 0)) ∧ ((v2 < (s 3 0) → (CallI LY d MX0_orderBy [.inr 59, .inr 3, .inl v1] s (fun r1 s1 => (CallI LY d MX5_orderLetter [.inl r1, .inl (s1 3 0), .inl v2] s1 (fun r2 s2 => P r2 s2))))) ∧ ((s 3 0) ≤ v2 → P (-1) s))))))))))))) : G LY X 0 [rv 0, iv v1, iv v2] [] s := by
  refine G_iload_n C dX11_vote_0 rfl ?_
  refine G_if_lt (tgt := 24) C dX11_vote_1 (by decide) h.1 (fun q => ?_) (fun q => ?_)
  · have h := h.2.1 q
    refine G_iconst C dX11_vote_24 ?_
    exact r _ _ _ _ dX11_vote_25 h
  · have h := h.2.2 q
    refine G_iload_n C dX11_vote_4 rfl ?_
    refine G_iconst C dX11_vote_5 ?_
    refine G_icmp_ge (tgt := 24) C dX11_vote_6 (by decide) ⟨h.1, (by decide)⟩ (fun q => ?_) (fun q => ?_)
    · have h := h.2.1 q
      refine G_iconst C dX11_vote_24 ?_
      exact r _ _ _ _ dX11_vote_25 h
    · have h := h.2.2 q
      refine G_iload_n C dX11_vote_9 rfl ?_
      refine G_if_lt (tgt := 24) C dX11_vote_10 (by decide) h.1 (fun q => ?_) (fun q => ?_)
      · have h := h.2.1 q
        refine G_iconst C dX11_vote_24 ?_
        exact r _ _ _ _ dX11_vote_25 h
      · have h := h.2.2 q
        refine G_iload_n C dX11_vote_13 rfl ?_
        refine G_aload_n C dX11_vote_14 rfl ?_
        refine gR_X11_1 C ly_0 rfl wf_X11_19 dX11_vote_15 ?_
        refine gI_X2_0 C ly_3 rfl wf_X11_133 dX11_vote_18 ?_
        refine G_icmp_lt (tgt := 26) C dX11_vote_21 (by decide) ⟨h.1.1, h.1.2⟩ (fun q => ?_) (fun q => ?_)
        · have h := h.2.1 q
          refine G_aload_n C dX11_vote_26 rfl ?_
          refine gR_X11_8 C ly_0 rfl wf_X11_61 dX11_vote_27 ?_
          refine G_aload_n C dX11_vote_30 rfl ?_
          refine gR_X11_1 C ly_0 rfl wf_X11_19 dX11_vote_31 ?_
          refine G_iload_n C dX11_vote_34 rfl ?_
          refine G_callVI (K := []) (args := [.inr 3, .inl v1]) (T := TX0) (N := 11) C ly_59 rfl (Nat.le_of_ble_eq_true rfl) mo_X0_orderBy wc_X11_261 rfl dX11_vote_35 h (fun r1 s1 h => ?_)
          refine G_aload_n C dX11_vote_38 rfl ?_
          refine gR_X11_1 C ly_0 rfl wf_X11_19 dX11_vote_39 ?_
          refine gI_X2_0 C ly_3 rfl wf_X11_133 dX11_vote_42 ?_
          refine G_iload_n C dX11_vote_45 rfl ?_
          refine G_callSI (K := []) (args := [.inl r1, .inl (s1 3 0), .inl v2]) C (Nat.le_of_ble_eq_true rfl) mo_X5_orderLetter wc_X11_265 rfl dX11_vote_46 h (fun r2 s2 h => ?_)
          exact r _ _ _ _ dX11_vote_49 h
        · have h := h.2.2 q
          refine G_iconst C dX11_vote_24 ?_
          exact r _ _ _ _ dX11_vote_25 h
set_option maxRecDepth 20000 in
theorem kb_X11_circle_0 {X : Cx} {d : Nat} {P : Int → Sto → Prop} (C : Ok LY X RX11 cX11_circle 1 d) (r : RetI LY X cX11_circle P) {s : Sto} (h : (CallV LY d MX0_count [.inr 59, .inr 3] s (fun s1 => (CallI LY d MX0_lettersInCircles [.inr 59, .inl (s1 3 0)] s1 (fun r2 s2 => P r2 s2))))) : G LY X 0 [rv 0] [] s := by
  refine G_aload_n C dX11_circle_0 rfl ?_
  refine gR_X11_8 C ly_0 rfl wf_X11_61 dX11_circle_1 ?_
  refine G_aload_n C dX11_circle_4 rfl ?_
  refine gR_X11_1 C ly_0 rfl wf_X11_19 dX11_circle_5 ?_
  refine G_callVV (K := []) (args := [.inr 3]) (T := TX0) (N := 11) C ly_59 rfl (Nat.le_of_ble_eq_true rfl) mo_X0_count wc_X11_256 rfl dX11_circle_8 h (fun s1 h => ?_)
  refine G_aload_n C dX11_circle_11 rfl ?_
  refine gR_X11_8 C ly_0 rfl wf_X11_61 dX11_circle_12 ?_
  refine G_aload_n C dX11_circle_15 rfl ?_
  refine gR_X11_1 C ly_0 rfl wf_X11_19 dX11_circle_16 ?_
  refine gI_X2_0 C ly_3 rfl wf_X11_133 dX11_circle_19 ?_
  refine G_callVI (K := []) (args := [.inl (s1 3 0)]) (T := TX0) (N := 11) C ly_59 rfl (Nat.le_of_ble_eq_true rfl) mo_X0_lettersInCircles wc_X11_268 rfl dX11_circle_22 h (fun r2 s2 h => ?_)
  exact r _ _ _ _ dX11_circle_25 h
set_option maxRecDepth 20000 in
theorem kb_X11_buy_0 {X : Cx} {d : Nat} {P : Int → Sto → Prop} (C : Ok LY X RX11 cX11_buy 5 d) (r : RetI LY X cX11_buy P) {v1 v2 v3 v4 : Int} {s : Sto} (h : (CallI LY d MX11_areTwoLetters [.inr 0, .inl v1, .inl v2] s (fun r1 s1 => ((rg r1) ∧ ((r1 = 0 → P (-1) s1) ∧ (r1 ≠ 0 → ((rg v3) ∧ ((v3 < 0 → P (-1) s1) ∧ (0 ≤ v3 → ((rg v3) ∧ ((3 ≤ v3 → P (-1) s1) ∧ (v3 < 3 → ((rg v4) ∧ ((v4 < 0 → P (-1) s1) ∧ (0 ≤ v4 → ((rg v4) ∧ ((v4 ≤ 1 → (CallV LY d MX0_buyCheapest [.inr 59, .inr 3, .inl v1, .inl v2, .inl v3] s1 (fun s2 => ((rg v4) ∧ ((v4 ≠ 0 → P (s2 59 10) s2) ∧ (v4 = 0 → P (s2 59 9) s2)))))) ∧ (1 < v4 → P (-1) s1)))))))))))))))))) : G LY X 0 [rv 0, iv v1, iv v2, iv v3, iv v4] [] s := by
  refine G_aload_n C dX11_buy_0 rfl ?_
  refine G_iload_n C dX11_buy_1 rfl ?_
  refine G_iload_n C dX11_buy_2 rfl ?_
  refine G_callVI (K := []) (args := [.inl v1, .inl v2]) (T := TX11) (N := 10) C ly_0 rfl (Nat.le_of_ble_eq_true rfl) mo_X11_areTwoLetters wc_X11_252 rfl dX11_buy_3 h (fun r1 s1 h => ?_)
  refine G_if_eq (tgt := 29) C dX11_buy_6 (by decide) h.1 (fun q => ?_) (fun q => ?_)
  · have h := h.2.1 q
    refine G_iconst C dX11_buy_29 ?_
    exact r _ _ _ _ dX11_buy_30 h
  · have h := h.2.2 q
    refine G_iload_n C dX11_buy_9 rfl ?_
    refine G_if_lt (tgt := 29) C dX11_buy_10 (by decide) h.1 (fun q => ?_) (fun q => ?_)
    · have h := h.2.1 q
      refine G_iconst C dX11_buy_29 ?_
      exact r _ _ _ _ dX11_buy_30 h
    · have h := h.2.2 q
      refine G_iload_n C dX11_buy_13 rfl ?_
      refine G_iconst C dX11_buy_14 ?_
      refine G_icmp_ge (tgt := 29) C dX11_buy_15 (by decide) ⟨h.1, (by decide)⟩ (fun q => ?_) (fun q => ?_)
      · have h := h.2.1 q
        refine G_iconst C dX11_buy_29 ?_
        exact r _ _ _ _ dX11_buy_30 h
      · have h := h.2.2 q
        refine G_iload C dX11_buy_18 rfl ?_
        refine G_if_lt (tgt := 29) C dX11_buy_20 (by decide) h.1 (fun q => ?_) (fun q => ?_)
        · have h := h.2.1 q
          refine G_iconst C dX11_buy_29 ?_
          exact r _ _ _ _ dX11_buy_30 h
        · have h := h.2.2 q
          refine G_iload C dX11_buy_23 rfl ?_
          refine G_iconst C dX11_buy_25 ?_
          refine G_icmp_le (tgt := 31) C dX11_buy_26 (by decide) ⟨h.1, (by decide)⟩ (fun q => ?_) (fun q => ?_)
          · have h := h.2.1 q
            refine G_aload_n C dX11_buy_31 rfl ?_
            refine gR_X11_8 C ly_0 rfl wf_X11_61 dX11_buy_32 ?_
            refine G_aload_n C dX11_buy_35 rfl ?_
            refine gR_X11_1 C ly_0 rfl wf_X11_19 dX11_buy_36 ?_
            refine G_iload_n C dX11_buy_39 rfl ?_
            refine G_iload_n C dX11_buy_40 rfl ?_
            refine G_iload_n C dX11_buy_41 rfl ?_
            refine G_callVV (K := []) (args := [.inr 3, .inl v1, .inl v2, .inl v3]) (T := TX0) (N := 11) C ly_59 rfl (Nat.le_of_ble_eq_true rfl) mo_X0_buyCheapest wc_X11_271 rfl dX11_buy_42 h (fun s2 h => ?_)
            refine G_iload C dX11_buy_45 rfl ?_
            refine G_if_ne (tgt := 60) C dX11_buy_47 (by decide) h.1 (fun q => ?_) (fun q => ?_)
            · have h := h.2.1 q
              refine G_aload_n C dX11_buy_60 rfl ?_
              refine gR_X11_8 C ly_0 rfl wf_X11_61 dX11_buy_61 ?_
              refine gI_X0_10 C ly_59 rfl wf_X11_278 dX11_buy_64 ?_
              exact r _ _ _ _ dX11_buy_67 h
            · have h := h.2.2 q
              refine G_aload_n C dX11_buy_50 rfl ?_
              refine gR_X11_8 C ly_0 rfl wf_X11_61 dX11_buy_51 ?_
              refine gI_X0_9 C ly_59 rfl wf_X11_275 dX11_buy_54 ?_
              refine G_goto (tgt := 67) C dX11_buy_57 (by decide) ?_
              exact r _ _ _ _ dX11_buy_67 h
          · have h := h.2.2 q
            refine G_iconst C dX11_buy_29 ?_
            exact r _ _ _ _ dX11_buy_30 h
set_option maxRecDepth 20000 in
theorem kb_X11_harm_0 {X : Cx} {d : Nat} {P : Int → Sto → Prop} (C : Ok LY X RX11 cX11_harm 2 d) (r : RetI LY X cX11_harm P) {s : Sto} (h : (CallI LY d MX9_orderOnce [.inr 1, .inl (s 3 0)] s (fun r1 s1 => ((rg r1) ∧ ((r1 ≠ (-1) → (CallV LY d MX3_weighPeople [.inr 69, .inr 3, .inr 46] s1 (fun s2 => (CallI LY d MX3_harmOf [.inr 69, .inr 3, .inr 46, .inl r1] s2 (fun r3 s3 => P r3 s3))))) ∧ (r1 = (-1) → P (-1) s1)))))) : G LY X 0 [rv 0, none] [] s := by
  refine G_aload_n C dX11_harm_0 rfl ?_
  refine gR_X11_0 C ly_0 rfl wf_X11_12 dX11_harm_1 ?_
  refine G_aload_n C dX11_harm_4 rfl ?_
  refine gR_X11_1 C ly_0 rfl wf_X11_19 dX11_harm_5 ?_
  refine gI_X2_0 C ly_3 rfl wf_X11_133 dX11_harm_8 ?_
  refine G_callVI (K := []) (args := [.inl (s 3 0)]) (T := TX9) (N := 2) C ly_1 rfl (Nat.le_of_ble_eq_true rfl) mo_X9_orderOnce wc_X11_136 rfl dX11_harm_11 h (fun r1 s1 h => ?_)
  refine G_istore_n (L' := [rv 0, iv r1]) C dX11_harm_14 (by decide) rfl ?_
  refine G_iload_n C dX11_harm_15 rfl ?_
  refine G_iconst C dX11_harm_16 ?_
  refine G_icmp_ne (tgt := 22) C dX11_harm_17 (by decide) ⟨h.1, (by decide)⟩ (fun q => ?_) (fun q => ?_)
  · have h := h.2.1 q
    refine G_aload_n C dX11_harm_22 rfl ?_
    refine gR_X11_9 C ly_0 rfl wf_X11_68 dX11_harm_23 ?_
    refine G_aload_n C dX11_harm_26 rfl ?_
    refine gR_X11_1 C ly_0 rfl wf_X11_19 dX11_harm_27 ?_
    refine G_aload_n C dX11_harm_30 rfl ?_
    refine gR_X11_5 C ly_0 rfl wf_X11_40 dX11_harm_31 ?_
    refine G_callVV (K := []) (args := [.inr 3, .inr 46]) (T := TX3) (N := 7) C ly_69 rfl (Nat.le_of_ble_eq_true rfl) mo_X3_weighPeople wc_X11_281 rfl dX11_harm_34 h (fun s2 h => ?_)
    refine G_aload_n C dX11_harm_37 rfl ?_
    refine gR_X11_9 C ly_0 rfl wf_X11_68 dX11_harm_38 ?_
    refine G_aload_n C dX11_harm_41 rfl ?_
    refine gR_X11_1 C ly_0 rfl wf_X11_19 dX11_harm_42 ?_
    refine G_aload_n C dX11_harm_45 rfl ?_
    refine gR_X11_5 C ly_0 rfl wf_X11_40 dX11_harm_46 ?_
    refine G_iload_n C dX11_harm_49 rfl ?_
    refine G_callVI (K := []) (args := [.inr 3, .inr 46, .inl r1]) (T := TX3) (N := 7) C ly_69 rfl (Nat.le_of_ble_eq_true rfl) mo_X3_harmOf wc_X11_285 rfl dX11_harm_50 h (fun r3 s3 h => ?_)
    exact r _ _ _ _ dX11_harm_53 h
  · have h := h.2.2 q
    refine G_iconst C dX11_harm_20 ?_
    exact r _ _ _ _ dX11_harm_21 h
set_option maxRecDepth 20000 in
theorem kb_X11_least_0 {X : Cx} {d : Nat} {P : Int → Sto → Prop} (C : Ok LY X RX11 cX11_least 2 d) (r : RetI LY X cX11_least P) {v1 : Int} {s : Sto} (h : ((rg (s 3 0)) ∧ ((6 < (s 3 0) → P (-1) s) ∧ ((s 3 0) ≤ 6 → ((rg v1) ∧ ((v1 = 0 → (CallV LY d MX3_findLeastHarm [.inr 69, .inr 3, .inr 46] s (fun s1 => ((rg v1) ∧ ((v1 ≠ 0 → (CallI LY d MX5_orderLetter [.inl (s1 69 6), .inl (s1 3 0), .inl (v1 - 10)] s1 (fun r2 s2 => P r2 s2))) ∧ (v1 = 0 → P (s1 69 5) s1)))))) ∧ (v1 ≠ 0 → ((rg v1) ∧ ((v1 < 10 → P (-1) s) ∧ (10 ≤ v1 → ((rg v1 ∧ rg (10 + (s 3 0))) ∧ ((v1 < (10 + (s 3 0)) → (CallV LY d MX3_findLeastHarm [.inr 69, .inr 3, .inr 46] s (fun s3 => ((rg v1) ∧ ((v1 ≠ 0 → (CallI LY d MX5_orderLetter [.inl (s3 69 6), .inl (s3 3 0), .inl (v1 - 10)] s3 (fun r4 s4 => P r4 s4))) ∧ (v1 = 0 → P (s3 69 5) s3)))))) ∧ ((10 + (s 3 0)) ≤ v1 → P (-1) s))))))))))))) : G LY X 0 [rv 0, iv v1] [] s := by
  refine G_aload_n C dX11_least_0 rfl ?_
  refine gR_X11_1 C ly_0 rfl wf_X11_19 dX11_least_1 ?_
  refine gI_X2_0 C ly_3 rfl wf_X11_133 dX11_least_4 ?_
  refine G_bipush C dX11_least_7 bi_6 ?_
  refine G_icmp_gt (tgt := 36) C dX11_least_9 (by decide) ⟨h.1, (by decide)⟩ (fun q => ?_) (fun q => ?_)
  · have h := h.2.1 q
    refine G_iconst C dX11_least_36 ?_
    exact r _ _ _ _ dX11_least_37 h
  · have h := h.2.2 q
    refine G_iload_n C dX11_least_12 rfl ?_
    refine G_if_eq (tgt := 38) C dX11_least_13 (by decide) h.1 (fun q => ?_) (fun q => ?_)
    · have h := h.2.1 q
      refine G_aload_n C dX11_least_38 rfl ?_
      refine gR_X11_9 C ly_0 rfl wf_X11_68 dX11_least_39 ?_
      refine G_aload_n C dX11_least_42 rfl ?_
      refine gR_X11_1 C ly_0 rfl wf_X11_19 dX11_least_43 ?_
      refine G_aload_n C dX11_least_46 rfl ?_
      refine gR_X11_5 C ly_0 rfl wf_X11_40 dX11_least_47 ?_
      refine G_callVV (K := []) (args := [.inr 3, .inr 46]) (T := TX3) (N := 7) C ly_69 rfl (Nat.le_of_ble_eq_true rfl) mo_X3_findLeastHarm wc_X11_289 rfl dX11_least_50 h (fun s1 h => ?_)
      refine G_iload_n C dX11_least_53 rfl ?_
      refine G_if_ne (tgt := 67) C dX11_least_54 (by decide) h.1 (fun q => ?_) (fun q => ?_)
      · have h := h.2.1 q
        refine G_aload_n C dX11_least_67 rfl ?_
        refine gR_X11_9 C ly_0 rfl wf_X11_68 dX11_least_68 ?_
        refine gI_X3_6 C ly_69 rfl wf_X11_295 dX11_least_71 ?_
        refine G_aload_n C dX11_least_74 rfl ?_
        refine gR_X11_1 C ly_0 rfl wf_X11_19 dX11_least_75 ?_
        refine gI_X2_0 C ly_3 rfl wf_X11_133 dX11_least_78 ?_
        refine G_iload_n C dX11_least_81 rfl ?_
        refine G_bipush C dX11_least_82 bi_10 ?_
        refine G_isub C dX11_least_84 ?_
        refine G_callSI (K := []) (args := [.inl (s1 69 6), .inl (s1 3 0), .inl (v1 - 10)]) C (Nat.le_of_ble_eq_true rfl) mo_X5_orderLetter wc_X11_265 rfl dX11_least_85 h (fun r2 s2 h => ?_)
        exact r _ _ _ _ dX11_least_88 h
      · have h := h.2.2 q
        refine G_aload_n C dX11_least_57 rfl ?_
        refine gR_X11_9 C ly_0 rfl wf_X11_68 dX11_least_58 ?_
        refine gI_X3_5 C ly_69 rfl wf_X11_292 dX11_least_61 ?_
        refine G_goto (tgt := 88) C dX11_least_64 (by decide) ?_
        exact r _ _ _ _ dX11_least_88 h
    · have h := h.2.2 q
      refine G_iload_n C dX11_least_16 rfl ?_
      refine G_bipush C dX11_least_17 bi_10 ?_
      refine G_icmp_lt (tgt := 36) C dX11_least_19 (by decide) ⟨h.1, (by decide)⟩ (fun q => ?_) (fun q => ?_)
      · have h := h.2.1 q
        refine G_iconst C dX11_least_36 ?_
        exact r _ _ _ _ dX11_least_37 h
      · have h := h.2.2 q
        refine G_iload_n C dX11_least_22 rfl ?_
        refine G_bipush C dX11_least_23 bi_10 ?_
        refine G_aload_n C dX11_least_25 rfl ?_
        refine gR_X11_1 C ly_0 rfl wf_X11_19 dX11_least_26 ?_
        refine gI_X2_0 C ly_3 rfl wf_X11_133 dX11_least_29 ?_
        refine G_iadd C dX11_least_32 ?_
        refine G_icmp_lt (tgt := 38) C dX11_least_33 (by decide) ⟨h.1.1, h.1.2⟩ (fun q => ?_) (fun q => ?_)
        · have h := h.2.1 q
          refine G_aload_n C dX11_least_38 rfl ?_
          refine gR_X11_9 C ly_0 rfl wf_X11_68 dX11_least_39 ?_
          refine G_aload_n C dX11_least_42 rfl ?_
          refine gR_X11_1 C ly_0 rfl wf_X11_19 dX11_least_43 ?_
          refine G_aload_n C dX11_least_46 rfl ?_
          refine gR_X11_5 C ly_0 rfl wf_X11_40 dX11_least_47 ?_
          refine G_callVV (K := []) (args := [.inr 3, .inr 46]) (T := TX3) (N := 7) C ly_69 rfl (Nat.le_of_ble_eq_true rfl) mo_X3_findLeastHarm wc_X11_289 rfl dX11_least_50 h (fun s3 h => ?_)
          refine G_iload_n C dX11_least_53 rfl ?_
          refine G_if_ne (tgt := 67) C dX11_least_54 (by decide) h.1 (fun q => ?_) (fun q => ?_)
          · have h := h.2.1 q
            refine G_aload_n C dX11_least_67 rfl ?_
            refine gR_X11_9 C ly_0 rfl wf_X11_68 dX11_least_68 ?_
            refine gI_X3_6 C ly_69 rfl wf_X11_295 dX11_least_71 ?_
            refine G_aload_n C dX11_least_74 rfl ?_
            refine gR_X11_1 C ly_0 rfl wf_X11_19 dX11_least_75 ?_
            refine gI_X2_0 C ly_3 rfl wf_X11_133 dX11_least_78 ?_
            refine G_iload_n C dX11_least_81 rfl ?_
            refine G_bipush C dX11_least_82 bi_10 ?_
            refine G_isub C dX11_least_84 ?_
            refine G_callSI (K := []) (args := [.inl (s3 69 6), .inl (s3 3 0), .inl (v1 - 10)]) C (Nat.le_of_ble_eq_true rfl) mo_X5_orderLetter wc_X11_265 rfl dX11_least_85 h (fun r4 s4 h => ?_)
            exact r _ _ _ _ dX11_least_88 h
          · have h := h.2.2 q
            refine G_aload_n C dX11_least_57 rfl ?_
            refine gR_X11_9 C ly_0 rfl wf_X11_68 dX11_least_58 ?_
            refine gI_X3_5 C ly_69 rfl wf_X11_292 dX11_least_61 ?_
            refine G_goto (tgt := 88) C dX11_least_64 (by decide) ?_
            exact r _ _ _ _ dX11_least_88 h
        · have h := h.2.2 q
          refine G_iconst C dX11_least_36 ?_
          exact r _ _ _ _ dX11_least_37 h
set_option maxRecDepth 20000 in
theorem kb_X11_anew_0 {X : Cx} {d : Nat} {P : Int → Sto → Prop} (C : Ok LY X RX11 cX11_anew 4 d) (r : RetI LY X cX11_anew P) {v1 : Int} {s : Sto} (h : (CallI LY d MX9_orderOnce [.inr 1, .inl (s 3 0)] s (fun r1 s1 => ((rg r1) ∧ ((r1 = (-1) → P (-1) s1) ∧ (r1 ≠ (-1) → ((rg v1) ∧ ((v1 < 0 → P (-1) s1) ∧ (0 ≤ v1 → ((rg v1) ∧ ((v1 ≤ 1 → (CallI LY d MX3_whoStays [.inr 69, .inr 3, .inr 46, .inl r1] s1 (fun r2 s2 => ((rg v1) ∧ ((v1 ≠ 0 → P r2 s2) ∧ (v1 = 0 → (CallI LY d MJ6_bitCount_0f7a4 [.inl r2] s2 (fun r3 s3 => P ((s2 5 0) - r3) s3)))))))) ∧ (1 < v1 → P (-1) s1)))))))))))) : G LY X 0 [rv 0, iv v1, none, none] [] s := by
  refine G_aload_n C dX11_anew_0 rfl ?_
  refine gR_X11_0 C ly_0 rfl wf_X11_12 dX11_anew_1 ?_
  refine G_aload_n C dX11_anew_4 rfl ?_
  refine gR_X11_1 C ly_0 rfl wf_X11_19 dX11_anew_5 ?_
  refine gI_X2_0 C ly_3 rfl wf_X11_133 dX11_anew_8 ?_
  refine G_callVI (K := []) (args := [.inl (s 3 0)]) (T := TX9) (N := 2) C ly_1 rfl (Nat.le_of_ble_eq_true rfl) mo_X9_orderOnce wc_X11_136 rfl dX11_anew_11 h (fun r1 s1 h => ?_)
  refine G_istore_n (L' := [rv 0, iv v1, iv r1, none]) C dX11_anew_14 (by decide) rfl ?_
  refine G_iload_n C dX11_anew_15 rfl ?_
  refine G_iconst C dX11_anew_16 ?_
  refine G_icmp_eq (tgt := 29) C dX11_anew_17 (by decide) ⟨h.1, (by decide)⟩ (fun q => ?_) (fun q => ?_)
  · have h := h.2.1 q
    refine G_iconst C dX11_anew_29 ?_
    exact r _ _ _ _ dX11_anew_30 h
  · have h := h.2.2 q
    refine G_iload_n C dX11_anew_20 rfl ?_
    refine G_if_lt (tgt := 29) C dX11_anew_21 (by decide) h.1 (fun q => ?_) (fun q => ?_)
    · have h := h.2.1 q
      refine G_iconst C dX11_anew_29 ?_
      exact r _ _ _ _ dX11_anew_30 h
    · have h := h.2.2 q
      refine G_iload_n C dX11_anew_24 rfl ?_
      refine G_iconst C dX11_anew_25 ?_
      refine G_icmp_le (tgt := 31) C dX11_anew_26 (by decide) ⟨h.1, (by decide)⟩ (fun q => ?_) (fun q => ?_)
      · have h := h.2.1 q
        refine G_aload_n C dX11_anew_31 rfl ?_
        refine gR_X11_9 C ly_0 rfl wf_X11_68 dX11_anew_32 ?_
        refine G_aload_n C dX11_anew_35 rfl ?_
        refine gR_X11_1 C ly_0 rfl wf_X11_19 dX11_anew_36 ?_
        refine G_aload_n C dX11_anew_39 rfl ?_
        refine gR_X11_5 C ly_0 rfl wf_X11_40 dX11_anew_40 ?_
        refine G_iload_n C dX11_anew_43 rfl ?_
        refine G_callVI (K := []) (args := [.inr 3, .inr 46, .inl r1]) (T := TX3) (N := 7) C ly_69 rfl (Nat.le_of_ble_eq_true rfl) mo_X3_whoStays wc_X11_298 rfl dX11_anew_44 h (fun r2 s2 h => ?_)
        refine G_istore_n (L' := [rv 0, iv v1, iv r1, iv r2]) C dX11_anew_47 (by decide) rfl ?_
        refine G_iload_n C dX11_anew_48 rfl ?_
        refine G_if_ne (tgt := 70) C dX11_anew_49 (by decide) h.1 (fun q => ?_) (fun q => ?_)
        · have h := h.2.1 q
          refine G_iload_n C dX11_anew_70 rfl ?_
          exact r _ _ _ _ dX11_anew_71 h
        · have h := h.2.2 q
          refine G_aload_n C dX11_anew_52 rfl ?_
          refine gR_X11_1 C ly_0 rfl wf_X11_19 dX11_anew_53 ?_
          refine gR_X2_5 C ly_3 rfl wf_X11_116 dX11_anew_56 ?_
          refine gI_X6_0 C ly_5 rfl wf_X11_245 dX11_anew_59 ?_
          refine G_iload_n C dX11_anew_62 rfl ?_
          refine G_callSI (K := [.inl (s2 5 0)]) (args := [.inl r2]) C (Nat.le_of_ble_eq_true rfl) mo_J6_bitCount_0f7a4 wc_X11_301 rfl dX11_anew_63 h (fun r3 s3 h => ?_)
          refine G_isub C dX11_anew_66 ?_
          refine G_goto (tgt := 71) C dX11_anew_67 (by decide) ?_
          exact r _ _ _ _ dX11_anew_71 h
      · have h := h.2.2 q
        refine G_iconst C dX11_anew_29 ?_
        exact r _ _ _ _ dX11_anew_30 h
set_option maxRecDepth 20000 in
theorem kb_X11_years_0 {X : Cx} {d : Nat} {P : Int → Sto → Prop} (C : Ok LY X RX11 cX11_years 3 d) (r : RetI LY X cX11_years P) {v1 : Int} {s : Sto} (h : ((rg v1) ∧ ((v1 < 1 → P (-1) s) ∧ (1 ≤ v1 → ((rg v1) ∧ ((v1 ≤ 60 → G LY X 15 [rv 0, iv v1, iv 0] [] s) ∧ (60 < v1 → P (-1) s))))))) : G LY X 0 [rv 0, iv v1, none] [] s := by
  refine G_iload_n C dX11_years_0 rfl ?_
  refine G_iconst C dX11_years_1 ?_
  refine G_icmp_lt (tgt := 11) C dX11_years_2 (by decide) ⟨h.1, (by decide)⟩ (fun q => ?_) (fun q => ?_)
  · have h := h.2.1 q
    refine G_iconst C dX11_years_11 ?_
    exact r _ _ _ _ dX11_years_12 h
  · have h := h.2.2 q
    refine G_iload_n C dX11_years_5 rfl ?_
    refine G_bipush C dX11_years_6 bi_60 ?_
    refine G_icmp_le (tgt := 13) C dX11_years_8 (by decide) ⟨h.1, (by decide)⟩ (fun q => ?_) (fun q => ?_)
    · have h := h.2.1 q
      refine G_iconst C dX11_years_13 ?_
      refine G_istore_n (L' := [rv 0, iv v1, iv 0]) C dX11_years_14 (by decide) rfl ?_
      exact h
    · have h := h.2.2 q
      refine G_iconst C dX11_years_11 ?_
      exact r _ _ _ _ dX11_years_12 h
set_option maxRecDepth 20000 in
theorem kb_X11_years_15 {X : Cx} {d : Nat} {P : Int → Sto → Prop} (C : Ok LY X RX11 cX11_years 3 d) (r : RetI LY X cX11_years P) {v1 v2 : Int} {s : Sto} (h : ((rg v2 ∧ rg v1) ∧ ((v1 ≤ v2 → P (s 3 3) s) ∧ (v2 < v1 → (CallV LY d MX11_passYear [.inr 0] s (fun s1 => G LY X 15 [rv 0, iv v1, iv (v2 + 1)] [] s1)))))) : G LY X 15 [rv 0, iv v1, iv v2] [] s := by
  refine G_iload_n C dX11_years_15 rfl ?_
  refine G_iload_n C dX11_years_16 rfl ?_
  refine G_icmp_ge (tgt := 30) C dX11_years_17 (by decide) ⟨h.1.1, h.1.2⟩ (fun q => ?_) (fun q => ?_)
  · have h := h.2.1 q
    refine G_aload_n C dX11_years_30 rfl ?_
    refine gR_X11_1 C ly_0 rfl wf_X11_19 dX11_years_31 ?_
    refine gI_X2_3 C ly_3 rfl wf_X11_309 dX11_years_34 ?_
    exact r _ _ _ _ dX11_years_37 h
  · have h := h.2.2 q
    refine G_aload_n C dX11_years_20 rfl ?_
    refine G_callVV (K := []) (args := []) (T := TX11) (N := 10) C ly_0 rfl (Nat.le_of_ble_eq_true rfl) mo_X11_passYear wc_X11_306 rfl dX11_years_21 h (fun s1 h => ?_)
    refine G_iinc (L' := [rv 0, iv v1, iv (v2 + 1)]) C dX11_years_24 (by decide) rfl rfl ?_
    refine G_goto (tgt := 15) C dX11_years_27 (by decide) ?_
    exact h
set_option maxRecDepth 20000 in
theorem kb_X11_image_0 {X : Cx} {d : Nat} {P : Int → Sto → Prop} (C : Ok LY X RX11 cX11_image 2 d) (r : RetZ LY X cX11_image P) {v1 : Int} {s : Sto} (h : ((rg v1) ∧ ((v1 = 0 → ((rg (s 0 3)) ∧ (((s 0 3) ≠ 0 → (CallV LY d MX2_copyFrom [.inr 3, .inr 21] s (fun s1 => P 1 s1))) ∧ ((s 0 3) = 0 → P 0 s)))) ∧ (v1 ≠ 0 → (CallV LY d MX2_copyFrom [.inr 21, .inr 3] s (fun s2 => (∀ s3 : Sto, s3 = up s2 0 3 1 → P 1 s3))))))) : G LY X 0 [rv 0, iv v1] [] s := by
  refine G_iload_n C dX11_image_0 rfl ?_
  refine G_if_eq (tgt := 22) C dX11_image_1 (by decide) h.1 (fun q => ?_) (fun q => ?_)
  · have h := h.2.1 q
    refine G_aload_n C dX11_image_22 rfl ?_
    refine gI_X11_3 C ly_0 rfl wf_X11_26 dX11_image_23 ?_
    refine G_if_ne (tgt := 31) C dX11_image_26 (by decide) h.1 (fun q => ?_) (fun q => ?_)
    · have h := h.2.1 q
      refine G_aload_n C dX11_image_31 rfl ?_
      refine gR_X11_1 C ly_0 rfl wf_X11_19 dX11_image_32 ?_
      refine G_aload_n C dX11_image_35 rfl ?_
      refine gR_X11_2 C ly_0 rfl wf_X11_23 dX11_image_36 ?_
      refine G_callVV (K := []) (args := [.inr 21]) (T := TX2) (N := 16) C ly_3 rfl (Nat.le_of_ble_eq_true rfl) mo_X2_copyFrom wc_X11_318 rfl dX11_image_39 h (fun s1 h => ?_)
      refine G_iconst C dX11_image_42 ?_
      exact r _ _ _ _ dX11_image_43 (by decide) h
    · have h := h.2.2 q
      refine G_iconst C dX11_image_29 ?_
      exact r _ _ _ _ dX11_image_30 (by decide) h
  · have h := h.2.2 q
    refine G_aload_n C dX11_image_4 rfl ?_
    refine gR_X11_2 C ly_0 rfl wf_X11_23 dX11_image_5 ?_
    refine G_aload_n C dX11_image_8 rfl ?_
    refine gR_X11_1 C ly_0 rfl wf_X11_19 dX11_image_9 ?_
    refine G_callVV (K := []) (args := [.inr 3]) (T := TX2) (N := 16) C ly_21 rfl (Nat.le_of_ble_eq_true rfl) mo_X2_copyFrom wc_X11_318 rfl dX11_image_12 h (fun s2 h => ?_)
    refine G_aload_n C dX11_image_15 rfl ?_
    refine G_iconst C dX11_image_16 ?_
    refine gP_X11_3 C ly_0 rfl wf_X11_26 (by decide) dX11_image_17 ?_
    have h := h _ rfl
    obtain ⟨s3, e3⟩ : ∃ z, z = up s2 0 3 1 := ⟨_, rfl⟩
    rw [← e3] at h ⊢
    refine G_iconst C dX11_image_20 ?_
    exact r _ _ _ _ dX11_image_21 (by decide) h
set_option maxRecDepth 20000 in
theorem kb_X11_look_0 {X : Cx} {d : Nat} {P : Int → Sto → Prop} (C : Ok LY X RX11 cX11_look 2 d) (r : RetI LY X cX11_look P) {v1 : Int} {s : Sto} (h : ((rg v1) ∧ ((v1 < 10 → ((rg v1) ∧ ((v1 < 20 → G LY X 67 [rv 0, iv v1] [] s) ∧ (20 ≤ v1 → ((rg v1) ∧ ((27 ≤ v1 → G LY X 67 [rv 0, iv v1] [] s) ∧ (v1 < 27 → ((0 ≤ (v1 - 20) ∧ (v1 - 20) < 7) ∧ P (s 4 (v1 - 20)) s)))))))) ∧ (10 ≤ v1 → ((rg v1 ∧ rg (10 + (s 3 0))) ∧ (((10 + (s 3 0)) ≤ v1 → ((rg v1) ∧ ((v1 < 20 → G LY X 67 [rv 0, iv v1] [] s) ∧ (20 ≤ v1 → ((rg v1) ∧ ((27 ≤ v1 → G LY X 67 [rv 0, iv v1] [] s) ∧ (v1 < 27 → ((0 ≤ (v1 - 20) ∧ (v1 - 20) < 7) ∧ P (s 4 (v1 - 20)) s)))))))) ∧ (v1 < (10 + (s 3 0)) → (CallI LY d MX5_orderLetter [.inl (s 3 2), .inl (s 3 0), .inl (v1 - 10)] s (fun r1 s1 => P r1 s1))))))))) : G LY X 0 [rv 0, iv v1] [] s := by
  refine G_iload_n C dX11_look_0 rfl ?_
  refine G_bipush C dX11_look_1 bi_10 ?_
  refine G_icmp_lt (tgt := 42) C dX11_look_3 (by decide) ⟨h.1, (by decide)⟩ (fun q => ?_) (fun q => ?_)
  · have h := h.2.1 q
    refine G_iload_n C dX11_look_42 rfl ?_
    refine G_bipush C dX11_look_43 bi_20 ?_
    refine G_icmp_lt (tgt := 67) C dX11_look_45 (by decide) ⟨h.1, (by decide)⟩ (fun q => ?_) (fun q => ?_)
    · have h := h.2.1 q
      exact h
    · have h := h.2.2 q
      refine G_iload_n C dX11_look_48 rfl ?_
      refine G_bipush C dX11_look_49 bi_27 ?_
      refine G_icmp_ge (tgt := 67) C dX11_look_51 (by decide) ⟨h.1, (by decide)⟩ (fun q => ?_) (fun q => ?_)
      · have h := h.2.1 q
        exact h
      · have h := h.2.2 q
        refine G_aload_n C dX11_look_54 rfl ?_
        refine gR_X11_1 C ly_0 rfl wf_X11_19 dX11_look_55 ?_
        refine gR_X2_4 C ly_3 rfl wf_X11_149 dX11_look_58 ?_
        refine G_iload_n C dX11_look_61 rfl ?_
        refine G_bipush C dX11_look_62 bi_20 ?_
        refine G_isub C dX11_look_64 ?_
        refine G_iald C ly_4 (by decide) h.1 dX11_look_65 ?_
        have h := h.2
        exact r _ _ _ _ dX11_look_66 h
  · have h := h.2.2 q
    refine G_iload_n C dX11_look_6 rfl ?_
    refine G_bipush C dX11_look_7 bi_10 ?_
    refine G_aload_n C dX11_look_9 rfl ?_
    refine gR_X11_1 C ly_0 rfl wf_X11_19 dX11_look_10 ?_
    refine gI_X2_0 C ly_3 rfl wf_X11_133 dX11_look_13 ?_
    refine G_iadd C dX11_look_16 ?_
    refine G_icmp_ge (tgt := 42) C dX11_look_17 (by decide) ⟨h.1.1, h.1.2⟩ (fun q => ?_) (fun q => ?_)
    · have h := h.2.1 q
      refine G_iload_n C dX11_look_42 rfl ?_
      refine G_bipush C dX11_look_43 bi_20 ?_
      refine G_icmp_lt (tgt := 67) C dX11_look_45 (by decide) ⟨h.1, (by decide)⟩ (fun q => ?_) (fun q => ?_)
      · have h := h.2.1 q
        exact h
      · have h := h.2.2 q
        refine G_iload_n C dX11_look_48 rfl ?_
        refine G_bipush C dX11_look_49 bi_27 ?_
        refine G_icmp_ge (tgt := 67) C dX11_look_51 (by decide) ⟨h.1, (by decide)⟩ (fun q => ?_) (fun q => ?_)
        · have h := h.2.1 q
          exact h
        · have h := h.2.2 q
          refine G_aload_n C dX11_look_54 rfl ?_
          refine gR_X11_1 C ly_0 rfl wf_X11_19 dX11_look_55 ?_
          refine gR_X2_4 C ly_3 rfl wf_X11_149 dX11_look_58 ?_
          refine G_iload_n C dX11_look_61 rfl ?_
          refine G_bipush C dX11_look_62 bi_20 ?_
          refine G_isub C dX11_look_64 ?_
          refine G_iald C ly_4 (by decide) h.1 dX11_look_65 ?_
          have h := h.2
          exact r _ _ _ _ dX11_look_66 h
    · have h := h.2.2 q
      refine G_aload_n C dX11_look_20 rfl ?_
      refine gR_X11_1 C ly_0 rfl wf_X11_19 dX11_look_21 ?_
      refine gI_X2_2 C ly_3 rfl wf_X11_140 dX11_look_24 ?_
      refine G_aload_n C dX11_look_27 rfl ?_
      refine gR_X11_1 C ly_0 rfl wf_X11_19 dX11_look_28 ?_
      refine gI_X2_0 C ly_3 rfl wf_X11_133 dX11_look_31 ?_
      refine G_iload_n C dX11_look_34 rfl ?_
      refine G_bipush C dX11_look_35 bi_10 ?_
      refine G_isub C dX11_look_37 ?_
      refine G_callSI (K := []) (args := [.inl (s 3 2), .inl (s 3 0), .inl (v1 - 10)]) C (Nat.le_of_ble_eq_true rfl) mo_X5_orderLetter wc_X11_265 rfl dX11_look_38 h (fun r1 s1 h => ?_)
      exact r _ _ _ _ dX11_look_41 h
set_option maxRecDepth 20000 in
theorem kb_X11_look_67 {X : Cx} {d : Nat} {P : Int → Sto → Prop} (C : Ok LY X RX11 cX11_look 2 d) (r : RetI LY X cX11_look P) {v1 : Int} {s : Sto} (h : (rg v1 ∧ (((v1 < 0 ∨ 6 < v1) → P (-1) s) ∧ (v1 = 0 → P (s 3 0) s) ∧ (v1 = 1 → P (s 5 0) s) ∧ (v1 = 2 → P (s 3 9) s) ∧ (v1 = 3 → P (s 3 11) s) ∧ (v1 = 4 → P (s 17 0) s) ∧ (v1 = 5 → P (s 3 3) s) ∧ (v1 = 6 → P (s 3 1) s)))) : G LY X 67 [rv 0, iv v1] [] s := by
  refine G_iload_n C dX11_look_67 rfl ?_
  refine G_tabl C dX11_look_68 h.1 (by decide) (by decide) (fun q => ?_) (fun j hj q => ?_)
  · have h := h.2.1 q
    show G LY X 174 [rv 0, iv v1] [] s
    refine G_iconst C dX11_look_174 ?_
    exact r _ _ _ _ dX11_look_175 h
  · match j, hj, q with
    | 0, _, q =>
      have h := h.2.2.1 (by simpa using q)
      show G LY X 112 [rv 0, iv v1] [] s
      refine G_aload_n C dX11_look_112 rfl ?_
      refine gR_X11_1 C ly_0 rfl wf_X11_19 dX11_look_113 ?_
      refine gI_X2_0 C ly_3 rfl wf_X11_133 dX11_look_116 ?_
      exact r _ _ _ _ dX11_look_119 h
    | 1, _, q =>
      have h := h.2.2.2.1 (by simpa using q)
      show G LY X 120 [rv 0, iv v1] [] s
      refine G_aload_n C dX11_look_120 rfl ?_
      refine gR_X11_1 C ly_0 rfl wf_X11_19 dX11_look_121 ?_
      refine gR_X2_5 C ly_3 rfl wf_X11_116 dX11_look_124 ?_
      refine gI_X6_0 C ly_5 rfl wf_X11_245 dX11_look_127 ?_
      exact r _ _ _ _ dX11_look_130 h
    | 2, _, q =>
      have h := h.2.2.2.2.1 (by simpa using q)
      show G LY X 131 [rv 0, iv v1] [] s
      refine G_aload_n C dX11_look_131 rfl ?_
      refine gR_X11_1 C ly_0 rfl wf_X11_19 dX11_look_132 ?_
      refine gI_X2_9 C ly_3 rfl wf_X11_220 dX11_look_135 ?_
      exact r _ _ _ _ dX11_look_138 h
    | 3, _, q =>
      have h := h.2.2.2.2.2.1 (by simpa using q)
      show G LY X 139 [rv 0, iv v1] [] s
      refine G_aload_n C dX11_look_139 rfl ?_
      refine gR_X11_1 C ly_0 rfl wf_X11_19 dX11_look_140 ?_
      refine gI_X2_11 C ly_3 rfl wf_X11_320 dX11_look_143 ?_
      exact r _ _ _ _ dX11_look_146 h
    | 4, _, q =>
      have h := h.2.2.2.2.2.2.1 (by simpa using q)
      show G LY X 147 [rv 0, iv v1] [] s
      refine G_aload_n C dX11_look_147 rfl ?_
      refine gR_X11_1 C ly_0 rfl wf_X11_19 dX11_look_148 ?_
      refine gR_X2_15 C ly_3 rfl wf_X11_90 dX11_look_151 ?_
      refine gI_X4_0 C ly_17 rfl wf_X11_103 dX11_look_154 ?_
      exact r _ _ _ _ dX11_look_157 h
    | 5, _, q =>
      have h := h.2.2.2.2.2.2.2.1 (by simpa using q)
      show G LY X 158 [rv 0, iv v1] [] s
      refine G_aload_n C dX11_look_158 rfl ?_
      refine gR_X11_1 C ly_0 rfl wf_X11_19 dX11_look_159 ?_
      refine gI_X2_3 C ly_3 rfl wf_X11_309 dX11_look_162 ?_
      exact r _ _ _ _ dX11_look_165 h
    | 6, _, q =>
      have h := h.2.2.2.2.2.2.2.2 (by simpa using q)
      show G LY X 166 [rv 0, iv v1] [] s
      refine G_aload_n C dX11_look_166 rfl ?_
      refine gR_X11_1 C ly_0 rfl wf_X11_19 dX11_look_167 ?_
      refine gI_X2_1 C ly_3 rfl wf_X11_72 dX11_look_170 ?_
      exact r _ _ _ _ dX11_look_173 h
set_option maxRecDepth 20000 in
theorem kb_X12_state_0 {X : Cx} {d : Nat} {P : Int → Sto → Prop} (C : Ok LY X RX12 cX12_state 3 d) (r : RetI LY X cX12_state P) {v1 : Int} {s : Sto} (h : (∀ s1 : Sto, s1 = up s 75 0 0 → (∀ s2 : Sto, s2 = up s1 75 1 v1 → P (s1 75 1) s2))) : G LY X 0 [rv 75, iv v1, none] [] s := by
  refine G_aload_n C dX12_state_0 rfl ?_
  refine G_iconst C dX12_state_1 ?_
  refine gP_X12_0 C ly_75 rfl wf_X12_146 dX12_state_2 ?_
  have h := h _ rfl
  obtain ⟨s1, e1⟩ : ∃ z, z = up s 75 0 0 := ⟨_, rfl⟩
  rw [← e1] at h ⊢
  refine G_aload_n C dX12_state_5 rfl ?_
  refine gI_X12_1 C ly_75 rfl wf_X12_149 dX12_state_6 ?_
  refine G_istore_n (L' := [rv 75, iv v1, iv (s1 75 1)]) C dX12_state_9 (by decide) rfl ?_
  refine G_aload_n C dX12_state_10 rfl ?_
  refine G_iload_n C dX12_state_11 rfl ?_
  refine gP_X12_1 C ly_75 rfl wf_X12_149 dX12_state_12 ?_
  have h := h _ rfl
  obtain ⟨s2, e2⟩ : ∃ z, z = up s1 75 1 v1 := ⟨_, rfl⟩
  rw [← e2] at h ⊢
  refine G_iload_n C dX12_state_15 rfl ?_
  exact r _ _ _ _ dX12_state_16 h
