/-! TEXTS of the class: indexOf -/
theorem t_J1_canEncode {c : Int} {s : Sto} (hc : 0 ≤ c ∧ c < 256) : ClI LY 0 MJ1_canEncode_9a6ad [.inl c] s (fun r s' => s' = s ∧ r = 1) := by
  refine ClI.introZ (by decide) rfl (Nat.le_of_ble_eq_true rfl) (fun X C r => ?_)
  refine G_iload_n C dJ1_canEncode_9a6ad_0 rfl ?_
  refine G_if_lt (tgt := 15) C dJ1_canEncode_9a6ad_1 (by decide) ⟨by omega, by omega⟩ (fun z => absurd z (by omega)) (fun _ => ?_)
  refine G_iload_n C dJ1_canEncode_9a6ad_4 rfl ?_
  refine G_sipush C dJ1_canEncode_9a6ad_5 (by decide) ?_
  refine G_icmp_gt (tgt := 15) C dJ1_canEncode_9a6ad_8 (by decide) ⟨⟨by omega, by omega⟩, by decide⟩ (fun z => absurd z (by omega)) (fun _ => ?_)
  refine G_iconst C dJ1_canEncode_9a6ad_11 ?_
  refine G_goto (tgt := 16) C dJ1_canEncode_9a6ad_12 (by decide) ?_
  exact r _ _ _ _ dJ1_canEncode_9a6ad_16 (Or.inr rfl) ⟨rfl, rfl⟩
/-- where the sign stands -/
def sgF (c : Int) : Nat → Int
  | 0 => -1
  | k + 1 => if bJ 503 (10 - 1 - (k : Int)) = c then 10 - 1 - (k : Int) else sgF c k
theorem i2b_eq : ∀ (c : Fin 256) (k : Fin 10), (((Int32.ofInt (c.val : Int)).toInt8.toInt32).toInt = bJ 503 (k.val : Int)) ↔ bJ 503 (k.val : Int) = (c.val : Int) := by decide +kernel
theorem i2b_rg : ∀ c : Fin 256, -128 ≤ ((Int32.ofInt (c.val : Int)).toInt8.toInt32).toInt ∧ ((Int32.ofInt (c.val : Int)).toInt8.toInt32).toInt < 128 := by decide +kernel
theorem t_J1_indexOfChar {c : Int} {s : Sto} (hc : 0 ≤ c ∧ c < 256) : ClI LY 0 MJ1_indexOfChar_4cfef [.inr 505, .inl c, .inl 0, .inl 10] s (fun r s' => s' = s ∧ r = sgF c 10) := by
  refine ClI.intro (by decide) rfl (Nat.le_of_ble_eq_true rfl) (fun X C r => ?_)
  have er : ∀ k : Int, 0 ≤ k → k < 10 → ((((Int32.ofInt c).toInt8.toInt32).toInt = bJ 503 k) ↔ bJ 503 k = c) := fun k k0 k1 => by
    have := i2b_eq ⟨c.toNat, by omega⟩ ⟨k.toNat, by omega⟩
    simp only [Int.toNat_of_nonneg hc.1, Int.toNat_of_nonneg k0] at this
    exact this
  have rb : rg (((Int32.ofInt c).toInt8.toInt32).toInt) := by
    have := i2b_rg ⟨c.toNat, by omega⟩
    simp only [Int.toNat_of_nonneg hc.1] at this
    exact ⟨by omega, by omega⟩
  refine G_iload_n C dJ1_indexOfChar_4cfef_0 rfl ?_
  refine G_i2b C dJ1_indexOfChar_4cfef_1 ?_
  generalize ((Int32.ofInt c).toInt8.toInt32).toInt = b at er rb
  refine G_istore (L' := [rv 505, iv c, iv 0, iv 10, iv b, none]) C dJ1_indexOfChar_4cfef_2 (by decide) rfl ?_
  refine G_iload_n C dJ1_indexOfChar_4cfef_4 rfl ?_
  refine G_istore (L' := [rv 505, iv c, iv 0, iv 10, iv b, iv 0]) C dJ1_indexOfChar_4cfef_5 (by decide) rfl ?_
  have main : (sgF c 10 = sgF c (10 - (0 : Int)).toNat) → G LY X 7 [rv 505, iv c, iv 0, iv 10, iv b, iv 0] [] s := by
    refine downI (P := fun k => (sgF c 10 = sgF c (10 - k).toNat) → G LY X 7 [rv 505, iv c, iv 0, iv 10, iv b, iv k] [] s) (a := 0) (b := 10) (by decide) ?_ ?_
    · intro h
      refine G_iload C dJ1_indexOfChar_4cfef_7 rfl ?_
      refine G_iload_n C dJ1_indexOfChar_4cfef_9 rfl ?_
      refine G_icmp_ge (tgt := 31) C dJ1_indexOfChar_4cfef_10 (by decide) (by decide) (fun _ => ?_) (fun z => absurd z (by decide))
      refine G_iconst C dJ1_indexOfChar_4cfef_31 ?_
      exact r _ _ _ _ dJ1_indexOfChar_4cfef_32 ⟨rfl, by rw [h]; rfl⟩
    · intro k k0 k1 ih h
      have ek : (10 - k).toNat = (10 - (k + 1)).toNat + 1 := by omega
      have es : sgF c (10 - k).toNat = if bJ 503 k = c then k else sgF c (10 - (k + 1)).toNat := by
        rw [ek]
        show (if bJ 503 (10 - 1 - (((10 - (k + 1)).toNat : Nat) : Int)) = c then _ else _) = _
        rw [show 10 - 1 - (((10 - (k + 1)).toNat : Nat) : Int) = k by omega]
      refine G_iload C dJ1_indexOfChar_4cfef_7 rfl ?_
      refine G_iload_n C dJ1_indexOfChar_4cfef_9 rfl ?_
      refine G_icmp_ge (tgt := 31) C dJ1_indexOfChar_4cfef_10 (by decide) ⟨⟨by omega, by omega⟩, by decide⟩ (fun z => absurd z (by omega)) (fun _ => ?_)
      refine G_aload_n C dJ1_indexOfChar_4cfef_13 rfl ?_
      refine G_iload C dJ1_indexOfChar_4cfef_14 rfl ?_
      have bb := bJ_bd (q := 503) (i := k) (Or.inl rfl) ⟨k0, k1⟩
      refine G_tb (q := 503) C (Or.inl rfl) ⟨k0, k1⟩ dJ1_indexOfChar_4cfef_16 ?_
      refine G_iload C dJ1_indexOfChar_4cfef_17 rfl ?_
      refine G_icmp_ne (tgt := 25) C dJ1_indexOfChar_4cfef_19 (by decide) ⟨⟨by omega, by omega⟩, rb⟩ (fun z => ?_) (fun z => ?_)
      · refine G_iinc (L' := [rv 505, iv c, iv 0, iv 10, iv b, iv (k + 1)]) C dJ1_indexOfChar_4cfef_25 (by decide) rfl rfl ?_
        refine G_goto (tgt := 7) C dJ1_indexOfChar_4cfef_28 (by decide) ?_
        refine ih ?_
        rw [h, es, if_neg (fun w => z ((er k k0 k1).mpr w).symm)]
      · refine G_iload C dJ1_indexOfChar_4cfef_22 rfl ?_
        refine r _ _ _ _ dJ1_indexOfChar_4cfef_24 ⟨rfl, ?_⟩
        rw [h, es, if_pos ((er k k0 k1).mp z.symm)]
  exact main rfl
theorem t_J1_indexOf {c : Int} {s : Sto} (hc : 0 ≤ c ∧ c < 256) : ClI LY 1 MJ1_indexOf_4cfef [.inr 505, .inl c, .inl 0, .inl 10] s (fun r s' => s' = s ∧ r = sgF c 10) := by
  refine ClI.intro (by decide) rfl (Nat.le_of_ble_eq_true rfl) (fun X C r => ?_)
  refine G_iload_n C dJ1_indexOf_4cfef_0 rfl ?_
  refine G_callSI (K := []) (args := [.inl c]) C (Nat.le_of_ble_eq_true rfl) mo_J1_canEncode_9a6ad wc_J1_88 rfl dJ1_indexOf_4cfef_1 ⟨0, _, by decide, t_J1_canEncode hc, fun _ _ h => h⟩ (fun r1 s1 h => ?_)
  rw [h.1, h.2]
  refine G_if_ne (tgt := 9) C dJ1_indexOf_4cfef_4 (by decide) (by decide) (fun _ => ?_) (fun z => absurd z (by decide))
  refine G_iload_n C dJ1_indexOf_4cfef_9 rfl ?_
  refine G_iconst C dJ1_indexOf_4cfef_10 ?_
  refine G_max (K := []) C (by decide) (by decide) (Nat.le_of_ble_eq_true rfl) wm_J1_92 mmaxw dJ1_indexOf_4cfef_11 ?_
  refine G_istore_n (L' := [rv 505, iv c, iv (max 0 0), iv 10]) C dJ1_indexOf_4cfef_14 (by decide) rfl ?_
  refine G_iload_n C dJ1_indexOf_4cfef_15 rfl ?_
  refine G_aload_n C dJ1_indexOf_4cfef_16 rfl ?_
  refine G_tlen (q := 503) C (Or.inl rfl) dJ1_indexOf_4cfef_17 ?_
  refine G_min (K := []) C (by decide) (by decide) (Nat.le_of_ble_eq_true rfl) wm_J1_38 mminw dJ1_indexOf_4cfef_18 ?_
  refine G_istore_n (L' := [rv 505, iv c, iv (max 0 0), iv (min 10 (nJ 503))]) C dJ1_indexOf_4cfef_21 (by decide) rfl ?_
  refine G_iload_n C dJ1_indexOf_4cfef_22 rfl ?_
  refine G_iload_n C dJ1_indexOf_4cfef_23 rfl ?_
  refine G_icmp_lt (tgt := 29) C dJ1_indexOf_4cfef_24 (by decide) (by decide) (fun _ => ?_) (fun z => absurd z (by decide))
  refine G_aload_n C dJ1_indexOf_4cfef_29 rfl ?_
  refine G_iload_n C dJ1_indexOf_4cfef_30 rfl ?_
  refine G_iload_n C dJ1_indexOf_4cfef_31 rfl ?_
  refine G_iload_n C dJ1_indexOf_4cfef_32 rfl ?_
  refine G_callSI (K := []) (args := [.inr 505, .inl c, .inl (max 0 0), .inl (min 10 (nJ 503))]) C (Nat.le_of_ble_eq_true rfl) mo_J1_indexOfChar_4cfef wc_J1_95 rfl dJ1_indexOf_4cfef_33 ⟨0, _, by decide, t_J1_indexOfChar hc, fun _ _ h => h⟩ (fun r2 s2 h2 => ?_)
  rw [h2.1, h2.2]
  exact r _ _ _ _ dJ1_indexOf_4cfef_36 ⟨rfl, rfl⟩
theorem t_J0_indexOf2 {c : Int} {s : Sto} (hc : 0 ≤ c ∧ c < 256) : ClI LY 2 MJ0_indexOf_7cf53 [.inr 503, .inl c, .inl 0] s (fun r s' => s' = s ∧ r = sgF c 10) := by
  refine ClI.intro (by decide) rfl (Nat.le_of_ble_eq_true rfl) (fun X C r => ?_)
  refine G_aload_n C dJ0_indexOf_7cf53_0 rfl ?_
  refine G_callTI (K := []) (args := []) (q := 503) C (Or.inl rfl) rfl (Nat.le_of_ble_eq_true rfl) mo_J0_isLatin1_aae02 wc_J0_492 rfl dJ0_indexOf_7cf53_1 ⟨0, _, by decide, t_J0_isLatin1 (Or.inl rfl), fun _ _ h => h⟩ (fun r1 s1 h => ?_)
  rw [h.1, h.2]
  refine G_if_eq (tgt := 23) C dJ0_indexOf_7cf53_4 (by decide) (by decide) (fun z => absurd z (by decide)) (fun _ => ?_)
  refine G_aload_n C dJ0_indexOf_7cf53_7 rfl ?_
  refine G_gfV C (Or.inl rfl) dJ0_indexOf_7cf53_8 ?_
  refine G_iload_n C dJ0_indexOf_7cf53_11 rfl ?_
  refine G_iload_n C dJ0_indexOf_7cf53_12 rfl ?_
  refine G_aload_n C dJ0_indexOf_7cf53_13 rfl ?_
  refine G_callTI (K := [.inl 0, .inl c, .inr 505]) (args := []) (q := 503) C (Or.inl rfl) rfl (Nat.le_of_ble_eq_true rfl) mo_J0_length_8abf5 wc_J0_505 rfl dJ0_indexOf_7cf53_14 ⟨1, _, by decide, t_J0_length (Or.inl rfl), fun _ _ h => h⟩ (fun r2 s2 h2 => ?_)
  rw [h2.1, h2.2]
  refine G_callSI (K := []) (args := [.inr 505, .inl c, .inl 0, .inl (nJ 503)]) C (Nat.le_of_ble_eq_true rfl) mo_J1_indexOf_4cfef wc_J0_637 rfl dJ0_indexOf_7cf53_17 ⟨1, _, by decide, t_J1_indexOf hc, fun _ _ h => h⟩ (fun r3 s3 h3 => ?_)
  rw [h3.1, h3.2]
  refine G_goto (tgt := 36) C dJ0_indexOf_7cf53_20 (by decide) ?_
  exact r _ _ _ _ dJ0_indexOf_7cf53_36 ⟨rfl, rfl⟩
theorem t_J0_indexOf {c : Int} {s : Sto} (hc : 0 ≤ c ∧ c < 256) : ClI LY 3 MJ0_indexOf_0f7a4 [.inr 503, .inl c] s (fun r s' => s' = s ∧ r = sgF c 10) := by
  refine ClI.intro (by decide) rfl (Nat.le_of_ble_eq_true rfl) (fun X C r => ?_)
  refine G_aload_n C dJ0_indexOf_0f7a4_0 rfl ?_
  refine G_iload_n C dJ0_indexOf_0f7a4_1 rfl ?_
  refine G_iconst C dJ0_indexOf_0f7a4_2 ?_
  refine G_callTI (K := []) (args := [.inl c, .inl 0]) (q := 503) C (Or.inl rfl) rfl (Nat.le_of_ble_eq_true rfl) mo_J0_indexOf_7cf53 wc_J0_633 rfl dJ0_indexOf_0f7a4_3 ⟨2, _, by decide, t_J0_indexOf2 hc, fun _ _ h => h⟩ (fun r1 s1 h => ?_)
  rw [h.1, h.2]
  exact r _ _ _ _ dJ0_indexOf_0f7a4_6 ⟨rfl, rfl⟩
