/-! THE IMAGE in the reference -/
theorem sx_81 {i : Int} (h : 0 ≤ i ∧ i < 152) : sxI 81 i = 4 + 1 * i + 0 := by
  have e : sxI 81 i = if 0 ≤ i ∧ i < 152 then 4 + i else -1 := rfl
  rw [e, if_pos h]
  omega
theorem sx_82 {i : Int} (h : 0 ≤ i ∧ i < 7) : sxI 82 i = 156 + 1 * i + 0 := by
  have e : sxI 82 i = if 0 ≤ i ∧ i < 7 then 156 + i else -1 := rfl
  rw [e, if_pos h]
  omega
theorem sx_83 {i : Int} (h : 0 ≤ i ∧ i < 6) : sxI 83 i = 163 + 6 * i + 0 := by
  have e : sxI 83 i = if 0 ≤ i ∧ i < 6 then 163 + 6 * i + (((83 : Nat) : Int) - 83) else -1 := rfl
  rw [e, if_pos h]
  omega
theorem sx_84 {i : Int} (h : 0 ≤ i ∧ i < 6) : sxI 84 i = 163 + 6 * i + 1 := by
  have e : sxI 84 i = if 0 ≤ i ∧ i < 6 then 163 + 6 * i + (((84 : Nat) : Int) - 83) else -1 := rfl
  rw [e, if_pos h]
  omega
theorem sx_85 {i : Int} (h : 0 ≤ i ∧ i < 6) : sxI 85 i = 163 + 6 * i + 2 := by
  have e : sxI 85 i = if 0 ≤ i ∧ i < 6 then 163 + 6 * i + (((85 : Nat) : Int) - 83) else -1 := rfl
  rw [e, if_pos h]
  omega
theorem sx_86 {i : Int} (h : 0 ≤ i ∧ i < 6) : sxI 86 i = 163 + 6 * i + 3 := by
  have e : sxI 86 i = if 0 ≤ i ∧ i < 6 then 163 + 6 * i + (((86 : Nat) : Int) - 83) else -1 := rfl
  rw [e, if_pos h]
  omega
theorem sx_87 {i : Int} (h : 0 ≤ i ∧ i < 6) : sxI 87 i = 163 + 6 * i + 4 := by
  have e : sxI 87 i = if 0 ≤ i ∧ i < 6 then 163 + 6 * i + (((87 : Nat) : Int) - 83) else -1 := rfl
  rw [e, if_pos h]
  omega
theorem sx_88 {i : Int} (h : 0 ≤ i ∧ i < 6) : sxI 88 i = 163 + 6 * i + 5 := by
  have e : sxI 88 i = if 0 ≤ i ∧ i < 6 then 163 + 6 * i + (((88 : Nat) : Int) - 83) else -1 := rfl
  rw [e, if_pos h]
  omega
theorem sx_89 {i : Int} (h : 0 ≤ i ∧ i < 12) : sxI 89 i = 199 + 2 * i + 0 := by
  have e : sxI 89 i = if 0 ≤ i ∧ i < 12 then 199 + 2 * i + (((89 : Nat) : Int) - 89) else -1 := rfl
  rw [e, if_pos h]
  omega
theorem sx_90 {i : Int} (h : 0 ≤ i ∧ i < 12) : sxI 90 i = 199 + 2 * i + 1 := by
  have e : sxI 90 i = if 0 ≤ i ∧ i < 12 then 199 + 2 * i + (((90 : Nat) : Int) - 89) else -1 := rfl
  rw [e, if_pos h]
  omega
theorem sx_78 {i : Int} (h : 0 ≤ i ∧ i < 20) : sxI 78 i = 224 + 3 * i + 0 := by
  have e : sxI 78 i = if 0 ≤ i ∧ i < 20 then 224 + 3 * i + (((78 : Nat) : Int) - 78) else -1 := rfl
  rw [e, if_pos h]
  omega
theorem sx_79 {i : Int} (h : 0 ≤ i ∧ i < 20) : sxI 79 i = 224 + 3 * i + 1 := by
  have e : sxI 79 i = if 0 ≤ i ∧ i < 20 then 224 + 3 * i + (((79 : Nat) : Int) - 78) else -1 := rfl
  rw [e, if_pos h]
  omega
theorem sx_80 {i : Int} (h : 0 ≤ i ∧ i < 20) : sxI 80 i = 224 + 3 * i + 2 := by
  have e : sxI 80 i = if 0 ≤ i ∧ i < 20 then 224 + 3 * i + (((80 : Nat) : Int) - 78) else -1 := rfl
  rw [e, if_pos h]
  omega
theorem sx_76 {i : Int} (h : 0 ≤ i ∧ i < 30) : sxI 76 i = 285 + 1 * i + 0 := by
  have e : sxI 76 i = if 0 ≤ i ∧ i < 30 then 285 + i else -1 := rfl
  rw [e, if_pos h]
  omega
theorem sx_77 {i : Int} (h : 0 ≤ i ∧ i < 180) : sxI 77 i = 315 + 1 * i + 0 := by
  have e : sxI 77 i = if 0 ≤ i ∧ i < 180 then 315 + i else -1 := rfl
  rw [e, if_pos h]
  omega
theorem sx_93 {i : Int} (h : 0 ≤ i ∧ i < 16) : sxI 93 i = 496 + 3 * i + 0 := by
  have e : sxI 93 i = if 0 ≤ i ∧ i < 16 then 496 + 3 * i + (((93 : Nat) : Int) - 93) else -1 := rfl
  rw [e, if_pos h]
  omega
theorem sx_94 {i : Int} (h : 0 ≤ i ∧ i < 16) : sxI 94 i = 496 + 3 * i + 1 := by
  have e : sxI 94 i = if 0 ≤ i ∧ i < 16 then 496 + 3 * i + (((94 : Nat) : Int) - 93) else -1 := rfl
  rw [e, if_pos h]
  omega
theorem sx_95 {i : Int} (h : 0 ≤ i ∧ i < 16) : sxI 95 i = 496 + 3 * i + 2 := by
  have e : sxI 95 i = if 0 ≤ i ∧ i < 16 then 496 + 3 * i + (((95 : Nat) : Int) - 93) else -1 := rfl
  rw [e, if_pos h]
  omega
theorem sx_96 {i : Int} (h : 0 ≤ i ∧ i < 400) : sxI 96 i = 544 + 2 * i + 0 := by
  have e : sxI 96 i = if 0 ≤ i ∧ i < 400 then 544 + 2 * i + (((96 : Nat) : Int) - 96) else -1 := rfl
  rw [e, if_pos h]
  omega
theorem sx_97 {i : Int} (h : 0 ≤ i ∧ i < 400) : sxI 97 i = 544 + 2 * i + 1 := by
  have e : sxI 97 i = if 0 ≤ i ∧ i < 400 then 544 + 2 * i + (((97 : Nat) : Int) - 96) else -1 := rfl
  rw [e, if_pos h]
  omega
set_option maxHeartbeats 4000000 in
theorem t_X12_keepsPeople {tk : Int} {B S0 : Sto} (h : STI tk B 223 S0) (hB : B 75 68 = tk) (htk : tk = 0 ∨ tk = 1) : ClV LY 1 MX12_keepsPeople [.inr 75] S0 (fun s' => STI tk B 495 s') := by
  refine ClV.intro (by decide) rfl (Nat.le_of_ble_eq_true rfl) (fun X C r => ?_)
  have l118 : ∀ S : Sto, STI tk B 315 S → G LY X 118 [rv 75, iv 0] [] S := by
    have key : ∀ S : Sto, STI tk B (315 + 1 * 0) S → G LY X 118 [rv 75, iv 0] [] S := by
      refine downI (P := fun v => ∀ S : Sto, STI tk B (315 + 1 * v) S → G LY X 118 [rv 75, iv v] [] S) (a := 0) (b := 180) (by decide) ?_ ?_
      · intro S h
        exact kb_X12_keepsPeople_118 C r ⟨by decide, fun _ => by rw [show (315 : Int) + 1 * 180 = 495 by decide] at h; exact h, fun z => absurd z (by decide)⟩
      · intro v v0 v1 ih S h0
        refine kb_X12_keepsPeople_118 C r ⟨⟨by omega, by omega⟩, fun z => absurd z (by omega), fun _ => ⟨⟨by omega, by omega⟩, ?_⟩⟩
        refine ⟨0, _, by decide, keep1 (k := 315 + 1 * v) h0 hB htk (by rw [sx_77 ⟨v0, v1⟩]; omega) (by omega), ?_⟩
        rintro r0 s0 g0
        refine ⟨⟨by omega, by omega⟩, ?_⟩
        rintro T0 e0
        refine ih T0 ?_
        have := g0 T0 e0
        rw [show 315 + 1 * (v + 1) = 315 + 1 * v + 1 by omega]
        exact this
    intro S h
    refine key S ?_
    rw [show (315 : Int) + 1 * 0 = 315 by decide]
    exact h
  have l88 : ∀ S : Sto, STI tk B 285 S → G LY X 88 [rv 75, iv 0] [] S := by
    have key : ∀ S : Sto, STI tk B (285 + 1 * 0) S → G LY X 88 [rv 75, iv 0] [] S := by
      refine downI (P := fun v => ∀ S : Sto, STI tk B (285 + 1 * v) S → G LY X 88 [rv 75, iv v] [] S) (a := 0) (b := 30) (by decide) ?_ ?_
      · intro S h
        exact kb_X12_keepsPeople_88 C r ⟨by decide, fun _ => l118 S (by rw [show (285 : Int) + 1 * 30 = 315 by decide] at h; exact h), fun z => absurd z (by decide)⟩
      · intro v v0 v1 ih S h0
        refine kb_X12_keepsPeople_88 C r ⟨⟨by omega, by omega⟩, fun z => absurd z (by omega), fun _ => ⟨⟨by omega, by omega⟩, ?_⟩⟩
        refine ⟨0, _, by decide, keep1 (k := 285 + 1 * v) h0 hB htk (by rw [sx_76 ⟨v0, v1⟩]; omega) (by omega), ?_⟩
        rintro r0 s0 g0
        refine ⟨⟨by omega, by omega⟩, ?_⟩
        rintro T0 e0
        refine ih T0 ?_
        have := g0 T0 e0
        rw [show 285 + 1 * (v + 1) = 285 + 1 * v + 1 by omega]
        exact this
    intro S h
    refine key S ?_
    rw [show (285 : Int) + 1 * 0 = 285 by decide]
    exact h
  have l14 : ∀ S : Sto, STI tk B 224 S → G LY X 14 [rv 75, iv 0] [] S := by
    have key : ∀ S : Sto, STI tk B (224 + 3 * 0) S → G LY X 14 [rv 75, iv 0] [] S := by
      refine downI (P := fun v => ∀ S : Sto, STI tk B (224 + 3 * v) S → G LY X 14 [rv 75, iv v] [] S) (a := 0) (b := 20) (by decide) ?_ ?_
      · intro S h
        rw [show (224 : Int) + 3 * 20 = 284 by decide] at h
        refine kb_X12_keepsPeople_14 C r ⟨by decide, fun _ => ⟨0, _, by decide, keep1 h hB htk (c := 75) (i := 8) (by decide) (by decide), ?_⟩, fun z => absurd z (by decide)⟩
        rintro r0 s0 g0 T0 e0
        exact l88 T0 (g0 T0 e0)
      · intro v v0 v1 ih S h0
        refine kb_X12_keepsPeople_14 C r ⟨⟨by omega, by omega⟩, fun z => absurd z (by omega), fun _ => ⟨⟨by omega, by omega⟩, ?_⟩⟩
        refine ⟨0, _, by decide, keep1 (k := 224 + 3 * v) h0 hB htk (by rw [sx_78 ⟨v0, v1⟩]; omega) (by omega), ?_⟩
        rintro r0 s0 g0
        refine ⟨⟨by omega, by omega⟩, ?_⟩
        rintro T0 e0
        have h1 := g0 T0 e0
        refine ⟨⟨by omega, by omega⟩, ?_⟩
        refine ⟨0, _, by decide, keep1 h1 hB htk (k := 224 + 3 * v + 1) (by rw [sx_79 ⟨v0, v1⟩]) (by omega), ?_⟩
        rintro r1 s1 g1
        refine ⟨⟨by omega, by omega⟩, ?_⟩
        rintro T1 e1
        have h2 := g1 T1 e1
        rw [show 224 + 3 * v + 1 + 1 = 224 + 3 * v + 2 by omega] at h2
        refine ⟨⟨by omega, by omega⟩, ?_⟩
        refine ⟨0, _, by decide, keep1 h2 hB htk (k := 224 + 3 * v + 2) (by rw [sx_80 ⟨v0, v1⟩]) (by omega), ?_⟩
        rintro r2 s2 g2
        refine ⟨⟨by omega, by omega⟩, ?_⟩
        rintro T2 e2
        refine ih T2 ?_
        have := g2 T2 e2
        rw [show 224 + 3 * (v + 1) = 224 + 3 * v + 2 + 1 by omega]
        exact this
    intro S h
    refine key S ?_
    rw [show (224 : Int) + 3 * 0 = 224 by decide]
    exact h
  refine kb_X12_keepsPeople_0 C r ⟨0, _, by decide, keep1 h hB htk (c := 75) (i := 4) (by decide) (by decide), ?_⟩
  rintro r0 s0 g0 T0 e0
  exact l14 T0 (g0 T0 e0)
set_option maxHeartbeats 4000000 in
theorem t_X12_keepsNaming {tk : Int} {B S0 : Sto} (h : STI tk B 495 S0) (hB : B 75 68 = tk) (htk : tk = 0 ∨ tk = 1) : ClV LY 1 MX12_keepsNaming [.inr 75] S0 (fun s' => STI tk B 1344 s') := by
  refine ClV.intro (by decide) rfl (Nat.le_of_ble_eq_true rfl) (fun X C r => ?_)
  have l76 : ∀ S : Sto, STI tk B 544 S → G LY X 76 [rv 75, iv 0] [] S := by
    have key : ∀ S : Sto, STI tk B (544 + 2 * 0) S → G LY X 76 [rv 75, iv 0] [] S := by
      refine downI (P := fun v => ∀ S : Sto, STI tk B (544 + 2 * v) S → G LY X 76 [rv 75, iv v] [] S) (a := 0) (b := 400) (by decide) ?_ ?_
      · intro S h
        exact kb_X12_keepsNaming_76 C r ⟨by decide, fun _ => by rw [show (544 : Int) + 2 * 400 = 1344 by decide] at h; exact h, fun z => absurd z (by decide)⟩
      · intro v v0 v1 ih S h0
        refine kb_X12_keepsNaming_76 C r ⟨⟨by omega, by omega⟩, fun z => absurd z (by omega), fun _ => ⟨⟨by omega, by omega⟩, ?_⟩⟩
        refine ⟨0, _, by decide, keep1 (k := 544 + 2 * v) h0 hB htk (by rw [sx_96 ⟨v0, v1⟩]; omega) (by omega), ?_⟩
        rintro r0 s0 g0
        refine ⟨⟨by omega, by omega⟩, ?_⟩
        rintro T0 e0
        have h1 := g0 T0 e0
        refine ⟨⟨by omega, by omega⟩, ?_⟩
        refine ⟨0, _, by decide, keep1 h1 hB htk (k := 544 + 2 * v + 1) (by rw [sx_97 ⟨v0, v1⟩]) (by omega), ?_⟩
        rintro r1 s1 g1
        refine ⟨⟨by omega, by omega⟩, ?_⟩
        rintro T1 e1
        refine ih T1 ?_
        have := g1 T1 e1
        rw [show 544 + 2 * (v + 1) = 544 + 2 * v + 1 + 1 by omega]
        exact this
    intro S h
    refine key S ?_
    rw [show (544 : Int) + 2 * 0 = 544 by decide]
    exact h
  have l14 : ∀ S : Sto, STI tk B 496 S → G LY X 14 [rv 75, iv 0] [] S := by
    have key : ∀ S : Sto, STI tk B (496 + 3 * 0) S → G LY X 14 [rv 75, iv 0] [] S := by
      refine downI (P := fun v => ∀ S : Sto, STI tk B (496 + 3 * v) S → G LY X 14 [rv 75, iv v] [] S) (a := 0) (b := 16) (by decide) ?_ ?_
      · intro S h
        exact kb_X12_keepsNaming_14 C r ⟨by decide, fun _ => l76 S (by rw [show (496 : Int) + 3 * 16 = 544 by decide] at h; exact h), fun z => absurd z (by decide)⟩
      · intro v v0 v1 ih S h0
        refine kb_X12_keepsNaming_14 C r ⟨⟨by omega, by omega⟩, fun z => absurd z (by omega), fun _ => ⟨⟨by omega, by omega⟩, ?_⟩⟩
        refine ⟨0, _, by decide, keep1 (k := 496 + 3 * v) h0 hB htk (by rw [sx_93 ⟨v0, v1⟩]; omega) (by omega), ?_⟩
        rintro r0 s0 g0
        refine ⟨⟨by omega, by omega⟩, ?_⟩
        rintro T0 e0
        have h1 := g0 T0 e0
        refine ⟨⟨by omega, by omega⟩, ?_⟩
        refine ⟨0, _, by decide, keep1 h1 hB htk (k := 496 + 3 * v + 1) (by rw [sx_94 ⟨v0, v1⟩]) (by omega), ?_⟩
        rintro r1 s1 g1
        refine ⟨⟨by omega, by omega⟩, ?_⟩
        rintro T1 e1
        have h2 := g1 T1 e1
        rw [show 496 + 3 * v + 1 + 1 = 496 + 3 * v + 2 by omega] at h2
        refine ⟨⟨by omega, by omega⟩, ?_⟩
        refine ⟨0, _, by decide, keep1 h2 hB htk (k := 496 + 3 * v + 2) (by rw [sx_95 ⟨v0, v1⟩]) (by omega), ?_⟩
        rintro r2 s2 g2
        refine ⟨⟨by omega, by omega⟩, ?_⟩
        rintro T2 e2
        refine ih T2 ?_
        have := g2 T2 e2
        rw [show 496 + 3 * (v + 1) = 496 + 3 * v + 2 + 1 by omega]
        exact this
    intro S h
    refine key S ?_
    rw [show (496 : Int) + 3 * 0 = 496 by decide]
    exact h
  refine kb_X12_keepsNaming_0 C r ⟨0, _, by decide, keep1 h hB htk (c := 75) (i := 30) (by decide) (by decide), ?_⟩
  rintro r0 s0 g0 T0 e0
  exact l14 T0 (g0 T0 e0)
set_option maxHeartbeats 4000000 in
theorem t_imgM {tk v1 : Int} {B : Sto} {X : Cx} {P : Int → Sto → Prop} (C : Ok LY X RX12 cX12_image 3 2) (r : RetZ LY X cX12_image P) (hB : B 75 68 = tk) (htk : tk = 0 ∨ tk = 1) (fin : ∀ S : Sto, STI tk B 1344 S → P 1 S) : ∀ S : Sto, STI tk B 4 S → G LY X 87 [rv 75, iv v1, iv 0] [] S := by
  have l258 : ∀ S : Sto, STI tk B 199 S → G LY X 258 [rv 75, iv v1, iv 0] [] S := by
    have key : ∀ S : Sto, STI tk B (199 + 2 * 0) S → G LY X 258 [rv 75, iv v1, iv 0] [] S := by
      refine downI (P := fun v => ∀ S : Sto, STI tk B (199 + 2 * v) S → G LY X 258 [rv 75, iv v1, iv v] [] S) (a := 0) (b := 12) (by decide) ?_ ?_
      · intro S h
        rw [show (199 : Int) + 2 * 12 = 223 by decide] at h
        refine kb_X12_image_258 C r ⟨by decide, fun _ => ⟨1, _, by decide, t_X12_keepsPeople h hB htk, ?_⟩, fun z => absurd z (by decide)⟩
        rintro s0 g0
        refine ⟨1, _, by decide, t_X12_keepsNaming g0 hB htk, ?_⟩
        rintro s1 g1
        exact fin s1 g1
      · intro v v0 v1 ih S h0
        refine kb_X12_image_258 C r ⟨⟨by omega, by omega⟩, fun z => absurd z (by omega), fun _ => ⟨⟨by omega, by omega⟩, ?_⟩⟩
        refine ⟨0, _, by decide, keep1 (k := 199 + 2 * v) h0 hB htk (by rw [sx_89 ⟨v0, v1⟩]; omega) (by omega), ?_⟩
        rintro r0 s0 g0
        refine ⟨⟨by omega, by omega⟩, ?_⟩
        rintro T0 e0
        have h1 := g0 T0 e0
        refine ⟨⟨by omega, by omega⟩, ?_⟩
        refine ⟨0, _, by decide, keep1 h1 hB htk (k := 199 + 2 * v + 1) (by rw [sx_90 ⟨v0, v1⟩]) (by omega), ?_⟩
        rintro r1 s1 g1
        refine ⟨⟨by omega, by omega⟩, ?_⟩
        rintro T1 e1
        refine ih T1 ?_
        have := g1 T1 e1
        rw [show 199 + 2 * (v + 1) = 199 + 2 * v + 1 + 1 by omega]
        exact this
    intro S h
    refine key S ?_
    rw [show (199 : Int) + 2 * 0 = 199 by decide]
    exact h
  have l148 : ∀ S : Sto, STI tk B 163 S → G LY X 148 [rv 75, iv v1, iv 0] [] S := by
    have key : ∀ S : Sto, STI tk B (163 + 6 * 0) S → G LY X 148 [rv 75, iv v1, iv 0] [] S := by
      refine downI (P := fun v => ∀ S : Sto, STI tk B (163 + 6 * v) S → G LY X 148 [rv 75, iv v1, iv v] [] S) (a := 0) (b := 6) (by decide) ?_ ?_
      · intro S h
        exact kb_X12_image_148 C r ⟨by decide, fun _ => l258 S (by rw [show (163 : Int) + 6 * 6 = 199 by decide] at h; exact h), fun z => absurd z (by decide)⟩
      · intro v v0 v1 ih S h0
        refine kb_X12_image_148 C r ⟨⟨by omega, by omega⟩, fun z => absurd z (by omega), fun _ => ⟨⟨by omega, by omega⟩, ?_⟩⟩
        refine ⟨0, _, by decide, keep1 (k := 163 + 6 * v) h0 hB htk (by rw [sx_83 ⟨v0, v1⟩]; omega) (by omega), ?_⟩
        rintro r0 s0 g0
        refine ⟨⟨by omega, by omega⟩, ?_⟩
        rintro T0 e0
        have h1 := g0 T0 e0
        refine ⟨⟨by omega, by omega⟩, ?_⟩
        refine ⟨0, _, by decide, keep1 h1 hB htk (k := 163 + 6 * v + 1) (by rw [sx_84 ⟨v0, v1⟩]) (by omega), ?_⟩
        rintro r1 s1 g1
        refine ⟨⟨by omega, by omega⟩, ?_⟩
        rintro T1 e1
        have h2 := g1 T1 e1
        rw [show 163 + 6 * v + 1 + 1 = 163 + 6 * v + 2 by omega] at h2
        refine ⟨⟨by omega, by omega⟩, ?_⟩
        refine ⟨0, _, by decide, keep1 h2 hB htk (k := 163 + 6 * v + 2) (by rw [sx_85 ⟨v0, v1⟩]) (by omega), ?_⟩
        rintro r2 s2 g2
        refine ⟨⟨by omega, by omega⟩, ?_⟩
        rintro T2 e2
        have h3 := g2 T2 e2
        rw [show 163 + 6 * v + 2 + 1 = 163 + 6 * v + 3 by omega] at h3
        refine ⟨⟨by omega, by omega⟩, ?_⟩
        refine ⟨0, _, by decide, keep1 h3 hB htk (k := 163 + 6 * v + 3) (by rw [sx_86 ⟨v0, v1⟩]) (by omega), ?_⟩
        rintro r3 s3 g3
        refine ⟨⟨by omega, by omega⟩, ?_⟩
        rintro T3 e3
        have h4 := g3 T3 e3
        rw [show 163 + 6 * v + 3 + 1 = 163 + 6 * v + 4 by omega] at h4
        refine ⟨⟨by omega, by omega⟩, ?_⟩
        refine ⟨0, _, by decide, keep1 h4 hB htk (k := 163 + 6 * v + 4) (by rw [sx_87 ⟨v0, v1⟩]) (by omega), ?_⟩
        rintro r4 s4 g4
        refine ⟨⟨by omega, by omega⟩, ?_⟩
        rintro T4 e4
        have h5 := g4 T4 e4
        rw [show 163 + 6 * v + 4 + 1 = 163 + 6 * v + 5 by omega] at h5
        refine ⟨⟨by omega, by omega⟩, ?_⟩
        refine ⟨0, _, by decide, keep1 h5 hB htk (k := 163 + 6 * v + 5) (by rw [sx_88 ⟨v0, v1⟩]) (by omega), ?_⟩
        rintro r5 s5 g5
        refine ⟨⟨by omega, by omega⟩, ?_⟩
        rintro T5 e5
        refine ih T5 ?_
        have := g5 T5 e5
        rw [show 163 + 6 * (v + 1) = 163 + 6 * v + 5 + 1 by omega]
        exact this
    intro S h
    refine key S ?_
    rw [show (163 : Int) + 6 * 0 = 163 by decide]
    exact h
  have l118 : ∀ S : Sto, STI tk B 156 S → G LY X 118 [rv 75, iv v1, iv 0] [] S := by
    have key : ∀ S : Sto, STI tk B (156 + 1 * 0) S → G LY X 118 [rv 75, iv v1, iv 0] [] S := by
      refine downI (P := fun v => ∀ S : Sto, STI tk B (156 + 1 * v) S → G LY X 118 [rv 75, iv v1, iv v] [] S) (a := 0) (b := 7) (by decide) ?_ ?_
      · intro S h
        exact kb_X12_image_118 C r ⟨by decide, fun _ => l148 S (by rw [show (156 : Int) + 1 * 7 = 163 by decide] at h; exact h), fun z => absurd z (by decide)⟩
      · intro v v0 v1 ih S h0
        refine kb_X12_image_118 C r ⟨⟨by omega, by omega⟩, fun z => absurd z (by omega), fun _ => ⟨⟨by omega, by omega⟩, ?_⟩⟩
        refine ⟨0, _, by decide, keep1 (k := 156 + 1 * v) h0 hB htk (by rw [sx_82 ⟨v0, v1⟩]; omega) (by omega), ?_⟩
        rintro r0 s0 g0
        refine ⟨⟨by omega, by omega⟩, ?_⟩
        rintro T0 e0
        refine ih T0 ?_
        have := g0 T0 e0
        rw [show 156 + 1 * (v + 1) = 156 + 1 * v + 1 by omega]
        exact this
    intro S h
    refine key S ?_
    rw [show (156 : Int) + 1 * 0 = 156 by decide]
    exact h
  have l87 : ∀ S : Sto, STI tk B 4 S → G LY X 87 [rv 75, iv v1, iv 0] [] S := by
    have key : ∀ S : Sto, STI tk B (4 + 1 * 0) S → G LY X 87 [rv 75, iv v1, iv 0] [] S := by
      refine downI (P := fun v => ∀ S : Sto, STI tk B (4 + 1 * v) S → G LY X 87 [rv 75, iv v1, iv v] [] S) (a := 0) (b := 152) (by decide) ?_ ?_
      · intro S h
        exact kb_X12_image_87 C r ⟨by decide, fun _ => l118 S (by rw [show (4 : Int) + 1 * 152 = 156 by decide] at h; exact h), fun z => absurd z (by decide)⟩
      · intro v v0 v1 ih S h0
        refine kb_X12_image_87 C r ⟨⟨by omega, by omega⟩, fun z => absurd z (by omega), fun _ => ⟨⟨by omega, by omega⟩, ?_⟩⟩
        refine ⟨0, _, by decide, keep1 (k := 4 + 1 * v) h0 hB htk (by rw [sx_81 ⟨v0, v1⟩]; omega) (by omega), ?_⟩
        rintro r0 s0 g0
        refine ⟨⟨by omega, by omega⟩, ?_⟩
        rintro T0 e0
        refine ih T0 ?_
        have := g0 T0 e0
        rw [show 4 + 1 * (v + 1) = 4 + 1 * v + 1 by omega]
        exact this
    intro S h
    refine key S ?_
    rw [show (4 : Int) + 1 * 0 = 4 by decide]
    exact h
  exact l87
