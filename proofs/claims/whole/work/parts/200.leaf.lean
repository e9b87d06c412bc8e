/-! CONTRACTS: leaves -/
set_option maxHeartbeats 2000000 in
theorem t_X9_isSmallLetter {v : Int} {s : Sto} (hv : rg v) : ClI LY 0 MX9_isSmallLetter [.inl v] s (fun r s' => s' = s ∧ (r = 0 ∨ r = 1) ∧ (r = 1 ↔ 97 ≤ v ∧ v ≤ 122)) := by
  refine ClI.introZ (by decide) rfl (Nat.le_of_ble_eq_true rfl) (fun X C r => ?_)
  refine kb_X9_isSmallLetter_0 C r ?_
  (repeat' (first | exact rfl | refine ⟨?_, ?_⟩ | intro _)) <;> (first | rfl | omega | (simp_all; done) | grind)
set_option maxHeartbeats 2000000 in
theorem t_X9_isDigit {v : Int} {s : Sto} (hv : rg v) : ClI LY 0 MX9_isDigit [.inl v] s (fun r s' => s' = s ∧ (r = 0 ∨ r = 1) ∧ (r = 1 ↔ 48 ≤ v ∧ v ≤ 57)) := by
  refine ClI.introZ (by decide) rfl (Nat.le_of_ble_eq_true rfl) (fun X C r => ?_)
  refine kb_X9_isDigit_0 C r ?_
  (repeat' (first | exact rfl | refine ⟨?_, ?_⟩ | intro _)) <;> (first | rfl | omega | (simp_all; done) | grind)
set_option maxHeartbeats 2000000 in
theorem t_X9_isBlank {v : Int} {s : Sto} (hv : rg v) : ClI LY 0 MX9_isBlank [.inl v] s (fun r s' => s' = s ∧ (r = 0 ∨ r = 1) ∧ (r = 1 ↔ v = 32 ∨ v = 10)) := by
  refine ClI.introZ (by decide) rfl (Nat.le_of_ble_eq_true rfl) (fun X C r => ?_)
  refine kb_X9_isBlank_0 C r ?_
  (repeat' (first | exact rfl | refine ⟨?_, ?_⟩ | intro _)) <;> (first | rfl | omega | (simp_all; done) | grind)
set_option maxHeartbeats 2000000 in
theorem t_X9_isLetter {v : Int} {s : Sto} (hv : rg v) : ClI LY 1 MX9_isLetter [.inl v] s (fun r s' => s' = s ∧ (r = 0 ∨ r = 1) ∧ (r = 1 ↔ (97 ≤ v ∧ v ≤ 122) ∨ (65 ≤ v ∧ v ≤ 90))) := by
  refine ClI.introZ (by decide) rfl (Nat.le_of_ble_eq_true rfl) (fun X C r => ?_)
  refine kb_X9_isLetter_0 C r ?_
  refine ⟨0, _, by decide, t_X9_isSmallLetter hv, ?_⟩
  rintro r1 s1 ⟨rfl, h1, h2⟩
  (repeat' (first | exact rfl | refine ⟨?_, ?_⟩ | intro _)) <;> (first | rfl | omega | (simp_all; done) | grind)
set_option maxHeartbeats 2000000 in
theorem t_X6_has {v : Int} {s : Sto} (hv : rg v) (hc : rg (s 5 0)) : ClI LY 0 MX6_has [.inr 5, .inl v] s (fun r s' => s' = s ∧ (r = 0 ∨ r = 1) ∧ (r = 1 ↔ 0 ≤ v ∧ v < s 5 0)) := by
  refine ClI.introZ (by decide) rfl (Nat.le_of_ble_eq_true rfl) (fun X C r => ?_)
  refine kb_X6_has_0 C r ?_
  (repeat' (first | exact rfl | refine ⟨?_, ?_⟩ | intro _)) <;> (first | rfl | omega | (simp_all; done) | grind)
set_option maxHeartbeats 2000000 in
theorem t_X12_isIn {v a b : Int} {s : Sto} (hv : rg v) (ha : rg a) (hb : rg b) : ClI LY 0 MX12_isIn [.inr 75, .inl v, .inl a, .inl b] s (fun r s' => s' = s ∧ (r = 0 ∨ r = 1) ∧ (r = 1 ↔ a ≤ v ∧ v ≤ b)) := by
  refine ClI.introZ (by decide) rfl (Nat.le_of_ble_eq_true rfl) (fun X C r => ?_)
  refine kb_X12_isIn_0 C r ?_
  (repeat' (first | exact rfl | refine ⟨?_, ?_⟩ | intro _)) <;> (first | rfl | omega | (simp_all; done) | grind)
set_option maxHeartbeats 2000000 in
theorem t_X12_isOne {v : Int} {s : Sto} (hv : rg v) (hc : rg (s 75 4)) : ClI LY 0 MX12_isOne [.inr 75, .inl v] s (fun r s' => s' = s ∧ (r = 0 ∨ r = 1) ∧ (r = 1 ↔ 0 ≤ v ∧ v < s 75 4)) := by
  refine ClI.introZ (by decide) rfl (Nat.le_of_ble_eq_true rfl) (fun X C r => ?_)
  refine kb_X12_isOne_0 C r ?_
  (repeat' (first | exact rfl | refine ⟨?_, ?_⟩ | intro _)) <;> (first | rfl | omega | (simp_all; done) | grind)
set_option maxHeartbeats 2000000 in
theorem t_X12_isLetterOf {v : Int} {s : Sto} (hv : rg v) (hc : rg (s 75 9)) : ClI LY 0 MX12_isLetterOf [.inr 75, .inl v] s (fun r s' => s' = s ∧ (r = 0 ∨ r = 1) ∧ (r = 1 ↔ 0 ≤ v ∧ v < s 75 9)) := by
  refine ClI.introZ (by decide) rfl (Nat.le_of_ble_eq_true rfl) (fun X C r => ?_)
  refine kb_X12_isLetterOf_0 C r ?_
  (repeat' (first | exact rfl | refine ⟨?_, ?_⟩ | intro _)) <;> (first | rfl | omega | (simp_all; done) | grind)
set_option maxHeartbeats 2000000 in
theorem t_X11_areTwoLetters {a b : Int} {s : Sto} (ha : rg a) (hb : rg b) (hc : rg (s 3 0)) : ClI LY 0 MX11_areTwoLetters [.inr 0, .inl a, .inl b] s (fun r s' => s' = s ∧ (r = 0 ∨ r = 1) ∧ (r = 1 ↔ (0 ≤ a ∧ a < s 3 0) ∧ (0 ≤ b ∧ b < s 3 0) ∧ a ≠ b)) := by
  refine ClI.introZ (by decide) rfl (Nat.le_of_ble_eq_true rfl) (fun X C r => ?_)
  refine kb_X11_areTwoLetters_0 C r ?_
  (repeat' (first | exact rfl | refine ⟨?_, ?_⟩ | intro _)) <;> (first | rfl | omega | (simp_all; done) | grind)
set_option maxHeartbeats 2000000 in
theorem t_X12_leastOf {v : Int} {s : Sto} (hv : rg v) : ClI LY 0 MX12_leastOf [.inr 75, .inl v] s (fun r s' => s' = s ∧ r = (if v = 5 then 1 else 0)) := by
  refine ClI.intro (by decide) rfl (Nat.le_of_ble_eq_true rfl) (fun X C r => ?_)
  refine kb_X12_leastOf_0 C r ?_
  (repeat' (first | exact rfl | refine ⟨?_, ?_⟩ | intro _)) <;> (first | rfl | omega | (simp_all; done) | grind)
set_option maxHeartbeats 2000000 in
theorem t_X12_mostOf {v : Int} {s : Sto} (hv : rg v) : ClI LY 0 MX12_mostOf [.inr 75, .inl v] s (fun r s' => s' = s ∧ r = (if v < 2 ∨ v = 6 then 2 else 99)) := by
  refine ClI.intro (by decide) rfl (Nat.le_of_ble_eq_true rfl) (fun X C r => ?_)
  refine kb_X12_mostOf_0 C r ?_
  (repeat' (first | exact rfl | refine ⟨?_, ?_⟩ | intro _)) <;> (first | rfl | omega | (simp_all; done) | grind)
set_option maxHeartbeats 2000000 in
theorem t_X12_isDigit {v : Int} {s : Sto} (hv : rg v) : ClI LY 1 MX12_isDigit [.inr 75, .inl v] s (fun r s' => s' = s ∧ (r = 0 ∨ r = 1) ∧ (r = 1 ↔ 48 ≤ v ∧ v ≤ 57)) := by
  refine ClI.introZ (by decide) rfl (Nat.le_of_ble_eq_true rfl) (fun X C r => ?_)
  refine kb_X12_isDigit_0 C r ?_
  refine ⟨0, _, by decide, t_X12_isIn hv (by decide) (by decide), ?_⟩
  rintro r1 s1 ⟨rfl, h1, h2⟩
  (repeat' (first | exact rfl | refine ⟨?_, ?_⟩ | intro _)) <;> (first | rfl | omega | (simp_all; done) | grind)
set_option maxHeartbeats 2000000 in
theorem t_X12_isLetter {v : Int} {s : Sto} (hv : rg v) : ClI LY 1 MX12_isLetter [.inr 75, .inl v] s (fun r s' => s' = s ∧ (r = 0 ∨ r = 1) ∧ (r = 1 ↔ (97 ≤ v ∧ v ≤ 122) ∨ (65 ≤ v ∧ v ≤ 90))) := by
  refine ClI.introZ (by decide) rfl (Nat.le_of_ble_eq_true rfl) (fun X C r => ?_)
  refine kb_X12_isLetter_0 C r ?_
  refine ⟨0, _, by decide, t_X12_isIn hv (by decide) (by decide), ?_⟩
  rintro r1 s1 ⟨rfl, h1, h2⟩
  refine ⟨by omega, fun q => ?_, fun q => ?_⟩
  · (repeat' (first | exact rfl | refine ⟨?_, ?_⟩ | intro _)) <;> (first | rfl | omega | (simp_all; done) | grind)
  · refine ⟨0, _, by decide, t_X12_isIn hv (by decide) (by decide), ?_⟩
    rintro r2 s2 ⟨rfl, h3, h4⟩
    (repeat' (first | exact rfl | refine ⟨?_, ?_⟩ | intro _)) <;> (first | rfl | omega | (simp_all; done) | grind)
set_option maxHeartbeats 2000000 in
theorem t_X12_isMarkSign {v : Int} {s : Sto} (hv : rg v) : ClI LY 0 MX12_isMarkSign [.inr 75, .inl v] s (fun r s' => s' = s ∧ (r = 0 ∨ r = 1) ∧ (r = 1 ↔ v = 59 ∨ v = 43 ∨ v = 45 ∨ v = 42 ∨ v = 47 ∨ v = 40 ∨ v = 41 ∨ v = 60 ∨ v = 61 ∨ v = 62)) := by
  refine ClI.introZ (by decide) rfl (Nat.le_of_ble_eq_true rfl) (fun X C r => ?_)
  refine kb_X12_isMarkSign_0 C r ?_
  (repeat' (first | exact rfl | refine ⟨?_, ?_⟩ | intro _)) <;> (first | rfl | omega | (simp_all; done) | grind)
set_option maxHeartbeats 2000000 in
theorem t_X12_raw {v : Int} {s : Sto} (hv : rg v) (h0 : 0 ≤ v) (hc : rg (s 75 24)) (hc2 : s 75 24 ≤ 400) : ClI LY 0 MX12_raw [.inr 75, .inl v] s (fun r s' => s' = s ∧ r = (if v < s 75 24 then s 91 v else -1)) := by
  refine ClI.intro (by decide) rfl (Nat.le_of_ble_eq_true rfl) (fun X C r => ?_)
  refine kb_X12_raw_0 C r ?_
  (repeat' (first | exact rfl | refine ⟨?_, ?_⟩ | intro _)) <;> (first | rfl | omega | (simp_all; done) | grind)
set_option maxHeartbeats 2000000 in
theorem t_X12_isWord {v : Int} {s : Sto} (hv : rg v) (h1 : rg (s 75 27)) (h2 : rg (s 75 28)) : ClI LY 0 MX12_isWord [.inr 75, .inl v] s (fun r s' => s' = s ∧ (r = 0 ∨ r = 1) ∧ (r = 1 ↔ s 75 27 = 2 ∧ s 75 28 = v)) := by
  refine ClI.introZ (by decide) rfl (Nat.le_of_ble_eq_true rfl) (fun X C r => ?_)
  refine kb_X12_isWord_0 C r ?_
  (repeat' (first | exact rfl | refine ⟨?_, ?_⟩ | intro _)) <;> (first | rfl | omega | (simp_all; done) | grind)
set_option maxHeartbeats 2000000 in
theorem t_X12_isSign {v : Int} {s : Sto} (hv : rg v) (h1 : rg (s 75 27)) (h2 : rg (s 75 28)) : ClI LY 0 MX12_isSign [.inr 75, .inl v] s (fun r s' => s' = s ∧ (r = 0 ∨ r = 1) ∧ (r = 1 ↔ s 75 27 = 4 ∧ s 75 28 = v)) := by
  refine ClI.introZ (by decide) rfl (Nat.le_of_ble_eq_true rfl) (fun X C r => ?_)
  refine kb_X12_isSign_0 C r ?_
  (repeat' (first | exact rfl | refine ⟨?_, ?_⟩ | intro _)) <;> (first | rfl | omega | (simp_all; done) | grind)
set_option maxHeartbeats 2000000 in
theorem t_X12_isLeftOut {v : Int} {s : Sto} (hv : rg v) (h1 : rg (s 75 9)) (h2 : rg (s 82 0)) : ClI LY 0 MX12_isLeftOut [.inr 75, .inl v] s (fun r s' => s' = s ∧ (r = 0 ∨ r = 1) ∧ (r = 1 ↔ s 75 9 ≤ v ∧ s 82 0 = 2)) := by
  refine ClI.introZ (by decide) rfl (Nat.le_of_ble_eq_true rfl) (fun X C r => ?_)
  refine kb_X12_isLeftOut_0 C r ?_
  (repeat' (first | exact rfl | refine ⟨?_, ?_⟩ | intro _)) <;> (first | rfl | omega | (simp_all; done) | grind)
set_option maxHeartbeats 2000000 in
theorem t_X12_standsAt {v : Int} {s : Sto} (hv : rg v) (h0 : 0 ≤ v) (h1 : rg (s 75 9)) (h8 : s 75 9 ≤ 8) (h2 : rg (s 82 0)) : ClI LY 0 MX12_standsAt [.inr 75, .inl v] s (fun r s' => s' = s ∧ r = (if v < s 75 9 then s 101 v else if s 82 0 = 1 then v - 100 else 100 + v)) := by
  refine ClI.intro (by decide) rfl (Nat.le_of_ble_eq_true rfl) (fun X C r => ?_)
  refine kb_X12_standsAt_0 C r ?_
  (repeat' (first | exact rfl | refine ⟨?_, ?_⟩ | intro _)) <;> (first | rfl | omega | (simp_all; done) | grind)
set_option maxHeartbeats 2000000 in
theorem t_X7_share {a b : Int} {s : Sto} (ha : rg a) (h1 : rg (a - b)) (h2 : rg (a + b)) : ClI LY 1 MX7_share [.inl a, .inl b] s (fun r s' => s' = s ∧ r = (if 0 < a then max 0 (a - b) else min 0 (a + b))) := by
  refine ClI.intro (by decide) rfl (Nat.le_of_ble_eq_true rfl) (fun X C r => ?_)
  refine kb_X7_share_0 C r (by omega) ?_
  (repeat' (first | exact rfl | refine ⟨?_, ?_⟩ | intro _)) <;> (first | rfl | omega | (simp_all; done) | grind)
set_option maxHeartbeats 2000000 in
theorem t_X5_nameLetter {p i : Int} {s : Sto} : ClI LY 0 MX5_nameLetter [.inl p, .inl i] s (fun r s' => s' = s ∧ r = xand (xshr p (5 * (5 - i))) 31 - 1) := by
  refine ClI.intro (by decide) rfl (Nat.le_of_ble_eq_true rfl) (fun X C r => ?_)
  refine kb_X5_nameLetter_0 C r ?_
  exact ⟨rfl, rfl⟩
set_option maxHeartbeats 2000000 in
theorem t_X5_nameGroup {p i : Int} {s : Sto} : ClI LY 0 MX5_nameGroup [.inl p, .inl i] s (fun r s' => s' = s ∧ r = xshl p (5 * (5 - i))) := by
  refine ClI.intro (by decide) rfl (Nat.le_of_ble_eq_true rfl) (fun X C r => ?_)
  refine kb_X5_nameGroup_0 C r ?_
  exact ⟨rfl, rfl⟩
set_option maxHeartbeats 2000000 in
theorem t_X5_orderLetter {o k i : Int} {s : Sto} : ClI LY 0 MX5_orderLetter [.inl o, .inl k, .inl i] s (fun r s' => s' = s ∧ r = xand (xshr o (3 * (k - 1 - i))) 7) := by
  refine ClI.intro (by decide) rfl (Nat.le_of_ble_eq_true rfl) (fun X C r => ?_)
  refine kb_X5_orderLetter_0 C r ?_
  exact ⟨rfl, rfl⟩
set_option maxHeartbeats 2000000 in
theorem t_X0_supportOf {a b : Int} {s : Sto} (h : 0 ≤ a * 8 + b ∧ a * 8 + b < 64) : ClI LY 0 MX0_supportOf [.inr 59, .inl a, .inl b] s (fun r s' => s' = s ∧ r = s 60 (a * 8 + b)) := by
  refine ClI.intro (by decide) rfl (Nat.le_of_ble_eq_true rfl) (fun X C r => ?_)
  refine kb_X0_supportOf_0 C r ?_
  exact ⟨h, rfl, rfl⟩
set_option maxHeartbeats 2000000 in
theorem t_X7_worthOf {p : Int} {s : Sto} (h : 0 ≤ p ∧ p < 20) (h2 : 0 ≤ s 50 p ∧ s 50 p < 20) : ClI LY 0 MX7_worthOf [.inr 46, .inl p] s (fun r s' => s' = s ∧ r = s 51 (s 50 p)) := by
  refine ClI.intro (by decide) rfl (Nat.le_of_ble_eq_true rfl) (fun X C r => ?_)
  refine kb_X7_worthOf_0 C r ?_
  exact ⟨h, h2, rfl, rfl⟩
set_option maxHeartbeats 2000000 in
theorem t_X12_errs {k : Int} {s : Sto} : ClI LY 0 MX12_errs [.inr 75, .inl k] s (fun r s' => s' = up (up s 75 40 k) 75 41 (s 75 26) ∧ r = -1) := by
  refine ClI.intro (by decide) rfl (Nat.le_of_ble_eq_true rfl) (fun X C r => ?_)
  refine kb_X12_errs_0 C r ?_
  rintro s1 rfl
  rintro s2 rfl
  rw [up_ne (by decide)]
  exact ⟨rfl, rfl⟩
set_option maxHeartbeats 2000000 in
theorem t_X4_clear {s : Sto} : ClV LY 0 MX4_clear [.inr 17] s (fun s' => s' = up (up s 17 0 0) 17 1 0) := by
  refine ClV.intro (by decide) rfl (Nat.le_of_ble_eq_true rfl) (fun X C r => ?_)
  refine kb_X4_clear_0 C r ?_
  rintro s1 rfl
  rintro s2 rfl
  rfl
set_option maxHeartbeats 2000000 in
theorem t_X4_clearv1 {s : Sto} : ClV LY 0 MX4_clear [.inr 42] s (fun s' => s' = up (up s 42 0 0) 42 1 0) := by
  refine ClV.intro (by decide) rfl (Nat.le_of_ble_eq_true rfl) (fun X C r => ?_)
  refine kb_X4_clearv1_0 C r ?_
  rintro s1 rfl
  rintro s2 rfl
  rfl
