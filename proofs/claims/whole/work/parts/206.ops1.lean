/-! OPERATIONS: class and reference answer alike, and the state holds again -/
def OpI [Inhabited YT] (M1 M2 : Mt) (a : List Vl) (s : Sto) : Prop := ∃ (d1 d2 : Nat) (Q1 : Int → Sto → Prop), d1 < 200 ∧ d2 < 200 ∧ ClI LY d1 M1 (.inr 0 :: a) s Q1 ∧ ∀ (r1 : Int) (s1 : Sto), Q1 r1 s1 → rg r1 ∧ ClI LY d2 M2 (.inr 75 :: a) s1 (fun r2 s2 => r2 = r1 ∧ Inv s2)
theorem ClI.mono {ly : List Sh} {d : Nat} {M : Mt} {args : List Vl} {s : Sto} {Q Q' : Int → Sto → Prop} (h : ClI ly d M args s Q) (hq : ∀ a s', Q a s' → Q' a s') : ClI ly d M args s Q' := by
  intro l D cI cZ ad sz
  have h1 := h l D cI cZ ad sz
  intro p e ha hc hk s0 m args0 below h2 h3 h4 h5
  obtain ⟨t, o, g1, g2, g3, ⟨⟨r, u, k1, ⟨a, k2, k3⟩, k4⟩, k5⟩, g5⟩ := h1 p e ha hc hk s0 m args0 below h2 h3 h4 h5
  exact ⟨t, o, g1, g2, g3, ⟨⟨r, u, k1, ⟨a, k2, hq a u k3⟩, k4⟩, k5⟩, g5⟩
theorem Inv.land [Inhabited YT] {s s' : Sto} (h : Inv s) (hl : LandR s' 3 s') (h22 : s' 75 22 = 0 ∨ s' 75 22 = 1) (e : ∀ (c : Nat) (i : Int), pers c i → ¬ (3 ≤ c ∧ c ≤ 20) → ¬ perM c i → s' c i = s c i) : Inv s' := by
  have er : ∀ c : Nat, (c ≤ 38 ∧ ¬ (3 ≤ c ∧ c ≤ 20)) ∨ c = 91 ∨ c = 92 ∨ c = 118 → s' c = s c := fun c hc => funext (fun i => e c i (by unfold pers; omega) (by omega) (by unfold perM; omega))
  obtain ⟨⟨h1, h2⟩, h3, h4, ⟨h5, h6, h7⟩, h8, h9, h10⟩ := h
  refine ⟨⟨?_, ?_⟩, hl, ?_, ⟨?_, ?_, ?_⟩, h22, ?_, ?_⟩
  · rw [er 1 (by omega), e 75 24 (by unfold pers; omega) (by omega) (by unfold perM; omega)]; exact h1
  · rw [er 1 (by omega), er 2 (by omega), er 91 (by omega)]; exact h2
  · rw [e 39 4 (by unfold pers; omega) (by omega) (by unfold perM; omega), e 39 5 (by unfold pers; omega) (by omega) (by unfold perM; omega), e 75 42 (by unfold pers; omega) (by omega) (by unfold perM; omega), e 75 43 (by unfold pers; omega) (by omega) (by unfold perM; omega)]; exact h4
  · rw [er 0 (by omega), e 75 69 (by unfold pers; omega) (by omega) (by unfold perM; omega)]; exact h5
  · rw [er 0 (by omega)]; exact h6
  · intro q
    rw [er 0 (by omega)] at q
    obtain ⟨m, k1, k2, k3⟩ := h7 q
    exact ⟨m, k1.congr (fun c i a b => by rw [er c (by omega)]) (fun _ _ _ => rfl), by rw [er 118 (by omega)]; exact k2, k3⟩
  · rw [e 75 59 (by unfold pers; omega) (by omega) (by unfold perM; omega)]; exact h9
  · rw [er 92 (by omega)]; exact h10
theorem Inv.tape [Inhabited YT] {s s' : Sto} (h : Inv s) (h1 : s' 1 1 = s' 75 24) (h2 : TapeR (s' 1 1) (s' 2) (s' 91)) (e : ∀ (c : Nat) (i : Int), pers c i → c ≠ 1 → c ≠ 2 → c ≠ 91 → ¬ (c = 75 ∧ i = 24) → s' c i = s c i) : Inv s' := by
  have er : ∀ c : Nat, (c ≤ 38 ∧ c ≠ 1 ∧ c ≠ 2) ∨ c = 92 ∨ c = 118 → s' c = s c := fun c hc => funext (fun i => e c i (by unfold pers; omega) (by omega) (by omega) (by omega) (by omega))
  obtain ⟨-, h3, h4, ⟨h5, h6, h7⟩, h8, h9, h10⟩ := h
  refine ⟨⟨h1, h2⟩, h3.congr (fun c i a b => by rw [er c (by omega)]) (fun c i hc => e c i (Or.inr (Or.inr (Or.inl hc))) (by unfold perM at hc; omega) (by unfold perM at hc; omega) (by unfold perM at hc; omega) (by unfold perM at hc; omega)), ?_, ⟨?_, ?_, ?_⟩, ?_, ?_, ?_⟩
  · rw [e 39 4 (by unfold pers; omega) (by omega) (by omega) (by omega) (by omega), e 39 5 (by unfold pers; omega) (by omega) (by omega) (by omega) (by omega), e 75 42 (by unfold pers; omega) (by omega) (by omega) (by omega) (by omega), e 75 43 (by unfold pers; omega) (by omega) (by omega) (by omega) (by omega)]; exact h4
  · rw [er 0 (by omega), e 75 69 (by unfold pers; omega) (by omega) (by omega) (by omega) (by omega)]; exact h5
  · rw [er 0 (by omega)]; exact h6
  · intro q
    rw [er 0 (by omega)] at q
    obtain ⟨m, k1, k2, k3⟩ := h7 q
    exact ⟨m, k1.congr (fun c i a b => by rw [er c (by omega)]) (fun _ _ _ => rfl), by rw [er 118 (by omega)]; exact k2, k3⟩
  · rw [e 75 22 (by unfold pers perM; omega) (by omega) (by omega) (by omega) (by omega)]; exact h8
  · rw [e 75 59 (by unfold pers; omega) (by omega) (by omega) (by omega) (by omega)]; exact h9
  · rw [er 92 (by omega)]; exact h10
set_option maxHeartbeats 2000000 in
theorem t_X11_state {v : Int} {s : Sto} : ClI LY 0 MX11_state [.inr 0, .inl v] s (fun r s' => r = s 3 1 ∧ s' = up s 3 1 v) := by
  refine ClI.intro (by decide) rfl (Nat.le_of_ble_eq_true rfl) (fun X C r => ?_)
  refine kb_X11_state_0 C r ?_
  rintro s1 rfl
  exact ⟨rfl, rfl⟩
set_option maxHeartbeats 2000000 in
theorem t_X12_state {v : Int} {s : Sto} : ClI LY 0 MX12_state [.inr 75, .inl v] s (fun r s' => r = s 75 1 ∧ s' = up (up s 75 0 0) 75 1 v) := by
  refine ClI.intro (by decide) rfl (Nat.le_of_ble_eq_true rfl) (fun X C r => ?_)
  refine kb_X12_state_0 C r ?_
  rintro s1 rfl
  rintro s2 rfl
  exact ⟨up_idx (by decide), rfl⟩
theorem op_state [Inhabited YT] {s : Sto} (h : Inv s) {v : Int} (hv : rg v) : OpI MX11_state MX12_state [.inl v] s := by
  refine ⟨0, 0, _, by decide, by decide, t_X11_state, ?_⟩
  rintro r1 s1 ⟨rfl, rfl⟩
  obtain ⟨a1, a2, a3, a4, a5, a6, a7, a8, a9, a10, a11, a12, a13, a14, a15⟩ := h.2.1
  refine ⟨a2.2, t_X12_state.mono ?_⟩
  rintro r2 s2 ⟨rfl, rfl⟩
  refine ⟨by rw [up_row (by decide)]; exact a2.1.symm, h.land ?_ ?_ (fun c i h1 h2 h3 => ?_)⟩
  · unfold LandR
    simp (disch := decide) only [up_row, up_idx, up_at]
    exact ⟨a1, ⟨trivial, hv⟩, a3, a4, a5, a6, a7, a8, a9, a10, a11, a12, a13, a14, a15⟩
  · simp (disch := decide) only [up_row, up_idx, up_at]
    exact h.2.2.2.2.1
  · unfold pers perM at *
    rw [up_ne (by omega), up_ne (by omega), up_ne (by omega)]
set_option maxHeartbeats 2000000 in
theorem t_X11_end {v : Int} {s : Sto} (hv : rg v) (hs : rg (s 1 1)) : ClI LY 0 MX11_end [.inr 0, .inl v] s (fun r s' => (r = 1 ∧ (0 ≤ v ∧ v ≤ s 1 1) ∧ s' = up s 1 1 v) ∨ (r = 0 ∧ ¬ (0 ≤ v ∧ v ≤ s 1 1) ∧ s' = s)) := by
  refine ClI.introZ (by decide) rfl (Nat.le_of_ble_eq_true rfl) (fun X C r => ?_)
  refine kb_X11_end_0 C r ?_
  refine ⟨hv, fun q => Or.inr ⟨rfl, by omega, rfl⟩, fun q => ⟨⟨hv, hs⟩, fun q2 => ?_, fun q2 => Or.inr ⟨rfl, by omega, rfl⟩⟩⟩
  rintro s1 rfl
  exact Or.inl ⟨rfl, ⟨q, q2⟩, rfl⟩
set_option maxHeartbeats 2000000 in
theorem t_X12_end {v : Int} {s : Sto} (hv : rg v) (hs : rg (s 75 24)) : ClI LY 1 MX12_end [.inr 75, .inl v] s (fun r s' => (r = 1 ∧ (0 ≤ v ∧ v ≤ s 75 24) ∧ s' = up (up s 75 0 0) 75 24 v) ∨ (r = 0 ∧ ¬ (0 ≤ v ∧ v ≤ s 75 24) ∧ s' = up s 75 0 0)) := by
  refine ClI.introZ (by decide) rfl (Nat.le_of_ble_eq_true rfl) (fun X C r => ?_)
  refine kb_X12_end_0 C r ?_
  rintro s1 rfl
  rw [up_idx (by decide)]
  refine ⟨0, _, by decide, t_X12_isIn hv (by decide) hs, ?_⟩
  rintro r1 s1 ⟨rfl, h1, h2⟩
  refine ⟨by omega, fun q => ?_, fun q => Or.inr ⟨rfl, by omega, rfl⟩⟩
  rintro s2 rfl
  exact Or.inl ⟨rfl, by omega, rfl⟩
theorem op_end [Inhabited YT] {s : Sto} (h : Inv s) {v : Int} (hv : rg v) : OpI MX11_end MX12_end [.inl v] s := by
  obtain ⟨hT1, hT2, hT3, hT4⟩ := h.1
  refine ⟨0, 1, _, by decide, by decide, t_X11_end hv (by constructor <;> omega), ?_⟩
  rintro r1 s1 (⟨rfl, q, rfl⟩ | ⟨rfl, q, rfl⟩)
  · have e : up s 1 1 v 75 24 = s 75 24 := by rw [up_row (by decide)]
    refine ⟨by decide, (t_X12_end hv (by rw [e]; constructor <;> omega)).mono ?_⟩
    rw [e]
    rintro r2 s2 (⟨rfl, q2, rfl⟩ | ⟨rfl, q2, rfl⟩)
    · refine ⟨rfl, h.tape ?_ ?_ (fun c i h1 h2 h3 h4 h5 => ?_)⟩
      · simp (disch := decide) only [up_row, up_idx, up_at]
      · simp (disch := decide) only [up_row, up_idx, up_at]
        exact ⟨q.1, by omega, fun i g1 g2 => hT4 i g1 (by omega)⟩
      · rw [up_ne (by omega), up_ne (by unfold pers perM at *; omega), up_ne (by omega)]
    · exact absurd q (by omega)
  · refine ⟨by decide, (t_X12_end hv (by constructor <;> omega)).mono ?_⟩
    rintro r2 s2 (⟨rfl, q2, rfl⟩ | ⟨rfl, q2, rfl⟩)
    · exact absurd q2 (by omega)
    · exact ⟨rfl, h.told 0⟩
set_option maxHeartbeats 2000000 in
theorem t_X11_fault {v : Int} {s : Sto} (hv : rg v) : ClI LY 0 MX11_fault [.inr 0, .inl v] s (fun r s' => s' = s ∧ r = (if v = 0 then s 39 4 else if v = 1 then s 39 5 else -1)) := by
  refine ClI.intro (by decide) rfl (Nat.le_of_ble_eq_true rfl) (fun X C r => ?_)
  refine kb_X11_fault_0 C r ?_
  refine ⟨hv, fun q => ⟨hv, fun q2 => ⟨rfl, by rw [if_neg q, if_neg q2]⟩, fun q2 => ⟨rfl, by rw [if_neg q, if_pos q2]⟩⟩, fun q => ⟨rfl, by rw [if_pos q]⟩⟩
set_option maxHeartbeats 2000000 in
theorem t_X12_fault {v : Int} {s : Sto} (hv : rg v) : ClI LY 0 MX12_fault [.inr 75, .inl v] s (fun r s' => s' = up s 75 0 0 ∧ r = (if v = 0 then s 75 42 else if v = 1 then s 75 43 else -1)) := by
  refine ClI.intro (by decide) rfl (Nat.le_of_ble_eq_true rfl) (fun X C r => ?_)
  refine kb_X12_fault_0 C r ?_
  rintro s1 rfl
  rw [up_idx (by decide), up_idx (by decide)]
  refine ⟨hv, fun q => ⟨hv, fun q2 => ⟨rfl, by rw [if_neg q, if_neg q2]⟩, fun q2 => ⟨rfl, by rw [if_neg q, if_pos q2]⟩⟩, fun q => ⟨rfl, by rw [if_pos q]⟩⟩
theorem op_fault [Inhabited YT] {s : Sto} (h : Inv s) {v : Int} (hv : rg v) : OpI MX11_fault MX12_fault [.inl v] s := by
  refine ⟨0, 0, _, by decide, by decide, t_X11_fault hv, ?_⟩
  rintro r1 s1 ⟨rfl, rfl⟩
  obtain ⟨f1, f2, f3, f4⟩ := h.2.2.1
  refine ⟨?_, (t_X12_fault hv).mono ?_⟩
  · split
    · exact f2
    · split
      · exact f4
      · decide
  · rintro r2 s2 ⟨rfl, rfl⟩
    exact ⟨by rw [f1, f3], h.told 0⟩
set_option maxHeartbeats 2000000 in
theorem t_X11_set {k v : Int} {s : Sto} (hk : rg k) (hv : rg v) : ClI LY 0 MX11_set [.inr 0, .inl k, .inl v] s (fun r s' => (r = 1 ∧ ((0 ≤ k ∧ k < 7) ∧ stA 500 k ≤ v ∧ v ≤ stA 501 k) ∧ s' = up s 4 k v) ∨ (r = 0 ∧ ¬ ((0 ≤ k ∧ k < 7) ∧ stA 500 k ≤ v ∧ v ≤ stA 501 k) ∧ s' = s)) := by
  refine ClI.introZ (by decide) rfl (Nat.le_of_ble_eq_true rfl) (fun X C r => ?_)
  refine kb_X11_set_0 C r ?_
  have hA : ∀ c j, rg (stA c j) := fun c j => by unfold stA; split <;> (repeat' split) <;> decide
  refine ⟨hk, fun q => Or.inr ⟨rfl, by omega, rfl⟩, fun q => ⟨hk, fun q2 => Or.inr ⟨rfl, by omega, rfl⟩, fun q2 => ⟨⟨q, q2⟩, ⟨hv, hA _ _⟩, fun q3 => Or.inr ⟨rfl, by omega, rfl⟩, fun q3 => ⟨⟨q, q2⟩, ⟨hv, hA _ _⟩, fun q4 => ⟨⟨q, q2⟩, ?_⟩, fun q4 => Or.inr ⟨rfl, by omega, rfl⟩⟩⟩⟩⟩
  rintro s1 rfl
  exact Or.inl ⟨rfl, ⟨⟨q, q2⟩, q3, q4⟩, rfl⟩
set_option maxHeartbeats 2000000 in
theorem t_X12_set {k v : Int} {s : Sto} (hk : rg k) (hv : rg v) : ClI LY 1 MX12_set [.inr 75, .inl k, .inl v] s (fun r s' => (r = 1 ∧ ((0 ≤ k ∧ k < 7) ∧ stA 500 k ≤ v ∧ v ≤ stA 501 k) ∧ s' = up (up s 75 0 0) 82 k v) ∨ (r = 0 ∧ ¬ ((0 ≤ k ∧ k < 7) ∧ stA 500 k ≤ v ∧ v ≤ stA 501 k) ∧ s' = up s 75 0 0)) := by
  refine ClI.introZ (by decide) rfl (Nat.le_of_ble_eq_true rfl) (fun X C r => ?_)
  refine kb_X12_set_0 C r ?_
  rintro s1 rfl
  refine ⟨0, _, by decide, t_X12_isIn hk (by decide) (by decide), ?_⟩
  rintro r1 s1 ⟨rfl, h1, h2⟩
  refine ⟨by omega, fun q => Or.inr ⟨rfl, by omega, rfl⟩, fun q => ?_⟩
  refine ⟨0, _, by decide, t_X12_leastOf hk, ?_⟩
  rintro r2 s2 ⟨rfl, e2⟩
  refine ⟨0, _, by decide, t_X12_mostOf hk, ?_⟩
  rintro r3 s3 ⟨rfl, e3⟩
  have k2 : r2 = stA 500 k := by rw [e2]; simp [stA]
  have k3 : r3 = stA 501 k := by
    rw [e3]; unfold stA; rw [if_pos rfl]
    split <;> (repeat' split) <;> omega
  have hA : ∀ c j, rg (stA c j) := fun c j => by unfold stA; split <;> (repeat' split) <;> decide
  refine ⟨0, _, by decide, t_X12_isIn hv (by rw [k2]; exact hA _ _) (by rw [k3]; exact hA _ _), ?_⟩
  rintro r4 s4 ⟨rfl, h3, h4⟩
  rw [k2, k3] at h4
  refine ⟨by omega, fun q4 => ⟨by omega, ?_⟩, fun q4 => Or.inr ⟨rfl, by omega, rfl⟩⟩
  rintro s5 rfl
  exact Or.inl ⟨rfl, by omega, rfl⟩
theorem op_set [Inhabited YT] {s : Sto} (h : Inv s) {k v : Int} (hk : rg k) (hv : rg v) : OpI MX11_set MX12_set [.inl k, .inl v] s := by
  refine ⟨0, 1, _, by decide, by decide, t_X11_set hk hv, ?_⟩
  rintro r1 s1 (⟨rfl, q, rfl⟩ | ⟨rfl, q, rfl⟩)
  · refine ⟨by decide, (t_X12_set hk hv).mono ?_⟩
    rintro r2 s2 (⟨rfl, q2, rfl⟩ | ⟨rfl, q2, rfl⟩)
    · obtain ⟨a1, a2, a3, a4, a5, a6, a7, a8, a9, a10, a11, a12, a13, a14, a15⟩ := h.2.1
      refine ⟨rfl, h.land ?_ ?_ (fun c i h1 h2 h3 => ?_)⟩
      · unfold LandR
        simp (disch := decide) only [up_row, up_idx, up_at]
        refine ⟨a1, a2, a3, a4, ?_, a6, a7, a8, a9, a10, a11, a12, a13, a14, a15⟩
        intro i g1 g2
        have := a5 i g1 g2
        show up s 4 k v 4 i = up (up (up s 4 k v) 75 0 0) 82 k v 82 i ∧ _
        rw [up_if, up_if]
        by_cases g : i = k
        · subst g
          rw [if_pos rfl, if_pos rfl]
          exact ⟨rfl, q.2⟩
        · rw [if_neg g, if_neg g, up_row (by decide), up_row (by decide)]
          exact this
      · simp (disch := decide) only [up_row, up_idx, up_at]
        exact h.2.2.2.2.1
      · unfold pers perM at *
        rw [up_ne (by omega), up_ne (by omega), up_ne (by omega)]
    · exact absurd q q2
  · refine ⟨by decide, (t_X12_set hk hv).mono ?_⟩
    rintro r2 s2 (⟨rfl, q2, rfl⟩ | ⟨rfl, q2, rfl⟩)
    · exact absurd q2 q
    · exact ⟨rfl, h.told 0⟩
