/-! MAY, in the class -/
theorem abN_bd (K : Int) (g : Int → Int) : ∀ n : Nat, 0 ≤ abN K g n ∧ abN K g n ≤ n
  | 0 => ⟨Int.le_refl 0, Int.le_refl 0⟩
  | n + 1 => by
    have h := abN_bd K g n
    show 0 ≤ abN K g n + (if K ≤ g n then 1 else 0) ∧ abN K g n + (if K ≤ g n then 1 else 0) ≤ _
    split <;> omega
def FaR (K : Int) (od f g : Int → Int) (na nb ag co sx wo : Int) (fa : Int → Int) : Prop := fa 0 = nb ∧ fsR K od g nb (fa 1) (fa 2) ∧ CP f g na nb (fa 3) ∧ fa 4 = abN K g nb.toNat ∧ fa 5 = twN g nb.toNat ∧ fa 6 = ag ∧ fa 7 = co ∧ fa 8 = sx ∧ fa 9 = wo
theorem FaR.uniq {K na nb ag co sx wo : Int} {od f g fa fa' : Int → Int} (h : FaR K od f g na nb ag co sx wo fa) (h' : FaR K od f g na nb ag co sx wo fa') : ∀ j : Int, 0 ≤ j → j < 10 → fa j = fa' j := by
  obtain ⟨a0, a1, a3, a4, a5, a6, a7, a8, a9⟩ := h
  obtain ⟨b0, b1, b3, b4, b5, b6, b7, b8, b9⟩ := h'
  have e12 : fa 1 = fa' 1 ∧ fa 2 = fa' 2 := by
    by_cases q : 0 < nb
    · exact ⟨(a1.2 q).1.uniq (b1.2 q).1, (a1.2 q).2.uniq (b1.2 q).2⟩
    · have x := a1.1 (by omega)
      have y := b1.1 (by omega)
      exact ⟨by rw [x.1, y.1], by rw [x.2, y.2]⟩
  have e3 := a3.uniq b3
  intro j j0 j1
  rcases (show j = 0 ∨ j = 1 ∨ j = 2 ∨ j = 3 ∨ j = 4 ∨ j = 5 ∨ j = 6 ∨ j = 7 ∨ j = 8 ∨ j = 9 by omega) with z | z | z | z | z | z | z | z | z | z <;> rw [z]
  · rw [a0, b0]
  · exact e12.1
  · exact e12.2
  · exact e3
  · rw [a4, b4]
  · rw [a5, b5]
  · rw [a6, b6]
  · rw [a7, b7]
  · rw [a8, b8]
  · rw [a9, b9]
theorem FaR.rgs {K na nb ag co sx wo : Int} {od f g fa : Int → Int} (h : FaR K od f g na nb ag co sx wo fa) (hK : 2 ≤ K ∧ K ≤ 8) (hn : 0 ≤ nb ∧ nb ≤ 6) (r1 : rg ag) (r2 : rg co) (r3 : rg sx) (r4 : rg wo) : ∀ j : Int, 0 ≤ j → j < 10 → rg (fa j) := by
  obtain ⟨a0, a1, a3, a4, a5, a6, a7, a8, a9⟩ := h
  have b12 : (0 ≤ fa 1 ∧ fa 1 ≤ 9) ∧ (0 ≤ fa 2 ∧ fa 2 ≤ 9) := by
    by_cases q : 0 < nb
    · obtain ⟨⟨x1, x2, _⟩, ⟨y1, y2, _⟩⟩ := a1.2 q
      omega
    · have x := a1.1 (by omega)
      omega
  have b3 : 0 ≤ fa 3 ∧ fa 3 ≤ 6 := ⟨a3.1, by have := a3.2.2.1; omega⟩
  have b4 := abN_bd K g nb.toNat
  have b5 := (twN_s g nb.toNat).1
  intro j j0 j1
  rcases (show j = 0 ∨ j = 1 ∨ j = 2 ∨ j = 3 ∨ j = 4 ∨ j = 5 ∨ j = 6 ∨ j = 7 ∨ j = 8 ∨ j = 9 by omega) with z | z | z | z | z | z | z | z | z | z <;> rw [z]
  · exact ⟨by omega, by omega⟩
  · exact ⟨by omega, by omega⟩
  · exact ⟨by omega, by omega⟩
  · exact ⟨by omega, by omega⟩
  · exact ⟨by omega, by omega⟩
  · exact ⟨by omega, by omega⟩
  · rw [a6]; exact r1
  · rw [a7]; exact r2
  · rw [a8]; exact r3
  · rw [a9]; exact r4
noncomputable def hdF (fa op ar fr to : Int → Int) (l : Int) : Int := if fr l = to l then 1 else (evL fa op ar (fr l) (to l - fr l).toNat).getD 0 0
noncomputable def vdF (hd wd : Int → Int) (n : Int) : Nat → Int
  | 0 => 1
  | m + 1 => if hd (n - (m + 1 : Nat)) = 1 then 1 - wd (n - (m + 1 : Nat)) else vdF hd wd n m
theorem vdF_s (hd wd : Int → Int) {n l : Int} (h : l < n) : vdF hd wd n (n - l).toNat = if hd l = 1 then 1 - wd l else vdF hd wd n (n - (l + 1)).toNat := by
  rw [show (n - l).toNat = (n - (l + 1)).toNat + 1 by omega]
  show (if hd (n - ((n - (l + 1)).toNat + 1 : Nat)) = 1 then 1 - wd (n - ((n - (l + 1)).toNat + 1 : Nat)) else _) = _
  rw [show n - (((n - (l + 1)).toNat + 1 : Nat) : Int) = l by omega]
set_option maxHeartbeats 4000000 in
theorem t_X1_allows {p now next na nb wo : Int} {f g od : Int → Int} {s : Sto} (hp : 0 ≤ p ∧ p < 20) (hA : NmR now na f) (hB : NmR next nb g) (hO : OdR (s 3 0) (s 3 2) od) (hN : NamingR (s 17 0) (s 17 1) (s 18) (s 19) (s 20) (s 93) (s 94) (s 95) (s 96) (s 97)) (r1 : rg (s 8 p)) (r2 : rg (s 9 p)) (r3 : rg (s 7 p)) (r4 : rg wo) : ClI LY 3 MX1_allows [.inr 52, .inr 3, .inl p, .inl now, .inl next, .inl wo] s (fun r s' => (∀ c : Nat, c ≠ 53 → c ≠ 54 → s' c = s c) ∧ (r = 0 ∨ r = 1) ∧ ∃ fa : Int → Int, FaR (s 3 0) od f g na nb (s 8 p) (s 9 p) (s 7 p) wo fa ∧ r = vdF (hdF fa (s 96) (s 97) (s 94) (s 95)) (s 93) (s 17 0) (s 17 0).toNat) := by
  refine ClI.introZ (by decide) rfl (Nat.le_of_ble_eq_true rfl) (fun X C r => ?_)
  obtain ⟨N1, N2, N3, N4, N5⟩ := hN
  refine kb_X1_allows_0 C r ⟨2, _, by decide, t_X1_gatherFacts hB hO, ?_⟩
  rintro u ⟨u1, u2, u3, u4, u5⟩
  refine ⟨2, _, by decide, t_X1_lettersInCommon hA hB, ?_⟩
  rintro cm t ⟨ht, hcm⟩
  rw [ht]
  rintro v1 rfl
  refine ⟨hp, ?_⟩
  rintro v2 rfl
  refine ⟨hp, ?_⟩
  rintro v3 rfl
  refine ⟨hp, ?_⟩
  rintro v4 rfl v5 hv5
  have e : ∀ c : Nat, c ≠ 53 → v5 c = s c := fun c c1 => by rw [hv5, up_row c1, up_row c1, up_row c1, up_row c1, up_row c1, u1 c c1]
  have fa : FaR (s 3 0) od f g na nb (s 8 p) (s 9 p) (s 7 p) wo (v5 53) := by
    rw [hv5]
    unfold FaR
    simp (disch := decide) only [up_idx, up_at, up_row]
    rw [u1 8 (by decide), u1 9 (by decide), u1 7 (by decide)]
    exact ⟨u2, u3, hcm, u4, u5, rfl, rfl, rfl, trivial⟩
  have rf := fa.rgs hO.1 hB.1 r1 r2 r3 r4
  clear hv5 ht
  generalize hR : vdF (hdF (v5 53) (s 96) (s 97) (s 94) (s 95)) (s 93) (s 17 0) (s 17 0).toNat = R
  suffices H : ∀ (S : Sto) (y : Int), (∀ c : Nat, c ≠ 54 → S c = v5 c) → y = (if (0 : Int) = 0 then 0 else s 95 (0 - 1)) → vdF (hdF (v5 53) (s 96) (s 97) (s 94) (s 95)) (s 93) (s 17 0) (s 17 0 - 0).toNat = R → G LY X 82 [rv 52, rv 3, iv p, iv now, iv next, iv wo, iv y, iv 0, none] [] S from H v5 0 (fun _ _ => rfl) rfl (by rw [Int.sub_zero]; exact hR)
  refine downI (P := fun l => ∀ (S : Sto) (y : Int), (∀ c : Nat, c ≠ 54 → S c = v5 c) → y = (if l = 0 then 0 else s 95 (l - 1)) → vdF (hdF (v5 53) (s 96) (s 97) (s 94) (s 95)) (s 93) (s 17 0) (s 17 0 - l).toNat = R → G LY X 82 [rv 52, rv 3, iv p, iv now, iv next, iv wo, iv y, iv l, none] [] S) (a := 0) (b := s 17 0) N1.1 ?_ ?_
  · intro S y hS hy hv
    have eS : ∀ c : Nat, c ≠ 53 → c ≠ 54 → S c = s c := fun c c1 c2 => by rw [hS c c2, e c c1]
    refine kb_X1_allows_82 C r ⟨by rw [eS 17 (by decide) (by decide)]; exact ⟨⟨by omega, by omega⟩, ⟨by omega, by omega⟩⟩, fun _ => ⟨eS, Or.inr rfl, v5 53, fa, ?_⟩, fun z => absurd z (by rw [eS 17 (by decide) (by decide)]; omega)⟩
    rw [hR, ← hv, Int.sub_self]
    rfl
  · intro l l0 l1 ih S y hS hy hv
    have eS : ∀ c : Nat, c ≠ 53 → c ≠ 54 → S c = s c := fun c c1 c2 => by rw [hS c c2, e c c1]
    obtain ⟨g1, g2, g3, g4, g5, g6, g7⟩ := N5 l l0 l1
    rw [← g3] at hy
    rw [vdF_s _ _ l1] at hv
    have yes : ∀ S : Sto, (∀ c : Nat, c ≠ 53 → c ≠ 54 → S c = s c) → hdF (v5 53) (s 96) (s 97) (s 94) (s 95) l = 1 → (0 ≤ l ∧ l < 16) ∧ rg (S 18 l) ∧ (S 18 l ≠ 10000 → ((∀ c : Nat, c ≠ 53 → c ≠ 54 → S c = s c) ∧ ((0 : Int) = 0 ∨ (0 : Int) = 1) ∧ ∃ fa : Int → Int, FaR (s 3 0) od f g na nb (s 8 p) (s 9 p) (s 7 p) wo fa ∧ 0 = vdF (hdF fa (s 96) (s 97) (s 94) (s 95)) (s 93) (s 17 0) (s 17 0).toNat)) ∧ (S 18 l = 10000 → ((∀ c : Nat, c ≠ 53 → c ≠ 54 → S c = s c) ∧ ((1 : Int) = 0 ∨ (1 : Int) = 1) ∧ ∃ fa : Int → Int, FaR (s 3 0) od f g na nb (s 8 p) (s 9 p) (s 7 p) wo fa ∧ 1 = vdF (hdF fa (s 96) (s 97) (s 94) (s 95)) (s 93) (s 17 0) (s 17 0).toNat)) := by
      intro S hS hh
      rw [if_pos hh] at hv
      rw [hS 18 (by decide) (by decide)]
      refine ⟨⟨by omega, by omega⟩, ⟨by omega, by omega⟩, fun z => ⟨hS, Or.inl rfl, v5 53, fa, by rw [hR, ← hv]; omega⟩, fun z => ⟨hS, Or.inr rfl, v5 53, fa, by rw [hR, ← hv]; omega⟩⟩
    refine kb_X1_allows_82 C r ⟨by rw [eS 17 (by decide) (by decide)]; exact ⟨⟨by omega, by omega⟩, ⟨by omega, by omega⟩⟩, fun z => absurd z (by rw [eS 17 (by decide) (by decide)]; omega), fun _ => ⟨⟨by omega, by omega⟩, ?_⟩⟩
    rw [eS 19 (by decide) (by decide), g2]
    refine ⟨⟨⟨by omega, by omega⟩, ⟨by omega, by omega⟩⟩, fun z => yes S eS (by unfold hdF; rw [if_pos (by omega)]), fun z => ⟨1, _, by decide, t_X1_holds (op := s 96) (ar := s 97) (by omega) (fun i i0 i1 => by rw [eS 20 (by decide) (by decide)]; exact N3 i (by omega) (by omega)) (by rw [hy]; exact g7 (by omega)) (fun j j0 j1 => by rw [hS 53 (by decide)]; exact rf j j0 j1), ?_⟩⟩
    rintro h t ⟨k1, k2, k3⟩
    have et : ∀ c : Nat, c ≠ 54 → t c = v5 c := fun c c1 => by rw [k1 c c1, hS c c1]
    have eT : ∀ c : Nat, c ≠ 53 → c ≠ 54 → t c = s c := fun c c1 c2 => by rw [et c c2, e c c1]
    rw [hS 53 (by decide), hy] at k3
    have hh : hdF (v5 53) (s 96) (s 97) (s 94) (s 95) l = h := by
      unfold hdF
      rw [if_neg (by omega), k3]
      rfl
    refine ⟨⟨by omega, by omega⟩, fun w => ih t _ et ?_ ?_, fun w => yes t eT (by omega)⟩
    · rw [if_neg (by omega), show l + 1 - 1 = l by omega]
    · rw [if_neg (by omega)] at hv
      exact hv
