set_option maxHeartbeats 8000000 in
theorem t_wedM {u s : Sto} {od : Int → Int} (hh : LM u s od) {n : Int} (hn : s 75 4 = n) (hs : ∀ x : Int, 0 ≤ x → x < n → s 78 x = 0 ∨ s 78 x = 1) : ClV LY 5 MX12_weds [.inr 75] s (fun s' => (∀ c : Nat, ¬ (99 ≤ c ∧ c ≤ 117) → s' c = begS s c) ∧ (∀ p : Int, 0 ≤ p → p < n → s' 103 p = wvF s od p) ∧ ∀ p : Int, 0 ≤ p → p < n → PT (s 78) (wvF s od) n p (s' 108 p)) := by
  have n1 := hh.1.nms.1
  rw [hn] at n1
  have b0 : ∀ p : Int, 0 ≤ p → p < n → -594 ≤ wvF s od p ∧ wvF s od p ≤ 594 := fun p p0 p1 => hh.1.wvb ⟨p0, by omega⟩
  refine ClV.intro (by decide) rfl (Nat.le_of_ble_eq_true rfl) (fun X C r => ?_)
  refine kb_X12_weds_0 C r ⟨4, _, by decide, t_fwM hh (o := 0) (oo := u 3 2) (oq := od) (by decide) hh.2.1.2 hh.1.2.1, ?_⟩
  rw [hn]
  rintro a ⟨a1, a2, _⟩
  have ea : ∀ c : Nat, ¬ (99 ≤ c ∧ c ≤ 117) → a c = begS s c := fun c hc => a1 c (by omega) (by omega) (by omega)
  have a75 : a 75 4 = n := by rw [ea 75 (by decide), begS_75 (by decide), hn]
  have a78 : a 78 = s 78 := by rw [ea 78 (by decide), begS_row (by decide) (by decide)]
  have hWa : ∀ p : Int, 0 ≤ p → p < n → -594 ≤ a 103 p ∧ a 103 p ≤ 594 := fun p p0 p1 => by rw [a2 p p0 p1]; exact b0 p p0 p1
  have hsa : ∀ x : Int, 0 ≤ x → x < n → a 78 x = 0 ∨ a 78 x = 1 := by rw [a78]; exact hs
  have rn : rg n := ⟨by omega, by omega⟩
  -- ranks by the row of WORTHS
  have am_e : ∀ x y : Int, 0 ≤ x → x < n → 0 ≤ y → y < n → (amR (a 103) x y ↔ amR (wvF s od) x y) := fun x y x0 x1 y0 y1 => by rw [amR_iff, amR_iff, a2 x x0 x1, a2 y y0 y1]
  have rk_e : ∀ p : Int, 0 ≤ p → p < n → rkS (a 78) (a 103) n p = rkS (s 78) (wvF s od) n p := fun p p0 p1 => by
    unfold rkS
    rw [a78]
    exact cntI_congr _ (fun q q0 q1 => by rw [am_e q p q0 (by omega) p0 p1])
  -- the end
  have fin : ∀ S : Sto, (∀ c : Nat, c ≠ 108 → c ≠ 109 → S c = a c) → WI (a 78) (a 103) n (S 108) (S 109) → (∀ m : Int, 0 ≤ m → m < n → a 78 m = 0 → S 108 m = -1 → ∀ f : Int, 0 ≤ f → f < n → a 78 f = 1 → rkS (a 78) (a 103) n f ≠ S 109 m) → G LY X 37 [rv 75, iv 0, none, none, none] [] S := by
    intro S k1 k2 k3
    refine kb_X12_weds_37 C r ⟨by decide, fun _ => ⟨fun c hc => by rw [k1 c (by omega) (by omega), ea c hc], fun p p0 p1 => by rw [k1 103 (by decide) (by decide), a2 p p0 p1], fun p p0 p1 => ?_⟩, fun z => absurd rfl z⟩
    have pt := k2.fin n1.2 hsa hWa k3 p p0 p1
    unfold PT at pt ⊢
    rw [rk_e p p0 p1, a78] at pt
    rcases pt with ⟨c1, c2⟩ | ⟨c1, c2, c3⟩
    · exact Or.inl ⟨c1, fun x x0 x1 xs => by rw [← rk_e x x0 x1, a78]; exact c2 x x0 x1 xs⟩
    · have c4 := rk_e _ c1.1 c1.2
      rw [a78] at c4
      exact Or.inr ⟨c1, c2, by rw [← c4]; exact c3⟩
  -- round by round
  have loop : ∀ (k : Nat) (S : Sto), (∀ c : Nat, c ≠ 108 → c ≠ 109 → S c = a c) → WI (a 78) (a 103) n (S 108) (S 109) → 400 - sumF (S 109) n.toNat < k → G LY X 37 [rv 75, iv 1, none, none, none] [] S := by
    intro k
    induction k with
    | zero =>
      intro S k1 k2 k3
      have := sumF_bd (g := S 109) (M := 20) n.toNat (fun q q0 q1 => by have := k2.2.2.2.2 q q0 (by omega); omega)
      omega
    | succ k ihk =>
      intro S k1 k2 k3
      refine kb_X12_weds_37 C r ⟨by decide, fun z => absurd z (by decide), fun _ => ?_⟩
      have pass : ∀ (T : Sto) (fl : Int), (∀ c : Nat, c ≠ 108 → c ≠ 109 → T c = a c) → WI (a 78) (a 103) n (T 108) (T 109) → ((fl = 0 ∧ T = S ∧ ∀ m : Int, 0 ≤ m → m < 0 → a 78 m = 0 → T 108 m = -1 → ∀ f : Int, 0 ≤ f → f < n → a 78 f = 1 → rkS (a 78) (a 103) n f ≠ T 109 m) ∨ (fl = 1 ∧ sumF (S 109) n.toNat < sumF (T 109) n.toNat)) → G LY X 45 [rv 75, iv fl, iv 0, none, none] [] T := by
        refine downI (P := fun p => ∀ (T : Sto) (fl : Int), (∀ c : Nat, c ≠ 108 → c ≠ 109 → T c = a c) → WI (a 78) (a 103) n (T 108) (T 109) → ((fl = 0 ∧ T = S ∧ ∀ m : Int, 0 ≤ m → m < p → a 78 m = 0 → T 108 m = -1 → ∀ f : Int, 0 ≤ f → f < n → a 78 f = 1 → rkS (a 78) (a 103) n f ≠ T 109 m) ∨ (fl = 1 ∧ sumF (S 109) n.toNat < sumF (T 109) n.toNat)) → G LY X 45 [rv 75, iv fl, iv p, none, none] [] T) (a := 0) (b := n) n1.1 ?_ ?_
        · intro T fl t1 t2 t3
          refine kb_X12_weds_45 C r ?_
          rw [t1 75 (by decide) (by decide), a75]
          refine ⟨⟨rn, rn⟩, fun _ => ?_, fun z => absurd z (by omega)⟩
          rcases t3 with ⟨rfl, _, t4⟩ | ⟨rfl, t4⟩
          · exact fin T t1 t2 t4
          · exact ihk T t1 t2 (by omega)
        · intro p p0 p1 ih T fl t1 t2 t3
          have fl01 : fl = 0 ∨ fl = 1 := by
            rcases t3 with t3 | t3
            · exact Or.inl t3.1
            · exact Or.inr t3.1
          have T75 : T 75 4 = n := by rw [t1 75 (by decide) (by decide), a75]
          have T78 : T 78 = a 78 := t1 78 (by decide) (by decide)
          have T103 : T 103 = a 103 := t1 103 (by decide) (by decide)
          have sp := hsa p p0 p1
          have skip : (a 78 p = 0 → T 108 p = -1 → ∀ f : Int, 0 ≤ f → f < n → a 78 f = 1 → rkS (a 78) (a 103) n f ≠ T 109 p) → G LY X 45 [rv 75, iv fl, iv (p + 1), none, none] [] T := fun g => by
            refine ih T fl t1 t2 ?_
            rcases t3 with ⟨c1, c2, c3⟩ | t3
            · refine Or.inl ⟨c1, c2, fun m m0 m1 ms mu => ?_⟩
              by_cases e : m = p
              · rw [e] at ms mu ⊢; exact g ms mu
              · exact c3 m m0 (by omega) ms mu
            · exact Or.inr t3
          have bp := t2.2.2.2.2 p p0 p1
          refine kb_X12_weds_45 C r ?_
          rw [T75, T78]
          refine ⟨⟨⟨by omega, by omega⟩, rn⟩, fun z => absurd z (by omega), fun _ => ⟨⟨by omega, by omega⟩, ⟨by omega, by omega⟩, fun z => skip (fun q => absurd q z), fun z => ⟨⟨by omega, by omega⟩, ?_, fun z2 => ⟨⟨by omega, by omega⟩, 1, _, by decide, t_X12_suitorAsks (k := T 109 p) T75 n1 ⟨by omega, by omega⟩ (by rw [T78]; exact hsa) (by rw [T103]; exact hWa), ?_⟩, fun z2 => skip (fun _ q => absurd q z2)⟩⟩⟩
          · rcases t2.1 p p0 p1 z with g | ⟨g, _⟩
            · rw [g]; decide
            · exact ⟨by omega, by omega⟩
          · rw [T78, T103]
            rintro q y ⟨hy, hq⟩
            rw [hy]
            rcases hq with ⟨q1, q2⟩ | ⟨q1, q2, q3⟩
            · rw [q1]
              exact ⟨by decide, fun w => absurd rfl w, fun _ => skip (fun _ _ => q2)⟩
            · refine ⟨⟨by omega, by omega⟩, fun _ => ⟨⟨by omega, by omega⟩, ⟨by omega, by omega⟩, ?_⟩, fun w => absurd w (by omega)⟩
              rintro T2 hT2
              have T2_9 : ∀ x : Int, T2 109 x = if x = p then T 109 p + 1 else T 109 x := fun x => by rw [hT2, up_if]
              have T2_8 : T2 108 = T 108 := by rw [hT2, up_row (by decide)]
              have T2c : ∀ c : Nat, c ≠ 109 → T2 c = T c := fun c hc => by rw [hT2, up_row hc]
              have sm := sumF_up (g := T 109) (g' := T2 109) p0 T2_9 n.toNat (by omega)
              have more : sumF (S 109) n.toNat < sumF (T2 109) n.toNat := by
                rcases t3 with ⟨_, c2, _⟩ | t3
                · rw [← c2]; omega
                · omega
              have qp : q ≠ p := fun e => by rw [e, z] at q2; omega
              -- accepted
              have acc : ∀ F : Sto, (∀ c : Nat, c ≠ 108 → F c = T2 c) → (∀ x : Int, F 108 x = if x = p then q else if x = q then p else if T 108 q ≠ -1 ∧ x = T 108 q then -1 else T 108 x) → (T 108 q = -1 ∨ amR (a 103) p (T 108 q)) → G LY X 45 [rv 75, iv 1, iv (p + 1), none, none] [] F := by
                intro F f1 f2 f3
                have F9 : F 109 = T2 109 := f1 109 (by decide)
                refine ih F 1 (fun c c1 c2 => by rw [f1 c c1, T2c c c2, t1 c c1 c2]) ?_ (Or.inr ⟨rfl, by rw [F9]; exact more⟩)
                rw [F9]
                exact t2.accept hsa ⟨p0, p1⟩ z z2 q1 q2 q3 f3 f2 T2_9
              rw [T2_8]
              have bq := t2.2.1 q q1.1 q1.2 q2
              have rq : rg (T 108 q) := by
                rcases bq with g | ⟨g, _⟩
                · rw [g]; decide
                · exact ⟨by omega, by omega⟩
              refine ⟨⟨by omega, by omega⟩, rq, fun w => ⟨rq, fun _ => ⟨⟨by omega, by omega⟩, ?_⟩, fun w2 => absurd w w2⟩, fun w => ?_⟩
              · rintro F1 hF1
                refine ⟨⟨by omega, by omega⟩, ?_⟩
                rintro F hF
                refine acc F (fun c hc => by rw [hF, up_row hc, hF1, up_row hc]) (fun x => ?_) (Or.inl w)
                rw [hF, up_if, hF1, up_if, T2_8]
                have nw : ¬ (T 108 q ≠ -1 ∧ x = T 108 q) := fun g => g.1 w
                rw [if_neg nw]
              · have wb : (0 ≤ T 108 q ∧ T 108 q < n) ∧ a 78 (T 108 q) = 0 ∧ T 108 (T 108 q) = q := by
                  rcases bq with g | g
                  · exact absurd g w
                  · exact g
                have wp : T 108 q ≠ p := fun e => by rw [e, z2] at wb; omega
                have h1 := hWa (T 108 q) wb.1.1 wb.1.2
                have h2 := hWa p p0 p1
                have T2_103 : T2 103 = a 103 := by rw [T2c 103 (by decide), T103]
                refine ⟨0, _, by decide, t_X12_isBetter (s := T2) (a := T 108 q) (b := p) (by omega) (by omega) (by rw [T2_103]; exact ⟨by omega, by omega⟩) (by rw [T2_103]; exact ⟨by omega, by omega⟩), ?_⟩
                rw [T2_103]
                rintro x y' ⟨hy', hx⟩
                rw [hy']
                have bb := oneIf_bd (amR (a 103) (T 108 q) p)
                refine ⟨⟨by omega, by omega⟩, fun v => ⟨rq, fun v2 => absurd v2 w, fun _ => ⟨⟨by omega, by omega⟩, ?_⟩⟩, fun v => ?_⟩
                · rintro F0 hF0
                  refine ⟨⟨by omega, by omega⟩, ?_⟩
                  rintro F1 hF1
                  refine ⟨⟨by omega, by omega⟩, ?_⟩
                  rintro F hF
                  refine acc F (fun c hc => by rw [hF, up_row hc, hF1, up_row hc, hF0, up_row hc]) (fun x => ?_) (Or.inr (amR_tot wp (oneIf_0.mp (by omega))))
                  rw [hF, up_if, hF1, up_if, hF0, up_if, T2_8]
                  by_cases e1 : x = p
                  · rw [if_pos e1, if_pos e1]
                  · rw [if_neg e1, if_neg e1]
                    by_cases e2 : x = q
                    · rw [if_pos e2, if_pos e2]
                    · rw [if_neg e2, if_neg e2]
                      by_cases e3 : x = T 108 q
                      · rw [if_pos e3, if_pos ⟨w, e3⟩]
                      · rw [if_neg e3, if_neg (fun g => e3 g.2)]
                · refine ih T2 1 (fun c c1 c2 => by rw [T2c c c2, t1 c c1 c2]) ?_ (Or.inr ⟨rfl, more⟩)
                  rw [T2_8]
                  exact t2.reject ⟨p0, p1⟩ z z2 q1 q2 q3 ⟨w, oneIf_1.mp (by omega)⟩ T2_9
      exact pass S 0 k1 k2 (Or.inl ⟨rfl, rfl, fun m m0 m1 => absurd m1 (by omega)⟩)
  -- nobody has asked
  have init : ∀ S : Sto, (∀ c : Nat, c ≠ 108 → c ≠ 109 → S c = a c) → (∀ x : Int, 0 ≤ x → x < 0 → S 108 x = -1 ∧ S 109 x = 0) → G LY X 7 [rv 75, iv 0, none, none, none] [] S := by
    refine downI (P := fun p => ∀ S : Sto, (∀ c : Nat, c ≠ 108 → c ≠ 109 → S c = a c) → (∀ x : Int, 0 ≤ x → x < p → S 108 x = -1 ∧ S 109 x = 0) → G LY X 7 [rv 75, iv p, none, none, none] [] S) (a := 0) (b := n) n1.1 ?_ ?_
    · intro S k1 k2
      refine kb_X12_weds_7 C r ?_
      rw [k1 75 (by decide) (by decide), a75]
      refine ⟨⟨rn, rn⟩, fun _ => ?_, fun z => absurd z (by omega)⟩
      refine loop (400 - sumF (S 109) n.toNat + 1).toNat S k1 ⟨fun m m0 m1 _ => Or.inl (k2 m m0 m1).1, fun f f0 f1 _ => Or.inl (k2 f f0 f1).1, fun m m0 m1 _ f f0 f1 _ fr => ?_, fun m m0 m1 _ => ⟨0, fun g => ?_⟩, fun x x0 x1 => by rw [(k2 x x0 x1).2]; omega⟩ (by omega)
      · have := rkS_bd (a 78) (a 103) (n := n) (p := f) ⟨f0, f1⟩
        rw [(k2 m m0 m1).2] at fr
        omega
      · rw [(k2 m m0 m1).2] at g
        omega
    · intro p p0 p1 ih S k1 k2
      refine kb_X12_weds_7 C r ?_
      rw [k1 75 (by decide) (by decide), a75]
      refine ⟨⟨⟨by omega, by omega⟩, rn⟩, fun z => absurd z (by omega), fun _ => ⟨⟨by omega, by omega⟩, ?_⟩⟩
      rintro S1 hS1
      refine ⟨⟨by omega, by omega⟩, ?_⟩
      rintro S2 hS2
      refine ih S2 (fun c c1 c2 => by rw [hS2, up_row c2, hS1, up_row c1, k1 c c1 c2]) (fun x x0 x1 => ?_)
      rw [hS2, up_row (by decide), up_if, hS1, up_if, up_row (by decide)]
      by_cases e : x = p
      · rw [if_pos e, if_pos e]; exact ⟨rfl, rfl⟩
      · rw [if_neg e, if_neg e]; exact k2 x x0 (by omega)
  exact init a (fun _ _ _ => rfl) (fun x x0 x1 => absurd x1 (by omega))
