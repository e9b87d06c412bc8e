/-! WEDDINGS: ranks among one's own, and who comes to whom by asking -/
theorem amR_asym {W : Int → Int} {p q : Int} (h : amR W p q) : ¬ amR W q p := fun h2 => by
  have a := amR_iff.mp h
  have b := amR_iff.mp h2
  omega
theorem amR_trans {W : Int → Int} {p q t : Int} (h : amR W p q) (h2 : amR W q t) : amR W p t := by
  have a := amR_iff.mp h
  have b := amR_iff.mp h2
  exact amR_iff.mpr (by omega)
theorem amR_tot {W : Int → Int} {p q : Int} (h : p ≠ q) (n : ¬ amR W p q) : amR W q p := by
  have a : ¬ (W q < W p ∨ (W p = W q ∧ p < q)) := fun z => n (amR_iff.mpr z)
  exact amR_iff.mpr (by omega)
noncomputable def rkS (sx W : Int → Int) (n p : Int) : Int := cntI (fun q => sx q = sx p ∧ amR W q p) n.toNat
theorem rkS_bd (sx W : Int → Int) {n p : Int} (hp : 0 ≤ p ∧ p < n) : 0 ≤ rkS sx W n p ∧ rkS sx W n p < n := by
  have b := cntI_bd (fun q => sx q = sx p ∧ amR W q p) n.toNat
  have c := cntI_lt (fun q => sx q = sx p ∧ amR W q p) hp.1 (fun z => amR_asym z.2 z.2) n.toNat (by omega)
  unfold rkS
  omega
theorem rk_lt {sx W : Int → Int} {n p q : Int} (hq : 0 ≤ q ∧ q < n) (hs : sx q = sx p) (h : amR W q p) : rkS sx W n q < rkS sx W n p := by
  have := cntI_more (f := fun x => sx x = sx q ∧ amR W x q) (g := fun x => sx x = sx p ∧ amR W x p) hq.1 ⟨hs, h⟩ (fun z => amR_asym z.2 z.2) n.toNat (by omega) (fun x _ _ z => ⟨z.1.trans hs, amR_trans z.2 h⟩)
  unfold rkS
  omega
theorem rk_inj {sx W : Int → Int} {n p q : Int} (hp : 0 ≤ p ∧ p < n) (hq : 0 ≤ q ∧ q < n) (hs : sx q = sx p) (h : rkS sx W n q = rkS sx W n p) : q = p := by
  by_cases e : q = p
  · exact e
  · by_cases z : amR W q p
    · have := rk_lt (sx := sx) (n := n) hq hs z; omega
    · have := rk_lt (sx := sx) (n := n) hp hs.symm (amR_tot e z); omega
theorem rk_contig {sx W : Int → Int} {n x i : Int} (hn : n ≤ 20) (hW : ∀ p : Int, 0 ≤ p → p < n → -594 ≤ W p ∧ W p ≤ 594) (hx : 0 ≤ x ∧ x < n) (h0 : 0 ≤ i) (h1 : i < rkS sx W n x) : ∃ y : Int, (0 ≤ y ∧ y < n) ∧ sx y = sx x ∧ rkS sx W n y = i := by
  have rb := rkS_bd sx W hx
  obtain ⟨mr, hmr⟩ : ∃ mr : Int → Int, ∀ y : Int, mr y = W y - (if sx y = sx x then 0 else 2000) := ⟨_, fun _ => rfl⟩
  have yb := (omF_row (mr := mr) (K := n) (by omega)).bd (i := i) h0 (by omega)
  have yc := omF_cnt (mr := mr) (K := n) (i := i) (by omega) h0 (by omega)
  generalize hy : omF mr n i = y at *
  have yb' : 0 ≤ y ∧ y < n := by omega
  by_cases q : sx y = sx x
  · refine ⟨y, yb', q, ?_⟩
    rw [yc]
    unfold rkS
    refine cntI_congr _ (fun z z0 z1 => ?_)
    have w1 := hW z z0 (by omega)
    have w2 := hW y yb'.1 yb'.2
    have e1 := hmr z
    have e2 := hmr y
    rw [if_pos q] at e2
    rw [amR_iff, amR_iff]
    by_cases s : sx z = sx x
    · rw [if_pos s] at e1
      refine ⟨fun g => ⟨fun e => by have := g.2; rw [e] at this; omega, by omega⟩, fun g => ⟨s.trans q.symm, by omega⟩⟩
    · rw [if_neg s] at e1
      refine ⟨fun g => absurd (g.1.trans q) s, fun g => ?_⟩
      have := g.2
      omega
  · exfalso
    have := cntI_more (f := fun z => sx z = sx x ∧ amR W z x) (g := fun z => z ≠ y ∧ amR mr z y) hx.1 ⟨fun e => q (by rw [← e]), by
      have w1 := hW x hx.1 hx.2
      have w2 := hW y yb'.1 yb'.2
      have e1 := hmr x
      have e2 := hmr y
      rw [if_pos rfl] at e1
      rw [if_neg q] at e2
      exact amR_iff.mpr (by omega)⟩ (fun z => amR_asym z.2 z.2) n.toNat (by omega) (fun z z0 z1 g => ⟨fun e => q (by rw [← e]; exact g.1), by
      have w1 := hW z z0 (by omega)
      have w2 := hW y yb'.1 yb'.2
      have e1 := hmr z
      have e2 := hmr y
      rw [if_pos g.1] at e1
      rw [if_neg q] at e2
      exact amR_iff.mpr (by omega)⟩)
    unfold rkS at h1
    omega
/-- who weds whom: those of the same rank -/
def PT (sx W : Int → Int) (n p q : Int) : Prop := (q = -1 ∧ ∀ x : Int, 0 ≤ x → x < n → sx x ≠ sx p → rkS sx W n x ≠ rkS sx W n p) ∨ ((0 ≤ q ∧ q < n) ∧ sx q ≠ sx p ∧ rkS sx W n q = rkS sx W n p)
theorem PT.uniq {sx W : Int → Int} {n p q q' : Int} (hs : ∀ x : Int, 0 ≤ x → x < n → sx x = 0 ∨ sx x = 1) (hp : 0 ≤ p ∧ p < n) (h : PT sx W n p q) (h' : PT sx W n p q') : q = q' := by
  rcases h with ⟨a1, a2⟩ | ⟨a1, a2, a3⟩
  · rcases h' with ⟨b1, b2⟩ | ⟨b1, b2, b3⟩
    · omega
    · exact absurd b3 (a2 q' b1.1 b1.2 b2)
  · rcases h' with ⟨b1, b2⟩ | ⟨b1, b2, b3⟩
    · exact absurd a3 (b2 q a1.1 a1.2 a2)
    · have s1 := hs q a1.1 a1.2
      have s2 := hs q' b1.1 b1.2
      have s3 := hs p hp.1 hp.2
      exact rk_inj (sx := sx) (W := W) b1 a1 (by omega) (by rw [a3, b3])
/-- while they ask -/
def WI (sx W : Int → Int) (n : Int) (mt au : Int → Int) : Prop :=
  (∀ m : Int, 0 ≤ m → m < n → sx m = 0 → mt m = -1 ∨ ((0 ≤ mt m ∧ mt m < n) ∧ sx (mt m) = 1 ∧ mt (mt m) = m ∧ rkS sx W n (mt m) + 1 = au m)) ∧
  (∀ f : Int, 0 ≤ f → f < n → sx f = 1 → mt f = -1 ∨ ((0 ≤ mt f ∧ mt f < n) ∧ sx (mt f) = 0 ∧ mt (mt f) = f)) ∧
  (∀ m : Int, 0 ≤ m → m < n → sx m = 0 → ∀ f : Int, 0 ≤ f → f < n → sx f = 1 → rkS sx W n f < au m → mt f ≠ -1 ∧ (mt f = m ∨ amR W (mt f) m)) ∧
  (∀ m : Int, 0 ≤ m → m < n → sx m = 0 → ∃ f : Int, 0 < au m → (0 ≤ f ∧ f < n) ∧ sx f = 1 ∧ rkS sx W n f = au m - 1) ∧
  ∀ x : Int, 0 ≤ x → x < n → 0 ≤ au x ∧ au x ≤ n
theorem WI.l1 {sx W mt au : Int → Int} {n : Int} (hn : n ≤ 20) (hW : ∀ p : Int, 0 ≤ p → p < n → -594 ≤ W p ∧ W p ≤ 594) (h : WI sx W n mt au) : ∀ (k : Nat) (m : Int), 0 ≤ m → m < n → sx m = 0 → rkS sx W n m = k → (mt m = -1 → au m ≤ k) ∧ (mt m ≠ -1 → au m - 1 ≤ k) := by
  obtain ⟨hA, hB, hC, hD, hE⟩ := h
  intro k
  induction k using Nat.strongRecOn with
  | _ k ih =>
    intro m m0 m1 ms mk
    -- with j those who refused
    have key : ∀ j : Int, 0 < j → j ≤ au m → (mt m = -1 ∨ j < au m) → (∃ f : Int, (0 ≤ f ∧ f < n) ∧ sx f = 1 ∧ rkS sx W n f = j - 1) → j ≤ k := by
      rintro j j0 j1 j2 ⟨f, fb, fs, fr⟩
      obtain ⟨c1, c2⟩ := hC m m0 m1 ms f fb.1 fb.2 fs (by omega)
      have bf := hB f fb.1 fb.2 fs
      rcases bf with bf | ⟨bf1, bf2, bf3⟩
      · exact absurd bf c1
      · rcases c2 with c2 | c2
        · rw [c2] at bf3
          rcases hA m m0 m1 ms with a | ⟨a1, a2, a3, a4⟩
          · omega
          · rw [bf3] at a4
            omega
        · have lt := rk_lt (sx := sx) (n := n) bf1 (by rw [bf2, ms]) c2
          have rb := rkS_bd sx W bf1
          rcases hA (mt f) bf1.1 bf1.2 bf2 with a | ⟨a1, a2, a3, a4⟩
          · omega
          · rw [bf3] at a4
            have := (ih (rkS sx W n (mt f)).toNat (by omega) (mt f) bf1.1 bf1.2 bf2 (by omega)).2 (by omega)
            omega
    refine ⟨fun q => ?_, fun q => ?_⟩
    · by_cases z : 0 < au m
      · obtain ⟨f, hf⟩ := hD m m0 m1 ms
        exact key (au m) z (Int.le_refl _) (Or.inl q) ⟨f, hf z⟩
      · omega
    · by_cases z : 1 < au m
      · rcases hA m m0 m1 ms with a | ⟨a1, a2, a3, a4⟩
        · exact absurd a q
        · obtain ⟨y, y1, y2, y3⟩ := rk_contig (sx := sx) (W := W) (i := au m - 2) hn hW a1 (by omega) (by omega)
          exact key (au m - 1) (by omega) (by omega) (Or.inr (by omega)) ⟨y, y1, by rw [y2, a2], by omega⟩
      · omega
/-- when no one asks any more -/
theorem WI.fin {sx W mt au : Int → Int} {n : Int} (hn : n ≤ 20) (hs : ∀ x : Int, 0 ≤ x → x < n → sx x = 0 ∨ sx x = 1) (hW : ∀ p : Int, 0 ≤ p → p < n → -594 ≤ W p ∧ W p ≤ 594) (h : WI sx W n mt au) (hF : ∀ m : Int, 0 ≤ m → m < n → sx m = 0 → mt m = -1 → ∀ f : Int, 0 ≤ f → f < n → sx f = 1 → rkS sx W n f ≠ au m) : ∀ p : Int, 0 ≤ p → p < n → PT sx W n p (mt p) := by
  have l1 := h.l1 hn hW
  obtain ⟨hA, hB, hC, hD, hE⟩ := h
  have men : ∀ (k : Nat) (p : Int), 0 ≤ p → p < n → sx p = 0 → rkS sx W n p = k → PT sx W n p (mt p) := by
    intro k
    induction k using Nat.strongRecOn with
    | _ k ih =>
      intro p p0 p1 ps pk
      have lp := l1 k p p0 p1 ps pk
      -- if wedded, then not below one's rank
      have up' : mt p ≠ -1 → rkS sx W n (mt p) = k := by
        intro q
        rcases hA p p0 p1 ps with a | ⟨a1, a2, a3, a4⟩
        · exact absurd a q
        · have le := lp.2 q
          by_cases z : rkS sx W n (mt p) = k
          · exact z
          · exfalso
            have gb := rkS_bd sx W a1
            obtain ⟨y, y1, y2, y3⟩ := rk_contig (sx := sx) (W := W) (i := rkS sx W n (mt p)) hn hW ⟨p0, p1⟩ gb.1 (by omega)
            have py := ih (rkS sx W n (mt p)).toNat (by omega) y y1.1 y1.2 (by rw [y2, ps]) (by omega)
            rcases py with ⟨_, b2⟩ | ⟨b1, b2, b3⟩
            · exact b2 (mt p) a1.1 a1.2 (by rw [a2, y2, ps]; decide) y3.symm
            · have s1 := hs (mt y) b1.1 b1.2
              have eq := rk_inj (sx := sx) (W := W) (p := mt p) (q := mt y) a1 b1 (by rw [a2]; rw [y2, ps] at b2; omega) (by rw [b3, y3])
              rcases hA y y1.1 y1.2 (by rw [y2, ps]) with c | ⟨c1, c2, c3, c4⟩
              · omega
              · rw [eq, a3] at c3
                rw [← c3] at y3
                omega
      by_cases q : mt p = -1
      · refine Or.inl ⟨q, fun x x0 x1 xs e => ?_⟩
        have xs' : sx x = 1 := by
          have := hs x x0 x1
          rw [ps] at xs
          omega
        have le := lp.1 q
        have ae := hE p p0 p1
        by_cases z : au p = k
        · exact hF p p0 p1 ps q x x0 x1 xs' (by omega)
        · obtain ⟨y, y1, y2, y3⟩ := rk_contig (sx := sx) (W := W) (i := au p) hn hW ⟨x0, x1⟩ ae.1 (by omega)
          exact hF p p0 p1 ps q y y1.1 y1.2 (by rw [y2, xs']) y3
      · rcases hA p p0 p1 ps with a | ⟨a1, a2, a3, a4⟩
        · exact absurd a q
        · exact Or.inr ⟨a1, by rw [a2, ps]; decide, by rw [up' q, pk]⟩
  intro p p0 p1
  have rb := rkS_bd sx W (n := n) ⟨p0, p1⟩
  rcases hs p p0 p1 with ps | ps
  · exact men (rkS sx W n p).toNat p p0 p1 ps (by omega)
  · rcases hB p p0 p1 ps with b | ⟨b1, b2, b3⟩
    · refine Or.inl ⟨b, fun x x0 x1 xs e => ?_⟩
      have xs' : sx x = 0 := by
        have := hs x x0 x1
        rw [ps] at xs
        omega
      rcases men (rkS sx W n x).toNat x x0 x1 xs' (by omega) with ⟨_, c2⟩ | ⟨c1, c2, c3⟩
      · exact c2 p p0 p1 (by rw [ps, xs']; decide) e.symm
      · have s1 := hs (mt x) c1.1 c1.2
        have eq := rk_inj (sx := sx) (W := W) (p := p) (q := mt x) ⟨p0, p1⟩ c1 (by rw [ps]; rw [xs'] at c2; omega) (by rw [c3, e])
        rcases hA x x0 x1 xs' with d | ⟨d1, d2, d3, d4⟩
        · omega
        · rw [eq] at d3
          omega
    · refine Or.inr ⟨b1, by rw [b2, ps]; decide, ?_⟩
      have rm := rkS_bd sx W b1
      rcases men (rkS sx W n (mt p)).toNat (mt p) b1.1 b1.2 b2 (by omega) with ⟨c1, _⟩ | ⟨c1, c2, c3⟩
      · omega
      · rw [b3] at c3
        exact c3.symm
