/-! VOTES BOUGHT: the nearest ORDER cut around a LETTER -/
theorem nd_app : ∀ l l' : List Int, l.Nodup → l'.Nodup → (∀ x : Int, x ∈ l → x ∈ l' → False) → (l ++ l').Nodup
  | [], _, _, h, _ => h
  | x :: t, l', h1, h2, h3 => by
    have n := List.nodup_cons.mp h1
    show (x :: (t ++ l')).Nodup
    refine List.nodup_cons.mpr ⟨fun z => ?_, nd_app t l' n.2 h2 (fun y hy hy' => h3 y (List.mem_cons_of_mem _ hy) hy')⟩
    rcases List.mem_append.mp z with z | z
    · exact n.1 z
    · exact h3 x List.mem_cons_self z
theorem nd_split : ∀ l l' : List Int, (l ++ l').Nodup → l.Nodup ∧ l'.Nodup ∧ ∀ x : Int, x ∈ l → x ∈ l' → False
  | [], _, h => ⟨List.nodup_nil, h, fun x hx => absurd hx List.not_mem_nil⟩
  | x :: t, l', h => by
    have n := List.nodup_cons.mp (show (x :: (t ++ l')).Nodup from h)
    have ih := nd_split t l' n.2
    refine ⟨List.nodup_cons.mpr ⟨fun z => n.1 (List.mem_append_left _ z), ih.1⟩, ih.2.1, fun y hy hy' => ?_⟩
    rcases List.mem_cons.mp hy with e | e
    · rw [e] at hy'; exact n.1 (List.mem_append_right _ hy')
    · exact ih.2.2 y e hy'
/-- the set A cut into p and q -/
def Cut (A p q : Nat) : Prop := (∀ j : Nat, p.testBit j = true → A.testBit j = true) ∧ ∀ j : Nat, q.testBit j = true ↔ A.testBit j = true ∧ p.testBit j = false
theorem sub_bd {A p : Nat} {n : Nat} (hA : A < 2 ^ n) (h : ∀ j : Nat, p.testBit j = true → A.testBit j = true) : p < 2 ^ n := by
  refine Nat.lt_pow_two_of_testBit p (fun i hi => ?_)
  cases e : p.testBit i with
  | false => rfl
  | true =>
    have := h i e
    rw [bit_big hA hi] at this
    exact absurd this (by decide)
theorem Cut.bd {A p q n : Nat} (hA : A < 2 ^ n) (c : Cut A p q) : p < 2 ^ n ∧ q < 2 ^ n := ⟨sub_bd hA c.1, sub_bd hA (fun j hj => ((c.2 j).mp hj).1)⟩
theorem LtS.cut {A p q : Nat} {lp lq : List Int} (c : Cut A p q) (h1 : LtS p lp) (h2 : LtS q lq) : LtS A (lp ++ lq) := by
  refine ⟨nd_app _ _ h1.1 h2.1 (fun x hx hx' => ?_), fun x => ?_⟩
  · have a := ((h1.2 x).mp hx).2
    have b := ((c.2 _).mp ((h2.2 x).mp hx').2).2
    rw [a] at b
    exact absurd b (by decide)
  · rw [List.mem_append, h1.2, h2.2]
    constructor
    · rintro (⟨x0, x1⟩ | ⟨x0, x1⟩)
      · exact ⟨x0, c.1 _ x1⟩
      · exact ⟨x0, ((c.2 _).mp x1).1⟩
    · rintro ⟨x0, x1⟩
      cases e : p.testBit x.toNat with
      | true => exact Or.inl ⟨x0, rfl⟩
      | false => exact Or.inr ⟨x0, (c.2 _).mpr ⟨x1, e⟩⟩
theorem LtS.mid {M A : Nat} {a : Int} {lp lq : List Int} (a0 : 0 ≤ a) (am : M.testBit a.toNat = true) (hA : ∀ j : Nat, A.testBit j = true ↔ M.testBit j = true ∧ j ≠ a.toNat) (h : LtS A (lp ++ lq)) : LtS M (lp ++ a :: lq) := by
  obtain ⟨n1, n2, n3⟩ := nd_split _ _ h.1
  have na : a ∉ lp ++ lq := fun z => ((hA _).mp ((h.2 a).mp z).2).2 rfl
  refine ⟨nd_app _ _ n1 (List.nodup_cons.mpr ⟨fun z => na (List.mem_append_right _ z), n2⟩) (fun x hx hx' => ?_), fun x => ?_⟩
  · rcases List.mem_cons.mp hx' with e | e
    · rw [e] at hx; exact na (List.mem_append_left _ hx)
    · exact n3 x hx e
  · have g := h.2 x
    rw [List.mem_append] at g
    rw [List.mem_append, List.mem_cons]
    constructor
    · rintro (z | z | z)
      · have := g.mp (Or.inl z); exact ⟨this.1, ((hA _).mp this.2).1⟩
      · rw [z]; exact ⟨a0, am⟩
      · have := g.mp (Or.inr z); exact ⟨this.1, ((hA _).mp this.2).1⟩
    · rintro ⟨x0, x1⟩
      by_cases e : x = a
      · exact Or.inr (Or.inl e)
      · rcases g.mpr ⟨x0, (hA _).mpr ⟨x1, by omega⟩⟩ with z | z
        · exact Or.inl z
        · exact Or.inr (Or.inr z)
/-- what of the agreement hangs on the cut -/
def cutX (ov ov2 : Int → Int → Int) (K a : Int) (p q : Nat) : Int := sovF (fun _ x => sovF ov q x K.toNat) p 0 K.toNat + sovF (fun _ x => ov2 x a - ov2 a x) p 0 K.toNat
def cutT (ov ov2 : Int → Int → Int) (K a : Int) (p q : Nat) : Int := agA ov K p + agA ov K q + cutX ov ov2 K a p q
def cutO (ov : Int → Int → Int) (K a : Int) (p q : Nat) : Int := pq 8 (rwA ov K p) (pcF p 8) * 8 ^ (pcF q 8 + 1) + (a * 8 ^ (pcF q 8) + pq 8 (rwA ov K q) (pcF q 8))
theorem sol_add (f g : Int → Int) : ∀ l : List Int, sol (fun _ x => f x + g x) 0 l = sol (fun _ x => f x) 0 l + sol (fun _ x => g x) 0 l
  | [] => rfl
  | x :: t => by
    show f x + g x + sol (fun _ x => f x + g x) 0 t = f x + sol (fun _ x => f x) 0 t + (g x + sol (fun _ x => g x) 0 t)
    rw [sol_add f g t]; omega
theorem sol_dif (f g : Int → Int) : ∀ l : List Int, sol (fun _ x => f x - g x) 0 l = sol (fun _ x => f x) 0 l - sol (fun _ x => g x) 0 l
  | [] => rfl
  | x :: t => by
    show f x - g x + sol (fun _ x => f x - g x) 0 t = f x + sol (fun _ x => f x) 0 t - (g x + sol (fun _ x => g x) 0 t)
    rw [sol_dif f g t]; omega
theorem scl_cut {ov ov2 : Int → Int → Int} {K a : Int} {A p q : Nat} {lp lq la : List Int} (hK : 0 ≤ K ∧ K ≤ 8) (hA : A < 2 ^ K.toNat) (na : A.testBit a.toNat = false) (c : Cut A p q) (h1 : LtS p lp) (h2 : LtS q lq) (h3 : LtS A la) (e : ∀ x y : Int, 0 ≤ x → x < K → 0 ≤ y → y < K → x ≠ a → y ≠ a → ov2 x y = ov x y) : scl ov2 (lp ++ a :: lq) = scl ov lp + scl ov lq + cutX ov ov2 K a p q + sol ov2 a la := by
  have pb := c.bd hA
  have mp : ∀ x : Int, x ∈ lp → (0 ≤ x ∧ x < K) ∧ x ≠ a := fun x hx => by
    have g := (h1.2 x).mp hx
    have := bit_lt pb.1 g.2
    refine ⟨by omega, fun z => ?_⟩
    have w := c.1 _ g.2
    rw [z, na] at w
    exact absurd w (by decide)
  have mq : ∀ x : Int, x ∈ lq → (0 ≤ x ∧ x < K) ∧ x ≠ a := fun x hx => by
    have g := (h2.2 x).mp hx
    have := bit_lt pb.2 g.2
    refine ⟨by omega, fun z => ?_⟩
    have w := ((c.2 _).mp g.2).1
    rw [z, na] at w
    exact absurd w (by decide)
  rw [scl_app]
  have e1 : scl ov2 lp = scl ov lp := scl_congr lp (fun x y hx hy => e x y (mp x hx).1.1 (mp x hx).1.2 (mp y hy).1.1 (mp y hy).1.2 (mp x hx).2 (mp y hy).2)
  have e2 : scl ov2 lq = scl ov lq := scl_congr lq (fun x y hx hy => e x y (mq x hx).1.1 (mq x hx).1.2 (mq y hy).1.1 (mq y hy).1.2 (mq x hx).2 (mq y hy).2)
  have e3 : scl ov2 (a :: lq) = sol ov2 a lq + scl ov lq := by
    show sol ov2 a lq + scl ov2 lq = _
    rw [e2]
  have e4 : crs ov2 lp (a :: lq) = sol (fun _ x => ov2 x a) 0 lp + sovF (fun _ x => sovF ov q x K.toNat) p 0 K.toNat := by
    rw [crs_sol]
    show sol (fun _ x => ov2 x a + sol ov2 x lq) 0 lp = _
    rw [sol_add (fun x => ov2 x a) (fun x => sol ov2 x lq) lp]
    congr 1
    rw [← sol_sov hK lp p pb.1 h1]
    refine sol_congr lp (fun y hy => ?_)
    show sol ov2 y lq = sovF ov q y K.toNat
    rw [← sol_sov hK lq q pb.2 h2]
    exact sol_congr lq (fun z hz => e y z (mp y hy).1.1 (mp y hy).1.2 (mq z hz).1.1 (mq z hz).1.2 (mp y hy).2 (mq z hz).2)
  have e5 : sovF (fun _ x => ov2 x a - ov2 a x) p 0 K.toNat = sol (fun _ x => ov2 x a) 0 lp - sol ov2 a lp := by
    rw [← sol_sov hK lp p pb.1 h1, sol_dif (fun x => ov2 x a) (fun x => ov2 a x) lp]
    congr 1
    exact sol_congr lp (fun _ _ => rfl)
  have e6 : sol ov2 a la = sol ov2 a lp + sol ov2 a lq := by
    rw [sol_set hK hA h3 (LtS.cut c h1 h2), sol_app]
  rw [e1, e3, e4, e6]
  unfold cutX
  rw [e5]
  omega
theorem pkl_cut (a : Int) (lp lq : List Int) : pkl (lp ++ a :: lq) = pkl lp * 8 ^ (lq.length + 1) + (a * 8 ^ lq.length + pkl lq) := by
  rw [pkl_app]
  rfl
/-- the best of all with this cut -/
theorem cut_best {ov ov2 : Int → Int → Int} {K a : Int} {M A p q : Nat} {la : List Int} (h : ∀ a b : Int, 0 ≤ a → a < K → 0 ≤ b → b < K → 0 ≤ ov a b ∧ ov a b ≤ 108) (hK : 0 ≤ K ∧ K ≤ 8) (hA : A < 2 ^ K.toNat) (a0 : 0 ≤ a) (am : M.testBit a.toNat = true) (hA' : ∀ j : Nat, A.testBit j = true ↔ M.testBit j = true ∧ j ≠ a.toNat) (e : ∀ x y : Int, 0 ≤ x → x < K → 0 ≤ y → y < K → x ≠ a → y ≠ a → ov2 x y = ov x y) (h3 : LtS A la) (c : Cut A p q) : ∃ bp bq : List Int, LtS p bp ∧ LtS q bq ∧ LtS M (bp ++ a :: bq) ∧ scl ov2 (bp ++ a :: bq) = cutT ov ov2 K a p q + sol ov2 a la ∧ pkl (bp ++ a :: bq) = cutO ov K a p q ∧ ∀ lp lq : List Int, LtS p lp → LtS q lq → scl ov2 (lp ++ a :: lq) ≤ scl ov2 (bp ++ a :: bq) ∧ (scl ov2 (lp ++ a :: lq) = scl ov2 (bp ++ a :: bq) → pkl (bp ++ a :: bq) ≤ pkl (lp ++ a :: lq)) := by
  have p2 := pow_256 hK.2
  have pb := c.bd hA
  have na : A.testBit a.toNat = false := by
    cases z : A.testBit a.toNat with
    | false => rfl
    | true => exact absurd rfl ((hA' _).mp z).2
  obtain ⟨bp, p1, p3, _, p4, p5⟩ := nearB h hK p p (Nat.le_refl _) pb.1
  obtain ⟨bq, q1, q3, _, q4, q5⟩ := nearB h hK q q (Nat.le_refl _) pb.2
  have sc := scl_cut hK hA na c p1 q1 h3 e
  have lb := LtS.len bq q (by omega) q1
  refine ⟨bp, bq, p1, q1, LtS.mid a0 am hA' (LtS.cut c p1 q1), ?_, ?_, fun lp lq g1 g2 => ?_⟩
  · rw [sc, p3, q3]
    rfl
  · rw [pkl_cut, p4, q4, lb]
    rfl
  · have sc' := scl_cut hK hA na c g1 g2 h3 e
    have u := p5 lp g1
    have v := q5 lq g2
    refine ⟨by omega, fun z => ?_⟩
    have w1 := u.2 (by omega)
    have w2 := v.2 (by omega)
    have ll := LtS.len lq q (by omega) g2
    rw [pkl_cut, pkl_cut, ll, lb]
    have : pkl bp * 8 ^ (pcF q 8 + 1) ≤ pkl lp * 8 ^ (pcF q 8 + 1) := Int.mul_le_mul_of_nonneg_right w1 (Int.le_of_lt (Int.pow_pos (by decide)))
    omega
theorem cut_main {ov ov2 : Int → Int → Int} {K a : Int} {M A B C : Nat} (h : ∀ a b : Int, 0 ≤ a → a < K → 0 ≤ b → b < K → 0 ≤ ov a b ∧ ov a b ≤ 108) (h2 : ∀ a b : Int, 0 ≤ a → a < K → 0 ≤ b → b < K → 0 ≤ ov2 a b ∧ ov2 a b ≤ 108) (hK : 0 ≤ K ∧ K ≤ 8) (hM : M < 2 ^ K.toNat) (a0 : 0 ≤ a) (am : M.testBit a.toNat = true) (hA' : ∀ j : Nat, A.testBit j = true ↔ M.testBit j = true ∧ j ≠ a.toNat) (e : ∀ x y : Int, 0 ≤ x → x < K → 0 ≤ y → y < K → x ≠ a → y ≠ a → ov2 x y = ov x y) (c : Cut A B C) (opt : ∀ p q : Nat, Cut A p q → cutT ov ov2 K a p q < cutT ov ov2 K a B C ∨ (cutT ov ov2 K a p q = cutT ov ov2 K a B C ∧ cutO ov K a B C ≤ cutO ov K a p q)) : ∃ l1 l2 : List Int, LtS B l1 ∧ LtS C l2 ∧ LtS M (l1 ++ a :: l2) ∧ ∀ i : Nat, i < (l1 ++ a :: l2).length → (l1 ++ a :: l2).getD i 0 = rwA ov2 K M i := by
  have p2 := pow_256 hK.2
  have hA : A < 2 ^ K.toNat := sub_bd hM (fun j hj => ((hA' j).mp hj).1)
  obtain ⟨la, l3, _⟩ := nearB h hK A A (Nat.le_refl _) hA
  obtain ⟨ln, n1, n2, n3, n4, n5⟩ := nearB h2 hK M M (Nat.le_refl _) hM
  have aln : a ∈ ln := (n1.2 a).mpr ⟨a0, am⟩
  obtain ⟨u, v, euv⟩ := List.append_of_mem aln
  have nd := nd_split u (a :: v) (by rw [← euv]; exact n1.1)
  have ndv := List.nodup_cons.mp nd.2.1
  have mem : ∀ x : Int, x ∈ u ∨ x = a ∨ x ∈ v ↔ 0 ≤ x ∧ M.testBit x.toNat = true := fun x => by
    rw [← n1.2 x, euv, List.mem_append, List.mem_cons]
  have lk : ∀ x : Int, 0 ≤ x ∧ M.testBit x.toNat = true → 0 ≤ x ∧ x < K := fun x hx => by
    have := bit_lt hM hx.2
    omega
  obtain ⟨P, P1, P2⟩ := mask_ex (K := K) u nd.1 (fun x hx => lk x ((mem x).mp (Or.inl hx)))
  obtain ⟨Q, Q1, Q2⟩ := mask_ex (K := K) v ndv.2 (fun x hx => lk x ((mem x).mp (Or.inr (Or.inr hx))))
  have cPQ : Cut A P Q := by
    refine ⟨fun j hj => ?_, fun j => ?_⟩
    · have ju : (j : Int) ∈ u := (P2.2 j).mpr ⟨by omega, by rw [show ((j : Nat) : Int).toNat = j by omega]; exact hj⟩
      have g := (mem j).mp (Or.inl ju)
      rw [show ((j : Nat) : Int).toNat = j by omega] at g
      refine (hA' j).mpr ⟨g.2, fun z => nd.2.2 (j : Int) ju ?_⟩
      rw [show (j : Int) = a by omega]
      exact List.mem_cons_self
    · have qv := Q2.2 (j : Int)
      have pu := P2.2 (j : Int)
      have mj := mem (j : Int)
      rw [show ((j : Nat) : Int).toNat = j by omega] at qv pu mj
      constructor
      · intro hj
        have jv := qv.mpr ⟨by omega, hj⟩
        refine ⟨(hA' j).mpr ⟨(mj.mp (Or.inr (Or.inr jv))).2, fun z => ndv.1 ?_⟩, ?_⟩
        · rw [show a = (j : Int) by omega]; exact jv
        · cases w : P.testBit j with
          | false => rfl
          | true => exact absurd (List.mem_cons_of_mem _ jv) (fun z => nd.2.2 (j : Int) (pu.mpr ⟨by omega, w⟩) z)
      · rintro ⟨j1, j2⟩
        have g := (hA' j).mp j1
        rcases mj.mpr ⟨by omega, g.1⟩ with z | z | z
        · have := (pu.mp z).2
          rw [j2] at this
          exact absurd this (by decide)
        · exact absurd (by omega) g.2
        · exact (qv.mp z).2
  obtain ⟨bp, bq, b1, b2, b3, b4, b5, b6⟩ := cut_best h hK hA a0 am hA' e l3 cPQ
  obtain ⟨cp, cq, c1, c2, c3, c4, c5, c6⟩ := cut_best h hK hA a0 am hA' e l3 c
  have g1 := b6 u v P2 Q2
  rw [← euv] at g1
  have g2 := n5 _ b3
  have g3 := n5 _ c3
  have es : scl ov2 (bp ++ a :: bq) = scl ov2 ln := by omega
  have o1 := g1.2 (by omega)
  have o2 := g2.2 (by omega)
  have fin : pkl (cp ++ a :: cq) = pkl ln := by
    rcases opt P Q cPQ with z | ⟨z1, z2⟩
    · omega
    · have := g3.2 (by omega)
      omega
  have eq : cp ++ a :: cq = ln := pkl_inj _ _ (c3.dig (by omega)) (n1.dig (by omega)) (by rw [LtS.len _ M (by omega) c3, LtS.len _ M (by omega) n1]) fin
  refine ⟨cp, cq, c1, c2, c3, ?_⟩
  rw [eq]
  exact n3
/-- who stands ahead of the LETTER -/
theorem cut_ahead {ov ov2 : Int → Int → Int} {K a b : Int} {A B C : Nat} (h : ∀ a b : Int, 0 ≤ a → a < K → 0 ≤ b → b < K → 0 ≤ ov a b ∧ ov a b ≤ 108) (h2 : ∀ a b : Int, 0 ≤ a → a < K → 0 ≤ b → b < K → 0 ≤ ov2 a b ∧ ov2 a b ≤ 108) (hK : 2 ≤ K ∧ K ≤ 8) (ha : 0 ≤ a ∧ a < K) (hb : 0 ≤ b ∧ b < K) (ab : a ≠ b) (hA' : ∀ j : Nat, A.testBit j = true ↔ (2 ^ K.toNat - 1).testBit j = true ∧ j ≠ a.toNat) (e : ∀ x y : Int, 0 ≤ x → x < K → 0 ≤ y → y < K → x ≠ a → y ≠ a → ov2 x y = ov x y) (c : Cut A B C) (opt : ∀ p q : Nat, Cut A p q → cutT ov ov2 K a p q < cutT ov ov2 K a B C ∨ (cutT ov ov2 K a p q = cutT ov ov2 K a B C ∧ cutO ov K a B C ≤ cutO ov K a p q)) : B.testBit b.toNat = false ↔ atF (rwA ov2 K (2 ^ K.toNat - 1)) a K.toNat < atF (rwA ov2 K (2 ^ K.toNat - 1)) b K.toNat := by
  have hK' : 0 ≤ K ∧ K ≤ 8 := by omega
  have p2 := pow_256 hK'.2
  have p0 : 0 < (2 : Nat) ^ K.toNat := Nat.pow_pos (by decide)
  have fb : ∀ j : Nat, (j : Int) < K → (2 ^ K.toNat - 1).testBit j = true := fun j hj => by
    rw [Nat.testBit_two_pow_sub_one]
    exact decide_eq_true (by omega)
  obtain ⟨l1, l2, g1, g2, g3, g4⟩ := cut_main h h2 hK' (M := 2 ^ K.toNat - 1) (by omega) ha.1 (fb _ (by omega)) hA' e c opt
  have od := rwA_OdR h2 hK
  have pc : pcF (2 ^ K.toNat - 1) 8 = K.toNat := pc_full ⟨K.toNat, by omega⟩
  have ln := LtS.len _ _ (by omega) g3
  rw [pc] at ln
  have ln2 : (l1 ++ a :: l2).length = l1.length + (l2.length + 1) := by rw [List.length_append, List.length_cons]
  have ea : atF (rwA ov2 K (2 ^ K.toNat - 1)) a K.toNat = l1.length := by
    have := g4 l1.length (by omega)
    have g : (l1 ++ a :: l2).getD l1.length 0 = a := by simp
    rw [g] at this
    have z := od.at_ (i := (l1.length : Int)) (by omega) (by omega)
    rw [← this] at z
    exact z
  have ix : ∀ i : Nat, i < K.toNat → ∀ x : Int, (l1 ++ a :: l2).getD i 0 = x → atF (rwA ov2 K (2 ^ K.toNat - 1)) x K.toNat = i := fun i hi x hx => by
    have := g4 i (by omega)
    rw [hx] at this
    have z := od.at_ (i := (i : Int)) (by omega) (by omega)
    rw [← this] at z
    exact z
  rw [ea]
  cases w : B.testBit b.toNat with
  | true =>
    have bm := (g1.2 b).mpr ⟨hb.1, w⟩
    obtain ⟨i, hi, he⟩ := List.getElem_of_mem bm
    have := ix i (by omega) b (by
      rw [List.getD_eq_getElem?_getD, List.getElem?_append_left hi, List.getElem?_eq_getElem hi, he]
      rfl)
    constructor
    · intro z; exact absurd z (by decide)
    · intro z; omega
  | false =>
    have bm := (g2.2 b).mpr ⟨hb.1, (c.2 _).mpr ⟨(hA' _).mpr ⟨fb _ (by omega), by omega⟩, w⟩⟩
    obtain ⟨i, hi, he⟩ := List.getElem_of_mem bm
    have := ix (l1.length + 1 + i) (by omega) b (by
      rw [List.getD_eq_getElem?_getD, List.getElem?_append_right (by omega), show l1.length + 1 + i - l1.length = i + 1 by omega, List.getElem?_cons_succ, List.getElem?_eq_getElem hi, he]
      rfl)
    constructor
    · intro _; omega
    · intro _; rfl
