/-! THE STATE stays where only working rows change -/
theorem NmR.congr {p n n' : Int} {f f' : Int → Int} (h : NmR p n f) (hn : n' = n) (e : ∀ k : Int, 0 ≤ k → k < n → f' k = f k) : NmR p n' f' := by
  subst hn
  refine ⟨h.1, fun k h1 h2 => by rw [e k h1 h2]; exact h.2.1 k h1 h2, ?_⟩
  rw [h.2.2]
  refine pq_ext 6 (fun i hi => ?_)
  unfold ltD
  by_cases q : (i : Int) < n'
  · rw [if_pos q, if_pos q, e i (by omega) q]
  · rw [if_neg q, if_neg q]
theorem OdR.congr {K o : Int} {f f' : Int → Int} (h : OdR K o f) (e : ∀ k : Int, 0 ≤ k → k < K → f' k = f k) : OdR K o f' := by
  refine ⟨h.1, fun i h1 h2 => by rw [e i h1 h2]; exact h.2.1 i h1 h2, fun i j h1 h2 h3 h4 => by rw [e i h1 h2, e j h3 h4]; exact h.2.2.1 i j h1 h2 h3 h4, ?_⟩
  rw [h.2.2.2]
  exact (pq_ext _ (fun i hi => e i (by omega) (by omega))).symm
theorem NamesR.congr {k o : Int} {a n f n' f' : Int → Int} (h : NamesR k a n f o) (ho : 0 ≤ o) (hk : o + k ≤ 30) (hn : ∀ i : Int, 0 ≤ i → i < 30 → n' i = n i) (hf : ∀ i : Int, 0 ≤ i → i < 180 → f' i = f i) : NamesR k a n' f' o := by
  intro p h1 h2
  have hp := h p h1 h2
  refine hp.congr (hn _ (by omega) (by omega)) (fun i g1 g2 => hf _ (by omega) (by have := hp.1; omega))
theorem ChanceR.congr {K : Int} {o w w' tl od od' : Int → Int} (h : ChanceR K o w w' tl od) (hK : K ≤ 8) (e : ∀ i : Int, 0 ≤ i → i < 152 → od' i = od i) : ChanceR K o w w' tl od' := by
  intro j h1 h2
  obtain ⟨g1, g2⟩ := h j h1 h2
  refine ⟨g1, ?_⟩
  rcases g2 with g | ⟨g, g3⟩
  · exact Or.inl g
  · exact Or.inr ⟨g, g3.congr (fun k k1 k2 => e _ (by omega) (by omega))⟩
theorem VoterR.congr {K n : Int} {o w p w' p' od od' : Int → Int} (h : VoterR K n o w p w' p' od) (hK : K ≤ 8) (hn : n ≤ 12) (e : ∀ i : Int, 0 ≤ i → i < 152 → od' i = od i) : VoterR K n o w p w' p' od' := by
  intro v h1 h2
  obtain ⟨g1, g2⟩ := h v h1 h2
  exact ⟨g1.congr (fun k k1 k2 => e _ (by omega) (by omega)), g2⟩
theorem LineOk.congr {op ar op' ar' : Int → Int} {a b : Int} (h : LineOk op ar a b) (ha : 0 ≤ a) (hb : b ≤ 400) (eo : ∀ i : Int, 0 ≤ i → i < 400 → op' i = op i) (ea : ∀ i : Int, 0 ≤ i → i < 400 → ar' i = ar i) : LineOk op' ar' a b := by
  obtain ⟨T, h1, h2, h3⟩ := h
  refine ⟨T, h1, h2, fun i g1 g2 => ?_⟩
  obtain ⟨k1, k2, k3⟩ := h3 i g1 g2
  rw [eo i (by omega) (by omega)]
  refine ⟨k1, k2, fun q => ?_⟩
  obtain ⟨z1, z2, z3⟩ := k3 q
  exact ⟨z1, by rw [eo _ (by omega) (by omega)]; exact z2, by rw [ea _ (by omega) (by omega)]; exact z3⟩
theorem NamingR.congr {n z : Int} {vd le cd wd fr to op ar wd' fr' to' op' ar' : Int → Int} (h : NamingR n z vd le cd wd fr to op ar) (e1 : ∀ i : Int, 0 ≤ i → i < 16 → wd' i = wd i ∧ fr' i = fr i ∧ to' i = to i) (e2 : ∀ i : Int, 0 ≤ i → i < 400 → op' i = op i ∧ ar' i = ar i) : NamingR n z vd le cd wd' fr' to' op' ar' := by
  obtain ⟨h1, h2, h3, h4, h5⟩ := h
  refine ⟨h1, h2, fun i g1 g2 => ?_, h4, fun l g1 g2 => ?_⟩
  · rw [(e2 i g1 (by omega)).1, (e2 i g1 (by omega)).2]; exact h3 i g1 g2
  · obtain ⟨k1, k2, k3, k4, k5, k6, k7⟩ := h5 l g1 g2
    obtain ⟨d1, d2, d3⟩ := e1 l g1 (by omega)
    have d4 : (if l = 0 then 0 else to' (l - 1)) = (if l = 0 then 0 else to (l - 1)) := by
      by_cases q : l = 0
      · rw [if_pos q, if_pos q]
      · rw [if_neg q, if_neg q, (e1 (l - 1) (by omega) (by omega)).2.2]
    rw [d1, d2, d3, d4]
    exact ⟨k1, k2, k3, k4, k5, k6, fun q => (k7 q).congr k4 (by omega) (fun i a b => (e2 i a b).1) (fun i a b => (e2 i a b).2)⟩
/-- the places of the reference that outlast a call (of Land alone) -/
def perM (c : Nat) (i : Int) : Prop := (c = 75 ∧ (i = 1 ∨ i = 4 ∨ i = 8 ∨ i = 9 ∨ i = 18 ∨ i = 21 ∨ i = 22 ∨ i = 30)) ∨ (c = 76 ∧ 0 ≤ i ∧ i < 30) ∨ (c = 77 ∧ 0 ≤ i ∧ i < 180) ∨ (78 ≤ c ∧ c ≤ 80) ∨ (c = 81 ∧ 0 ≤ i ∧ i < 152) ∨ (82 ≤ c ∧ c ≤ 90) ∨ ((c = 93 ∨ c = 94 ∨ c = 95) ∧ 0 ≤ i ∧ i < 16) ∨ ((c = 96 ∨ c = 97) ∧ 0 ≤ i ∧ i < 400)
theorem LandR.congr [Inhabited YT] {s s' m m' : Sto} {b : Nat} (h : LandR s b m) (h1 : ∀ (c : Nat) (i : Int), b ≤ c → c ≤ b + 17 → s' c i = s c i) (h2 : ∀ (c : Nat) (i : Int), perM c i → m' c i = m c i) : LandR s' b m' := by
  have hs : ∀ c : Nat, b ≤ c → c ≤ b + 17 → s' c = s c := fun c a b => funext (fun i => h1 c i a b)
  have hm : ∀ c : Nat, (78 ≤ c ∧ c ≤ 80) ∨ (82 ≤ c ∧ c ≤ 90) → m' c = m c := fun c a => funext (fun i => h2 c i (by unfold perM; omega))
  unfold LandR at *
  rw [hs b (by omega) (by omega), hs (b + 1) (by omega) (by omega), hs (b + 2) (by omega) (by omega), hs (b + 3) (by omega) (by omega), hs (b + 4) (by omega) (by omega), hs (b + 5) (by omega) (by omega), hs (b + 6) (by omega) (by omega), hs (b + 7) (by omega) (by omega), hs (b + 8) (by omega) (by omega), hs (b + 9) (by omega) (by omega), hs (b + 10) (by omega) (by omega), hs (b + 11) (by omega) (by omega), hs (b + 12) (by omega) (by omega), hs (b + 13) (by omega) (by omega), hs (b + 14) (by omega) (by omega), hs (b + 15) (by omega) (by omega), hs (b + 16) (by omega) (by omega), hs (b + 17) (by omega) (by omega)]
  rw [hm 78 (by omega), hm 79 (by omega), hm 80 (by omega), hm 82 (by omega), hm 83 (by omega), hm 84 (by omega), hm 85 (by omega), hm 86 (by omega), hm 87 (by omega), hm 88 (by omega), hm 89 (by omega), hm 90 (by omega)]
  rw [h2 75 1 (by unfold perM; omega), h2 75 4 (by unfold perM; omega), h2 75 8 (by unfold perM; omega), h2 75 9 (by unfold perM; omega), h2 75 18 (by unfold perM; omega), h2 75 21 (by unfold perM; omega), h2 75 22 (by unfold perM; omega), h2 75 30 (by unfold perM; omega)]
  obtain ⟨a1, a2, a3, a4, a5, a6, a7, a8, a9, a10, a11, a12, a13, a14, a15, a16⟩ := h
  have e81 : ∀ i : Int, 0 ≤ i → i < 152 → m' 81 i = m 81 i := fun i g1 g2 => h2 81 i (by unfold perM; omega)
  have e76 : ∀ i : Int, 0 ≤ i → i < 30 → m' 76 i = m 76 i := fun i g1 g2 => h2 76 i (by unfold perM; omega)
  have e77 : ∀ i : Int, 0 ≤ i → i < 180 → m' 77 i = m 77 i := fun i g1 g2 => h2 77 i (by unfold perM; omega)
  refine ⟨a1, a2, a3.congr (fun k k1 k2 => ?_), a4, a5, a6, a7.congr (by omega) (by omega) e76 e77, a8, a9, a10.congr (by omega) e81, a11, a12.congr (by omega) (by omega) e76 e77, a13, a14.congr (by omega) (by omega) e81, a15, a16.congr (fun i g1 g2 => ⟨h2 93 i (by unfold perM; omega), h2 94 i (by unfold perM; omega), h2 95 i (by unfold perM; omega)⟩) (fun i g1 g2 => ⟨h2 96 i (by unfold perM; omega), h2 97 i (by unfold perM; omega)⟩)⟩
  unfold alM
  by_cases q : m 75 22 = 0
  · rw [if_pos q, if_pos q]
  · rw [if_neg q, if_neg q, e81 k k1 (by omega)]
/-- all places that outlast a call -/
def pers (c : Nat) (i : Int) : Prop := c ≤ 38 ∨ (c = 39 ∧ (i = 4 ∨ i = 5)) ∨ perM c i ∨ (c = 75 ∧ (i = 24 ∨ i = 42 ∨ i = 43 ∨ i = 59 ∨ i = 69)) ∨ c = 91 ∨ c = 92 ∨ c = 118
theorem Inv.scr [Inhabited YT] {s s' : Sto} (h : Inv s) (e : ∀ (c : Nat) (i : Int), pers c i → s' c i = s c i) : Inv s' := by
  have er : ∀ c : Nat, c ≤ 38 ∨ c = 91 ∨ c = 92 ∨ c = 118 → s' c = s c := fun c hc => funext (fun i => e c i (by unfold pers; omega))
  obtain ⟨⟨h1, h2⟩, h3, h4, ⟨h5, h6, h7⟩, h8, h9, h10⟩ := h
  refine ⟨⟨?_, ?_⟩, h3.congr (fun c i a b => e c i (by unfold pers; omega)) (fun c i hc => e c i (Or.inr (Or.inr (Or.inl hc)))), ?_, ⟨?_, ?_, ?_⟩, ?_, ?_, ?_⟩
  · rw [er 1 (by omega), e 75 24 (by unfold pers; omega)]; exact h1
  · rw [er 1 (by omega), er 2 (by omega), er 91 (by omega)]; exact h2
  · rw [e 39 4 (by unfold pers; omega), e 39 5 (by unfold pers; omega), e 75 42 (by unfold pers; omega), e 75 43 (by unfold pers; omega)]; exact h4
  · rw [er 0 (by omega), e 75 69 (by unfold pers; omega)]; exact h5
  · rw [er 0 (by omega)]; exact h6
  · intro q
    rw [er 0 (by omega)] at q
    obtain ⟨m, k1, k2, k3⟩ := h7 q
    refine ⟨m, k1.congr (fun c i a b => e c i (by unfold pers; omega)) (fun _ _ _ => rfl), by rw [er 118 (by omega)]; exact k2, k3⟩
  · rw [e 75 22 (by unfold pers perM; omega)]; exact h8
  · rw [e 75 59 (by unfold pers; omega)]; exact h9
  · rw [er 92 (by omega)]; exact h10
theorem Inv.told [Inhabited YT] {s : Sto} (h : Inv s) (v : Int) : Inv (up s 75 0 v) := h.scr (fun c i hp => up_ne (by unfold pers perM at hp; omega))
theorem Inv.beg [Inhabited YT] {s : Sto} (h : Inv s) : Inv (begS s) := by
  unfold begS
  by_cases q : s 75 22 = 0
  · rw [if_pos q]
    obtain ⟨⟨h1, h2⟩, h3, h4, ⟨h5, h6, h7⟩, h8, h9, h10⟩ := h
    have er : ∀ c : Nat, c ≠ 75 → c ≠ 81 → fillR (up s 75 22 1) 81 0 8 (fun i => i) c = s c := fun c a b => by rw [fillR_row b, up_row a]
    have e75 : ∀ i : Int, i ≠ 22 → fillR (up s 75 22 1) 81 0 8 (fun i => i) 75 i = s 75 i := fun i a => by rw [fillR_row (by decide), up_idx a]
    have e22 : fillR (up s 75 22 1) 81 0 8 (fun i => i) 75 22 = 1 := by rw [fillR_row (by decide), up_at]
    have e81 : ∀ i : Int, 8 ≤ i → fillR (up s 75 22 1) 81 0 8 (fun i => i) 81 i = s 81 i := fun i a => by rw [fillR_out (by omega), up_row (by decide)]
    have e81b : ∀ i : Int, 0 ≤ i → i < 8 → fillR (up s 75 22 1) 81 0 8 (fun i => i) 81 i = i := fun i a b => by rw [fillR_in (by omega)]; omega
    generalize fillR (up s 75 22 1) 81 0 8 (fun i => i) = u at er e75 e22 e81 e81b
    refine ⟨⟨?_, ?_⟩, ?_, ?_, ⟨?_, ?_, ?_⟩, ?_, ?_, ?_⟩
    · rw [er 1 (by decide) (by decide), e75 24 (by decide)]; exact h1
    · rw [er 1 (by decide) (by decide), er 2 (by decide) (by decide), er 91 (by decide) (by decide)]; exact h2
    · obtain ⟨a1, a2, a3, a4, a5, a6, a7, a8, a9, a10, a11, a12, a13, a14, a15, a16⟩ := h3
      unfold LandR
      rw [er 3 (by decide) (by decide), er (3 + 1) (by decide) (by decide), er (3 + 2) (by decide) (by decide), er (3 + 3) (by decide) (by decide), er (3 + 4) (by decide) (by decide), er (3 + 5) (by decide) (by decide), er (3 + 6) (by decide) (by decide), er (3 + 7) (by decide) (by decide), er (3 + 8) (by decide) (by decide), er (3 + 9) (by decide) (by decide), er (3 + 10) (by decide) (by decide), er (3 + 11) (by decide) (by decide), er (3 + 12) (by decide) (by decide), er (3 + 13) (by decide) (by decide), er (3 + 14) (by decide) (by decide), er (3 + 15) (by decide) (by decide), er (3 + 16) (by decide) (by decide), er (3 + 17) (by decide) (by decide)]
      rw [er 76 (by decide) (by decide), er 77 (by decide) (by decide), er 78 (by decide) (by decide), er 79 (by decide) (by decide), er 80 (by decide) (by decide), er 82 (by decide) (by decide), er 83 (by decide) (by decide), er 84 (by decide) (by decide), er 85 (by decide) (by decide), er 86 (by decide) (by decide), er 87 (by decide) (by decide), er 88 (by decide) (by decide), er 89 (by decide) (by decide), er 90 (by decide) (by decide), er 93 (by decide) (by decide), er 94 (by decide) (by decide), er 95 (by decide) (by decide), er 96 (by decide) (by decide), er 97 (by decide) (by decide)]
      rw [e75 1 (by decide), e75 4 (by decide), e75 8 (by decide), e75 9 (by decide), e75 18 (by decide), e75 21 (by decide), e75 30 (by decide), e22]
      refine ⟨a1, a2, a3.congr (fun k k1 k2 => ?_), a4, a5, a6, a7, a8, a9, ?_, a11, a12, a13, ?_, a15, a16⟩
      · unfold alM
        rw [if_neg (by decide), if_pos q, e81b k k1 (by omega)]
      · intro j g1 g2
        obtain ⟨k1, k2⟩ := a10 j g1 g2
        refine ⟨k1, ?_⟩
        rcases k2 with k | ⟨k, k3⟩
        · exact Or.inl k
        · exact Or.inr ⟨k, k3.congr (fun i i1 i2 => e81 _ (by omega))⟩
      · intro v g1 g2
        obtain ⟨k1, k2⟩ := a14 v g1 g2
        exact ⟨k1.congr (fun i i1 i2 => e81 _ (by omega)), k2⟩
    · rw [er 39 (by decide) (by decide), e75 42 (by decide), e75 43 (by decide)]; exact h4
    · rw [er 0 (by decide) (by decide), e75 69 (by decide)]; exact h5
    · rw [er 0 (by decide) (by decide)]; exact h6
    · intro z
      rw [er 0 (by decide) (by decide)] at z
      obtain ⟨m, k1, k2, k3⟩ := h7 z
      exact ⟨m, k1.congr (fun c i a b => by rw [er c (by omega) (by omega)]) (fun _ _ _ => rfl), by rw [er 118 (by decide) (by decide)]; exact k2, k3⟩
    · exact Or.inr e22
    · rw [e75 59 (by decide)]; exact h9
    · rw [er 92 (by decide) (by decide)]; exact h10
  · rw [if_neg q]; exact h
