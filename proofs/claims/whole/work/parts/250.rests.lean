/-! REST in the reference: NAMES kept aside, round by round, and back -/
def cpS (s : Sto) : Nat → Sto
  | 0 => s
  | k + 1 => mvN (cpS s k) k (31 + k)
def rsS (s : Sto) : Nat → Sto
  | 0 => s
  | k + 1 => mvN (rsS s k) (31 + k) k
theorem cpS_s (s : Sto) {k : Int} (hk : 0 ≤ k) : cpS s (k + 1).toNat = mvN (cpS s k.toNat) k (31 + k) := by
  obtain ⟨n, rfl⟩ := Int.eq_ofNat_of_zero_le hk
  rfl
theorem rsS_s (s : Sto) {k : Int} (hk : 0 ≤ k) : rsS s (k + 1).toNat = mvN (rsS s k.toNat) (31 + k) k := by
  obtain ⟨n, rfl⟩ := Int.eq_ofNat_of_zero_le hk
  rfl
theorem cpS_o (s : Sto) {c : Nat} (h1 : c ≠ 76) (h2 : c ≠ 77) : ∀ k : Nat, cpS s k c = s c
  | 0 => rfl
  | k + 1 => by
    show mvN (cpS s k) k (31 + k) c = s c
    rw [mvN_o h1 h2, cpS_o s h1 h2 k]
theorem rsS_o (s : Sto) {c : Nat} (h1 : c ≠ 76) (h2 : c ≠ 77) : ∀ k : Nat, rsS s k c = s c
  | 0 => rfl
  | k + 1 => by
    show mvN (rsS s k) (31 + k) k c = s c
    rw [mvN_o h1 h2, rsS_o s h1 h2 k]
theorem cpS_76 (s : Sto) : ∀ k : Nat, k ≤ 20 → ∀ j : Int, cpS s k 76 j = if 31 ≤ j ∧ j < 31 + k then s 76 (j - 31) else s 76 j
  | 0, _, j => by rw [if_neg (by omega)]; rfl
  | k + 1, hk, j => by
    show mvN (cpS s k) k (31 + k) 76 j = _
    rw [mvN_76]
    show (if j = 31 + k then cpS s k 76 k else cpS s k 76 j) = _
    rw [cpS_76 s k (by omega), cpS_76 s k (by omega)]
    by_cases q : j = 31 + k
    · rw [if_pos q, if_neg (by omega), if_pos (by omega), show j - 31 = k by omega]
    · rw [if_neg q]
      by_cases q2 : 31 ≤ j ∧ j < 31 + k
      · rw [if_pos q2, if_pos (by omega)]
      · rw [if_neg q2, if_neg (by omega)]
theorem cpS_77 (s : Sto) : ∀ k : Nat, k ≤ 20 → ∀ j : Int, cpS s k 77 j = if 186 ≤ j ∧ j < 186 + 6 * k then s 77 (j - 186) else s 77 j
  | 0, _, j => by rw [if_neg (by omega)]; rfl
  | k + 1, hk, j => by
    show mvN (cpS s k) k (31 + k) 77 j = _
    rw [mvN_77]
    show (if 6 * (31 + (k : Int)) ≤ j ∧ j < 6 * (31 + (k : Int)) + 6 then cpS s k 77 (6 * k + (j - 6 * (31 + (k : Int)))) else cpS s k 77 j) = _
    rw [cpS_77 s k (by omega), cpS_77 s k (by omega)]
    by_cases q : 6 * (31 + (k : Int)) ≤ j ∧ j < 6 * (31 + (k : Int)) + 6
    · rw [if_pos q, if_neg (by omega), if_pos (by omega), show 6 * (k : Int) + (j - 6 * (31 + (k : Int))) = j - 186 by omega]
    · rw [if_neg q]
      by_cases q2 : 186 ≤ j ∧ j < 186 + 6 * (k : Int)
      · rw [if_pos q2, if_pos (by omega)]
      · rw [if_neg q2, if_neg (by omega)]
theorem rsS_76 (s : Sto) : ∀ k : Nat, k ≤ 20 → ∀ j : Int, rsS s k 76 j = if 0 ≤ j ∧ j < k then s 76 (31 + j) else s 76 j
  | 0, _, j => by rw [if_neg (by omega)]; rfl
  | k + 1, hk, j => by
    show mvN (rsS s k) (31 + k) k 76 j = _
    rw [mvN_76]
    show (if j = k then rsS s k 76 (31 + k) else rsS s k 76 j) = _
    rw [rsS_76 s k (by omega), rsS_76 s k (by omega)]
    by_cases q : j = k
    · rw [if_pos q, if_neg (by omega), if_pos (by omega), q]
    · rw [if_neg q]
      by_cases q2 : 0 ≤ j ∧ j < k
      · rw [if_pos q2, if_pos (by omega)]
      · rw [if_neg q2, if_neg (by omega)]
theorem rsS_77 (s : Sto) : ∀ k : Nat, k ≤ 20 → ∀ j : Int, rsS s k 77 j = if 0 ≤ j ∧ j < 6 * k then s 77 (186 + j) else s 77 j
  | 0, _, j => by rw [if_neg (by omega)]; rfl
  | k + 1, hk, j => by
    show mvN (rsS s k) (31 + k) k 77 j = _
    rw [mvN_77]
    show (if 6 * (k : Int) ≤ j ∧ j < 6 * (k : Int) + 6 then rsS s k 77 (6 * (31 + (k : Int)) + (j - 6 * (k : Int))) else rsS s k 77 j) = _
    rw [rsS_77 s k (by omega), rsS_77 s k (by omega)]
    by_cases q : 6 * (k : Int) ≤ j ∧ j < 6 * (k : Int) + 6
    · rw [if_pos q, if_neg (by omega), if_pos (by omega), show 6 * (31 + (k : Int)) + (j - 6 * (k : Int)) = 186 + j by omega]
    · rw [if_neg q]
      by_cases q2 : 0 ≤ j ∧ j < 6 * (k : Int)
      · rw [if_pos q2, if_pos (by omega)]
      · rw [if_neg q2, if_neg (by omega)]
/-- rows from n on are the same -/
def rwX (n : Int) (T T' : Sto) : Prop := ∀ a : Int, n ≤ a → T' 76 a = T 76 a ∧ ∀ i : Int, 0 ≤ i → i < 6 → T' 77 (6 * a + i) = T 77 (6 * a + i)
theorem rwX.refl (n : Int) (T : Sto) : rwX n T T := fun _ _ => ⟨rfl, fun _ _ _ => rfl⟩
theorem rwX.trans {n : Int} {T T' T'' : Sto} (h : rwX n T T') (h2 : rwX n T' T'') : rwX n T T'' := fun a ha => ⟨(h2 a ha).1.trans (h a ha).1, fun i i0 i1 => ((h2 a ha).2 i i0 i1).trans ((h a ha).2 i i0 i1)⟩
theorem rwX.toS {n : Int} {T T' : Sto} (h : rwX n T T') (hn : n ≤ 20) : rwS T T' := fun a ha => h a (by omega)
theorem rwS.symm {T T' : Sto} (h : rwS T T') : rwS T' T := fun a ha => ⟨(h a ha).1.symm, fun i i0 i1 => ((h a ha).2 i i0 i1).symm⟩
theorem stpF_rx {n : Int} (t : Sto) (od : Int → Int) (g : Int) {p : Int} (hp : p < n) : rwX n t (stpF t od g p) := by
  unfold stpF
  by_cases q : cho t od g p = -1
  · rw [if_pos q]; exact rwX.refl _ _
  · rw [if_neg q]
    intro b hb
    refine ⟨by rw [mvN_76]; exact if_neg (by omega), fun i i0 i1 => ?_⟩
    rw [mvN_77]
    exact if_neg (by omega)
theorem rnS_rx {n : Int} (t : Sto) (od : Int → Int) (g : Int) : ∀ k : Nat, (k : Int) ≤ n → rwX n t (rnS t od g k)
  | 0, _ => rwX.refl _ t
  | k + 1, hk => (rnS_rx t od g k (by omega)).trans (stpF_rx _ od g (by omega))
theorem stS_rx (t : Sto) (od : Int → Int) (g : Int) {n : Int} (hn : 0 ≤ n) : ∀ k : Nat, rwX n t (stS t od g n k)
  | 0 => rwX.refl _ t
  | k + 1 => (stS_rx t od g hn k).trans (rnS_rx _ od g _ (by omega))
/-- everyone's NAME is known -/
theorem KX.mv {T : Sto} {g n c p : Int} (h : KX T g n) (hn : n ≤ 20) (hc : 0 ≤ c ∧ c < g) (hp : 0 ≤ p ∧ p < n) (nb : ∀ a : Int, (0 ≤ a ∧ a < n) ∨ (20 ≤ a ∧ a < 20 + g) ∨ (31 ≤ a ∧ a < 31 + n) → nmB T a) : KX (mvN T (20 + c) p) g n := by
  have lo : ∀ a b : Int, a ≠ p → b ≠ p → nmB T a → (lkR (mvN T (20 + c) p) a (mvN T (20 + c) p) b ↔ lkR T a T b) := by
    intro a b ha hb na
    have na1 := na.1
    have e : ∀ x i : Int, x ≠ p → 0 ≤ i → i < 6 → mvN T (20 + c) p 77 (6 * x + i) = T 77 (6 * x + i) := fun x i hx i0 i1 => by
      rw [mvN_77]
      exact if_neg (by omega)
    have e6 : ∀ x : Int, x ≠ p → mvN T (20 + c) p 76 x = T 76 x := fun x hx => by rw [mvN_76]; exact if_neg hx
    unfold lkR
    rw [e6 a ha, e6 b hb]
    refine ⟨fun q => ⟨q.1, fun i i0 i1 => ?_⟩, fun q => ⟨q.1, fun i i0 i1 => ?_⟩⟩
    · rw [← e a i ha i0 (by omega), ← e b i hb i0 (by omega)]
      exact q.2 i i0 i1
    · rw [e a i ha i0 (by omega), e b i hb i0 (by omega)]
      exact q.2 i i0 i1
  intro q q0 q1
  by_cases z : q = p
  · refine Or.inr ⟨c, hc.1, hc.2, ?_⟩
    rw [z]
    have b := (nb (20 + c) (by omega)).1
    refine ⟨by rw [mvN_76]; show (if p = p then T 76 (20 + c) else T 76 p) = if 20 + c = p then T 76 (20 + c) else T 76 (20 + c); rw [if_pos rfl, if_neg (by omega)], fun i i0 i1 => ?_⟩
    rw [mvN_76] at i1
    have i1' : i < T 76 (20 + c) := by
      have : (if p = p then T 76 (20 + c) else T 76 p) = T 76 (20 + c) := if_pos rfl
      rw [← this]; exact i1
    rw [mvN_77]
    show (if 6 * p ≤ 6 * p + i ∧ 6 * p + i < 6 * p + 6 then T 77 (6 * (20 + c) + (6 * p + i - 6 * p)) else T 77 (6 * p + i)) = (if 6 * p ≤ 6 * (20 + c) + i ∧ 6 * (20 + c) + i < 6 * p + 6 then T 77 (6 * (20 + c) + (6 * (20 + c) + i - 6 * p)) else T 77 (6 * (20 + c) + i))
    rw [if_pos (by omega), if_neg (by omega), show 6 * p + i - 6 * p = i by omega]
  · rcases h q q0 q1 with g1 | ⟨i, i0, i1, g1⟩
    · exact Or.inl ((lo q (31 + q) z (by omega) (nb q (by omega))).mpr g1)
    · exact Or.inr ⟨i, i0, i1, (lo q (20 + i) z (by omega) (nb q (by omega))).mpr g1⟩
/-- rows of NAMES, in bounds and known -/
def NK (T : Sto) (g n : Int) : Prop := (∀ a : Int, (0 ≤ a ∧ a < n) ∨ (20 ≤ a ∧ a < 20 + g) ∨ (31 ≤ a ∧ a < 31 + n) → nmB T a) ∧ KX T g n
theorem mv_nmB {T : Sto} {a b p : Int} (ha : nmB T a) (hb : nmB T b) : nmB (mvN T a p) b := by
  by_cases z : b = p
  · have b1 := ha.1
    have e : mvN T a p 76 b = T 76 a := by rw [mvN_76]; exact if_pos z
    refine ⟨by rw [e]; exact ha.1, fun i i0 i1 => ?_⟩
    rw [e] at i1
    have e7 : mvN T a p 77 (6 * b + i) = T 77 (6 * a + i) := by
      rw [mvN_77]
      show (if 6 * p ≤ 6 * b + i ∧ 6 * b + i < 6 * p + 6 then T 77 (6 * a + (6 * b + i - 6 * p)) else T 77 (6 * b + i)) = _
      rw [if_pos (by omega), show 6 * b + i - 6 * p = i by omega]
    rw [e7]
    exact ha.2 i i0 i1
  · have b1 := hb.1
    have e : mvN T a p 76 b = T 76 b := by rw [mvN_76]; exact if_neg z
    refine ⟨by rw [e]; exact hb.1, fun i i0 i1 => ?_⟩
    rw [e] at i1
    have e7 : mvN T a p 77 (6 * b + i) = T 77 (6 * b + i) := by
      rw [mvN_77]
      exact if_neg (by omega)
    rw [e7]
    exact hb.2 i i0 i1
theorem NK.stp {u T : Sto} {od : Int → Int} {g n p : Int} (h : NK T g n) (lr : LR u T od) (hn : T 75 4 = n) (hg : 0 ≤ g ∧ g ≤ 10) (hp : 0 ≤ p ∧ p < n) : NK (stpF T od g p) g n ∧ LR u (stpF T od g p) od ∧ stpF T od g p 75 4 = n := by
  have n1 := lr.nms.1
  rw [hn] at n1
  have bs := bstF_bd (t := T) (od := od) (p := p) (g := g.toNat) (fun k k0 k1 => (lr.gnb (by omega) (h.1 (20 + k) (by omega))).2) g.toNat (by omega)
  have cb : -1 ≤ cho T od g p ∧ cho T od g p < g := by unfold cho; omega
  refine ⟨?_, ?_, by rw [stpF_75, hn]⟩
  · unfold stpF
    by_cases q : cho T od g p = -1
    · rw [if_pos q]; exact h
    · rw [if_neg q]
      have nb := h.1 (20 + cho T od g p) (by omega)
      exact ⟨fun a ha => mv_nmB nb (h.1 a ha), h.2.mv n1.2 (by omega) hp h.1⟩
  · unfold stpF
    by_cases q : cho T od g p = -1
    · rw [if_pos q]; exact lr
    · rw [if_neg q]; exact lr.mv (h.1 (20 + cho T od g p) (by omega))
theorem NK.rn {u T : Sto} {od : Int → Int} {g n : Int} (h : NK T g n) (lr : LR u T od) (hn : T 75 4 = n) (hg : 0 ≤ g ∧ g ≤ 10) : ∀ k : Nat, (k : Int) ≤ n → NK (rnS T od g k) g n ∧ LR u (rnS T od g k) od ∧ rnS T od g k 75 4 = n
  | 0, _ => ⟨h, lr, hn⟩
  | k + 1, hk => by
    obtain ⟨a, b, c⟩ := NK.rn h lr hn hg k (by omega)
    exact a.stp b c hg (by omega)
theorem NK.st {u T : Sto} {od : Int → Int} {g n : Int} (h : NK T g n) (lr : LR u T od) (hn : T 75 4 = n) (hg : 0 ≤ g ∧ g ≤ 10) (h0 : 0 ≤ n) : ∀ k : Nat, NK (stS T od g n k) g n ∧ LR u (stS T od g n k) od ∧ stS T od g n k 75 4 = n
  | 0 => ⟨h, lr, hn⟩
  | k + 1 => by
    obtain ⟨a, b, c⟩ := NK.st h lr hn hg h0 k
    exact a.rn b c hg n.toNat (by omega)
