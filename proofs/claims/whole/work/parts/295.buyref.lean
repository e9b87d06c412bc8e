/-! VOTES BOUGHT, in the reference -/
theorem t_X12_ones {n : Nat} {s : Sto} (hn : n < 4096) : ClI LY 0 MX12_ones [.inr 75, .inl (n : Int)] s (fun r s' => s' = s ∧ r = ((pcF n 20 : Nat) : Int)) := by
  refine ClI.intro (by decide) rfl (Nat.le_of_ble_eq_true rfl) (fun X C r => ?_)
  refine kb_X12_ones_0 C r ?_
  have key : ∀ f m : Nat, m ≤ f → m < 4096 → ∀ c : Int, c + ((pcF m 20 : Nat) : Int) = ((pcF n 20 : Nat) : Int) → G LY X 4 [rv 75, iv (n : Int), iv c, iv (m : Int)] [] s := by
    have zero : ∀ c : Int, c + ((pcF 0 20 : Nat) : Int) = ((pcF n 20 : Nat) : Int) → G LY X 4 [rv 75, iv (n : Int), iv c, iv ((0 : Nat) : Int)] [] s := fun c hc => by
      rw [pc_0 20] at hc
      exact kb_X12_ones_4 C r ⟨by decide, fun _ => ⟨rfl, by omega⟩, fun z => absurd rfl z⟩
    intro f
    induction f with
    | zero =>
      intro m hm _ c hc
      obtain rfl : m = 0 := by omega
      exact zero c hc
    | succ f ih =>
      intro m hm h2 c hc
      by_cases z : m = 0
      · subst z; exact zero c hc
      · have o := ones_m h2 z
        refine kb_X12_ones_4 C r ⟨⟨by omega, by omega⟩, fun w => absurd w (by omega), fun _ => ?_⟩
        rw [show (m : Int) - 1 = ((m - 1 : Nat) : Int) by omega, xand_nat (by omega) (by omega)]
        exact ih _ (by omega) (by omega) _ (by omega)
  exact key n n (Nat.le_refl _) hn 0 (by omega)
/-- what is FOR x over y, the VOTERS of bo bought for a -/
def ovB (s : Sto) (bo a x y : Int) : Int := ovF (fun v l => plB bo a (fun i => s 81 (8 * (7 + v) + i)) (s 75 9) v l) (s 89) x y (s 75 18).toNat
noncomputable def voB (s : Sto) (bo a rule i : Int) : Int := if s 75 18 = 0 then begS s 81 i else voF (ovB s bo a) (s 75 9) rule i
def aheadB (s : Sto) (a b rule : Int) (k : Nat) : Prop := atF (voB s (k : Int) a rule) a (s 75 9).toNat < atF (voB s (k : Int) a rule) b (s 75 9).toNat
def priceB (s : Sto) (k : Nat) : Int := sumF (fun v => xand (xshr (k : Int) v) 1 * s 90 v) (s 75 18).toNat
theorem ovB_bd [Inhabited YT] {s : Sto} (h : Inv s) (bo a x y : Int) : 0 ≤ ovB s bo a x y ∧ ovB s bo a x y ≤ 108 := by
  obtain ⟨_, _, v3, v4⟩ := h.vts
  have := ovF_bd (P := fun v l => plB bo a (fun i => s 81 (8 * (7 + v) + i)) (s 75 9) v l) (w := s 89) (n := s 75 18) (fun v v0 v1 => (v4 v v0 v1).2.1.2) x y (s 75 18).toNat (by omega)
  unfold ovB
  omega
theorem priceB_bd [Inhabited YT] {s : Sto} (h : Inv s) (k : Nat) : 0 ≤ priceB s k ∧ priceB s k ≤ 11988 := by
  obtain ⟨_, _, v3, v4⟩ := h.vts
  have := sumF_bd (g := fun v => xand (xshr (k : Int) v) 1 * s 90 v) (M := 999) (s 75 18).toNat (fun v v0 v1 => by
    have b := (v4 v v0 (by omega)).2.2.2
    show 0 ≤ xand (xshr (k : Int) v) 1 * s 90 v ∧ xand (xshr (k : Int) v) 1 * s 90 v ≤ 999
    rcases xand01 (xshr (k : Int) v) with z | z
    · rw [z]; omega
    · rw [z]; omega)
  unfold priceB
  omega
theorem voB_OdR [Inhabited YT] {s : Sto} (h : Inv s) (bo a rule : Int) : ∃ o : Int, OdR (s 75 9) o (voB s bo a rule) := by
  obtain ⟨v1, v2, _, _⟩ := h.vts
  by_cases q : s 75 18 = 0
  · obtain ⟨b3, _, _⟩ := landB h
    rw [v1.1] at b3
    exact ⟨_, b3.congr (fun k _ _ => if_pos q)⟩
  · obtain ⟨o, ho⟩ := voF_OdR (ov := ovB s bo a) (rule := rule) (fun x y _ _ _ _ => ovB_bd h bo a x y) v2
    exact ⟨o, ho.congr (fun k _ _ => if_neg q)⟩
theorem atF_congr {f f' : Int → Int} {K l : Int} (e : ∀ i : Int, 0 ≤ i → i < K → f' i = f i) : ∀ k : Nat, (k : Int) ≤ K → atF f' l k = atF f l k
  | 0, _ => rfl
  | k + 1, hk => by
    show (if f' k = l then (k : Int) else atF f' l k) = (if f k = l then (k : Int) else atF f l k)
    rw [atF_congr e k (by omega), e k (by omega) (by omega)]
theorem plB_congr {bo bf K v l : Int} {f f' : Int → Int} (hK : 0 ≤ K) (e : ∀ i : Int, 0 ≤ i → i < K → f' i = f i) : plB bo bf f' K v l = plB bo bf f K v l := by
  unfold plB
  rw [atF_congr e K.toNat (by omega), atF_congr (l := bf) e K.toNat (by omega)]
theorem t_voteB [Inhabited YT] {s t : Sto} (h : Inv s) {bo a rule : Int} (ha : 0 ≤ a ∧ a < s 75 9) (hb : t 75 22 = 0 ∨ t 75 22 = 1) (e9 : t 75 9 = s 75 9) (e18 : t 75 18 = s 75 18) (e58 : t 75 58 = bo) (e59 : t 75 59 = a) (e81 : ∀ i : Int, 56 ≤ i → i < 152 → t 81 i = s 81 i) (eb : ∀ i : Int, 0 ≤ i → i < 8 → begS t 81 i = begS s 81 i) (e89 : t 89 = s 89) (hr : rg rule) : ClV LY 2 MX12_findsVote [.inr 75, .inl rule] t (fun s' => (∀ c : Nat, c ≠ 81 → c ≠ 101 → c ≠ 110 → c ≠ 111 → c ≠ 112 → s' c = begS t c) ∧ (∀ i : Int, ¬ (160 ≤ i ∧ i < 168) → s' 81 i = begS t 81 i) ∧ ∀ i : Int, 0 ≤ i → i < s 75 9 → s' 81 (160 + i) = voB s bo a rule i) := by
  obtain ⟨v1, v2, v3, v4⟩ := h.vts
  by_cases q : s 75 18 = 0
  · refine ClV.intro (by decide) rfl (Nat.le_of_ble_eq_true rfl) (fun X C r => ?_)
    refine kb_X12_findsVote_0 C r ⟨0, _, by decide, t_X12_begins hb, ?_⟩
    rintro u hu
    have u18 : u 75 18 = 0 := by rw [hu, begS_75 (by decide), e18, q]
    rw [u18]
    refine ⟨by decide, fun z => absurd rfl z, fun _ => ⟨0, _, by decide, t_X12_movesOrder (by decide) (by decide) (by decide), ?_⟩⟩
    rintro x hx
    refine ⟨fun c c1 _ _ _ _ => by rw [hx, fillR_row c1, hu], fun i hi => by rw [hx, fillR_out (by omega), hu], fun i i0 i1 => ?_⟩
    rw [hx, fillR_in (by omega), hu, show 8 * 0 + (160 + i - 8 * 20) = i by omega, eb i i0 (by omega)]
    unfold voB
    rw [if_pos q]
  · have pe : ∀ v l : Int, 0 ≤ v → v < s 75 18 → pvS t v l = plB bo a (fun i => s 81 (8 * (7 + v) + i)) (s 75 9) v l := fun v l v0 v1' => by
      unfold pvS
      rw [e58, e59, e9]
      exact plB_congr (by omega) (fun i i0 i1 => e81 _ (by omega) (by omega))
    have ov : (fun x y => ovF (pvS t) (t 89) x y (s 75 18).toNat) = ovB s bo a := by
      funext x y
      unfold ovB
      exact ovF_congr (n := s 75 18) (fun v v0 v1' => ⟨pe v x v0 v1', pe v y v0 v1'⟩) (fun v _ _ => by rw [e89]) _ (by omega)
    refine (t_findsV (s := t) (K := s 75 9) (n := s 75 18) hb e9 e18 v2 (by omega) hr (by rw [e59]; exact ⟨by omega, by omega⟩) (fun v i v0 v1' i0 i1 => ?_) (fun v v0 v1' => by rw [e89]; exact (v4 v v0 v1').2.1.2) (fun v v0 v1' => ?_)).mono ?_
    · rw [e81 _ (by omega) (by omega)]
      have : 0 ≤ s 81 (8 * (7 + v) + i) ∧ s 81 (8 * (7 + v) + i) < s 75 9 := (v4 v v0 v1').1.2.1 i i0 i1
      exact ⟨by omega, by omega⟩
    · have e : pvS t v = fun l => plB bo a (fun i => s 81 (8 * (7 + v) + i)) (s 75 9) v l := funext (fun l => pe v l v0 v1')
      rw [e]
      exact PBj.put (v4 v v0 v1').1 ha
    · rw [ov]
      rintro x ⟨x1, x2, x3⟩
      refine ⟨x1, x2, fun i i0 i1 => ?_⟩
      rw [x3 i i0 i1]
      unfold voB
      rw [if_neg q]
/-- the reference's store while it tries sets of VOTERS -/
def BQ [Inhabited YT] (s S : Sto) (a : Int) : Prop := Inv S ∧ S 75 9 = s 75 9 ∧ S 75 18 = s 75 18 ∧ S 75 59 = a ∧ (∀ i : Int, 56 ≤ i → i < 152 → S 81 i = s 81 i) ∧ (∀ i : Int, 0 ≤ i → i < 8 → begS S 81 i = begS s 81 i) ∧ S 89 = s 89 ∧ S 90 = s 90
theorem t_bringsB [Inhabited YT] {s S : Sto} (h : Inv s) {a b rule : Int} {k : Nat} (ha : 0 ≤ a ∧ a < s 75 9) (hb : 0 ≤ b ∧ b < s 75 9) (ab : a ≠ b) (hr : rg rule) (q : BQ s S a) : ClI LY 3 MX12_bringsAhead [.inr 75, .inl a, .inl b, .inl rule] (up S 75 58 (k : Int)) (fun r s' => BQ s s' a ∧ r = oneIf (aheadB s a b rule k)) := by
  obtain ⟨v1, v2, v3, v4⟩ := h.vts
  obtain ⟨q0, q1, q2, q3, q4, q5, q6, q7⟩ := q
  have q22 : S 75 22 = 0 ∨ S 75 22 = 1 := q0.2.2.2.2.1
  obtain ⟨o, od⟩ := voB_OdR h (k : Int) a rule
  have PA := od.at' ha.1 ha.2
  have PB := od.at' hb.1 hb.2
  have t75 : ∀ i : Int, i ≠ 58 → up S 75 58 (k : Int) 75 i = S 75 i := fun i hi => up_idx hi
  have tc : ∀ c : Nat, c ≠ 75 → up S 75 58 (k : Int) c = S c := fun c hc => up_row hc
  have t58 : up S 75 58 (k : Int) 75 58 = k := up_at ..
  have it : Inv (up S 75 58 (k : Int)) := q0.scr (fun c j hc => up_ne (by unfold pers perM at hc; omega))
  generalize up S 75 58 (k : Int) = t at t75 tc t58 it ⊢
  have b81 : begS t 81 = begS S 81 := begS_81 (t75 22 (by decide)) (tc 81 (by decide))
  have t22 : t 75 22 = 0 ∨ t 75 22 = 1 := by rw [t75 22 (by decide)]; exact q22
  refine ClI.introZ (by decide) rfl (Nat.le_of_ble_eq_true rfl) (fun X C r => ?_)
  refine kb_X12_bringsAhead_0 C r ⟨2, _, by decide, t_voteB (t := t) (bo := (k : Int)) (a := a) (rule := rule) h ha t22 (by rw [t75 9 (by decide)]; exact q1) (by rw [t75 18 (by decide)]; exact q2) t58 (by rw [t75 59 (by decide)]; exact q3) (fun i i0 i1 => by rw [tc 81 (by decide)]; exact q4 i i0 i1) (fun i i0 i1 => by rw [b81]; exact q5 i i0 i1) (by rw [tc 89 (by decide)]; exact q6) hr, ?_⟩
  rintro x ⟨x1, x2, x3⟩
  have x75 : ∀ i : Int, x 75 i = begS t 75 i := fun i => by rw [x1 75 (by decide) (by decide) (by decide) (by decide) (by decide)]
  have x22 : x 75 22 = 1 := by rw [x75, begS_22 t22]
  have bx : BQ s x a := by
    refine ⟨it.beg.scr (fun c j hc => ?_), ?_, ?_, ?_, fun i i0 i1 => ?_, fun i i0 i1 => ?_, ?_, ?_⟩
    · by_cases q81 : c = 81
      · subst q81
        exact x2 j (by unfold pers perM at hc; omega)
      · rw [x1 c q81 (by unfold pers perM at hc; omega) (by unfold pers perM at hc; omega) (by unfold pers perM at hc; omega) (by unfold pers perM at hc; omega)]
    · rw [x75, begS_75 (by decide), t75 9 (by decide)]; exact q1
    · rw [x75, begS_75 (by decide), t75 18 (by decide)]; exact q2
    · rw [x75, begS_75 (by decide), t75 59 (by decide)]; exact q3
    · rw [x2 i (by omega), begS_at, tc 81 (by decide), q4 i i0 i1]
      by_cases w : t 75 22 = 0
      · rw [if_pos w, if_neg (by omega), if_neg (by omega)]
      · rw [if_neg w]
    · rw [begS_1 x22, x2 i (by omega), b81]; exact q5 i i0 i1
    · rw [x1 89 (by decide) (by decide) (by decide) (by decide) (by decide), begS_row (by decide) (by decide), tc 89 (by decide)]; exact q6
    · rw [x1 90 (by decide) (by decide) (by decide) (by decide) (by decide), begS_row (by decide) (by decide), tc 90 (by decide)]; exact q7
  have x9 : x 75 9 = s 75 9 := bx.2.1
  have eA : aheadB s a b rule k = (atF (voB s (k : Int) a rule) a (s 75 9).toNat < atF (voB s (k : Int) a rule) b (s 75 9).toNat) := rfl
  generalize voB s (k : Int) a rule = f at od PA PB x3 eA
  have ra : rg a := ⟨by omega, by omega⟩
  have rb : rg b := ⟨by omega, by omega⟩
  have pab : atF f a (s 75 9).toNat ≠ atF f b (s 75 9).toNat := fun z => ab (by rw [← PA.2, ← PB.2, z])
  have main : ((0 : Int) ≤ atF f a (s 75 9).toNat ∧ 0 ≤ atF f b (s 75 9).toNat) → G LY X 8 [rv 75, iv a, iv b, iv rule, iv 0, none] [] x := by
    refine downI (P := fun i => (i ≤ atF f a (s 75 9).toNat ∧ i ≤ atF f b (s 75 9).toNat) → G LY X 8 [rv 75, iv a, iv b, iv rule, iv i, none] [] x) (a := 0) (b := s 75 9) (by omega) ?_ ?_
    · rintro ⟨z1, z2⟩; omega
    · rintro i i0 i1 ih ⟨z1, z2⟩
      have fi := od.2.1 i i0 i1
      have ai := od.at_ i0 i1
      refine kb_X12_bringsAhead_8 C r ?_
      rw [x9, x3 i i0 i1]
      have rf : rg (f i) := ⟨by omega, by omega⟩
      refine ⟨⟨⟨by omega, by omega⟩, ⟨by omega, by omega⟩⟩, fun z => absurd z (by omega), fun _ => ⟨⟨by omega, by omega⟩, ⟨rf, ra⟩, fun w => ⟨⟨rf, ra⟩, fun w2 => absurd w w2, fun _ => ⟨bx, ?_⟩⟩, fun w => ⟨⟨rf, rb⟩, fun w2 => ih ?_, fun w2 => ⟨⟨rf, ra⟩, fun _ => ⟨bx, ?_⟩, fun w3 => absurd w3 w⟩⟩⟩⟩
      · rw [w] at ai
        exact (oneIf_t (by rw [eA]; omega)).symm
      · have n1 : atF f a (s 75 9).toNat ≠ i := fun e => w (by rw [← e]; exact PA.2)
        have n2 : atF f b (s 75 9).toNat ≠ i := fun e => w2 (by rw [← e]; exact PB.2)
        omega
      · rw [w2] at ai
        exact (oneIf_f (by rw [eA]; omega)).symm
  exact main ⟨PA.1.1, PB.1.1⟩
