/-! VOTES BOUGHT: ORDERS as lists -/
def sol (ov : Int → Int → Int) (x : Int) : List Int → Int
  | [] => 0
  | y :: t => ov x y + sol ov x t
def scl (ov : Int → Int → Int) : List Int → Int
  | [] => 0
  | x :: t => sol ov x t + scl ov t
def pkl : List Int → Int
  | [] => 0
  | x :: t => x * 8 ^ t.length + pkl t
/-- the list has just the LETTERS of the set -/
def LtS (m : Nat) (l : List Int) : Prop := l.Nodup ∧ ∀ x : Int, x ∈ l ↔ 0 ≤ x ∧ m.testBit x.toNat = true
theorem b256 {m x : Nat} (hm : m < 256) (h : m.testBit x = true) : x < 8 := bit_lo (n := 8) hm h
theorem LtS.nil : LtS 0 [] := ⟨List.nodup_nil, fun x => ⟨fun h => absurd h (List.not_mem_nil), fun h => by rw [Nat.zero_testBit] at h; exact absurd h.2 (by decide)⟩⟩
theorem LtS.zero {m : Nat} (hm : m < 256) (h : LtS m []) : m = 0 := by
  by_cases z : m = 0
  · exact z
  · obtain ⟨l, hl⟩ := some_bit ⟨m, hm⟩ z
    have := (h.2 (l.val : Int)).mpr ⟨by omega, hl⟩
    exact absurd this List.not_mem_nil
theorem LtS.tl {m : Nat} {x : Int} {t : List Int} (hm : m < 256) (h : LtS m (x :: t)) : (0 ≤ x ∧ x < 8) ∧ m.testBit x.toNat = true ∧ LtS (clr m x.toNat) t := by
  have hx := (h.2 x).mp (List.mem_cons_self)
  have x8 := b256 hm hx.2
  have nd := List.nodup_cons.mp h.1
  refine ⟨by omega, hx.2, nd.2, fun y => ?_⟩
  constructor
  · intro hy
    have g := (h.2 y).mp (List.mem_cons_of_mem _ hy)
    have y8 := b256 hm g.2
    refine ⟨g.1, (clr_bit hm (by omega) (by omega)).mpr ⟨g.2, fun e => ?_⟩⟩
    have : y = x := by omega
    rw [this] at hy
    exact nd.1 hy
  · rintro ⟨y0, y1⟩
    have y8 : y.toNat < 8 := b256 (Nat.lt_of_le_of_lt (clr_le hm (by omega)) hm) y1
    have g := (clr_bit hm (by omega) y8).mp y1
    have := (h.2 y).mpr ⟨y0, g.1⟩
    rcases List.mem_cons.mp this with e | e
    · exact absurd (by rw [e]) g.2
    · exact e
theorem LtS.co {m x : Nat} {t : List Int} (hm : m < 256) (hx : m.testBit x = true) (h : LtS (clr m x) t) : LtS m ((x : Int) :: t) := by
  have x8 := b256 hm hx
  have cl : clr m x < 256 := Nat.lt_of_le_of_lt (clr_le hm x8) hm
  refine ⟨List.nodup_cons.mpr ⟨fun z => ?_, h.1⟩, fun y => ?_⟩
  · have := (h.2 _).mp z
    rw [show ((x : Nat) : Int).toNat = x by omega] at this
    exact absurd rfl ((clr_bit hm x8 x8).mp this.2).2
  · rw [List.mem_cons, h.2]
    constructor
    · rintro (e | ⟨y0, y1⟩)
      · rw [e, show ((x : Nat) : Int).toNat = x by omega]; exact ⟨by omega, hx⟩
      · exact ⟨y0, ((clr_bit hm x8 (b256 cl y1)).mp y1).1⟩
    · rintro ⟨y0, y1⟩
      by_cases e : y = x
      · exact Or.inl e
      · exact Or.inr ⟨y0, (clr_bit hm x8 (b256 hm y1)).mpr ⟨y1, by omega⟩⟩
theorem LtS.len : ∀ (l : List Int) (m : Nat), m < 256 → LtS m l → l.length = pcF m 8
  | [], m, hm, h => by rw [h.zero hm]; decide
  | x :: t, m, hm, h => by
    obtain ⟨a, b, c⟩ := h.tl hm
    have g := clr_lt hm (by omega) b
    rw [List.length_cons, LtS.len t _ (by omega) c, g.2]
theorem sov_clr {ov : Int → Int → Int} {m y : Nat} {a : Int} (hm : m < 256) (hy : m.testBit y = true) : ∀ k : Nat, k ≤ 8 → sovF ov m a k = sovF ov (clr m y) a k + if y < k then ov a y else 0
  | 0, _ => by show (0 : Int) = 0 + if y < 0 then _ else 0; rw [if_neg (by omega)]; omega
  | k + 1, hk => by
    have y8 := b256 hm hy
    show sovF ov m a k + (if m.testBit k = true then ov a k else 0) = sovF ov (clr m y) a k + (if (clr m y).testBit k = true then ov a k else 0) + if y < k + 1 then ov a y else 0
    rw [sov_clr hm hy k (by omega)]
    have cb := clr_bit (m := m) (l := y) (j := k) hm y8 (by omega)
    by_cases e : k = y
    · subst e
      rw [if_neg (Nat.lt_irrefl _), if_pos hy, if_neg (fun z => (cb.mp z).2 rfl), if_pos (by omega)]
    · by_cases z : m.testBit k = true
      · rw [if_pos z, if_pos (cb.mpr ⟨z, e⟩)]
        by_cases q : y < k
        · rw [if_pos q, if_pos (by omega)]; omega
        · rw [if_neg q, if_neg (by omega)]; omega
      · rw [if_neg z, if_neg (fun w => z (cb.mp w).1)]
        by_cases q : y < k
        · rw [if_pos q, if_pos (by omega)]; omega
        · rw [if_neg q, if_neg (by omega)]
theorem sov_0 {ov : Int → Int → Int} {a : Int} : ∀ k : Nat, sovF ov 0 a k = 0
  | 0 => rfl
  | k + 1 => by
    show sovF ov 0 a k + (if (0 : Nat).testBit k = true then ov a k else 0) = 0
    rw [sov_0 k, Nat.zero_testBit, if_neg (by decide)]
    rfl
theorem sol_sov {ov : Int → Int → Int} {K x : Int} (hK : 0 ≤ K ∧ K ≤ 8) : ∀ (l : List Int) (m : Nat), m < 2 ^ K.toNat → LtS m l → sol ov x l = sovF ov m x K.toNat
  | [], m, hm, h => by
    have p2 := pow_256 hK.2
    rw [h.zero (by omega), sov_0]
    rfl
  | y :: t, m, hm, h => by
    have p2 := pow_256 hK.2
    obtain ⟨a, b, c⟩ := h.tl (by omega)
    have yk := bit_lt hm b
    show ov x y + sol ov x t = _
    rw [sol_sov hK t _ (Nat.lt_of_le_of_lt (clr_le (by omega) (by omega)) hm) c, sov_clr (y := y.toNat) (by omega) b _ (by omega), if_pos (by omega), Int.toNat_of_nonneg a.1]
    omega
theorem pkl_bd : ∀ l : List Int, (∀ x : Int, x ∈ l → 0 ≤ x ∧ x < 8) → 0 ≤ pkl l ∧ pkl l < 8 ^ l.length
  | [], _ => by show (0 : Int) ≤ 0 ∧ (0 : Int) < 8 ^ 0; decide
  | x :: t, h => by
    have ih := pkl_bd t (fun y hy => h y (List.mem_cons_of_mem _ hy))
    have hx := h x List.mem_cons_self
    show 0 ≤ x * 8 ^ t.length + pkl t ∧ x * 8 ^ t.length + pkl t < 8 ^ (t.length + 1)
    rw [Int.pow_succ]
    have a : 0 ≤ x * 8 ^ t.length := Int.mul_nonneg hx.1 (by omega)
    have b : x * 8 ^ t.length ≤ 7 * 8 ^ t.length := Int.mul_le_mul_of_nonneg_right (by omega) (by omega)
    omega
theorem LtS.dig {m : Nat} {l : List Int} (hm : m < 256) (h : LtS m l) : ∀ x : Int, x ∈ l → 0 ≤ x ∧ x < 8 := fun x hx => by
  have := (h.2 x).mp hx
  have := b256 hm this.2
  omega
theorem pkl_inj : ∀ l l' : List Int, (∀ x : Int, x ∈ l → 0 ≤ x ∧ x < 8) → (∀ x : Int, x ∈ l' → 0 ≤ x ∧ x < 8) → l.length = l'.length → pkl l = pkl l' → l = l'
  | [], [], _, _, _, _ => rfl
  | [], _ :: _, _, _, h, _ => by simp at h
  | _ :: _, [], _, _, h, _ => by simp at h
  | x :: t, x' :: t', h, h', hl, e => by
    have b := pkl_bd t (fun y hy => h y (List.mem_cons_of_mem _ hy))
    have b' := pkl_bd t' (fun y hy => h' y (List.mem_cons_of_mem _ hy))
    have tl : t.length = t'.length := by simpa using hl
    have e2 : x * 8 ^ t.length + pkl t = x' * 8 ^ t'.length + pkl t' := e
    rw [← tl] at e2 b'
    have hx := h x List.mem_cons_self
    have hx' := h' x' List.mem_cons_self
    have key : ∀ y z : Int, y < z → y * 8 ^ t.length + 8 ^ t.length ≤ z * 8 ^ t.length := fun y z hyz => by
      have : (y + 1) * 8 ^ t.length ≤ z * 8 ^ t.length := Int.mul_le_mul_of_nonneg_right (by omega) (by omega)
      rw [Int.add_mul, Int.one_mul] at this
      exact this
    have ex : x = x' := by
      rcases Int.lt_trichotomy x x' with z | z | z
      · have := key x x' z; omega
      · exact z
      · have := key x' x z; omega
    subst ex
    rw [pkl_inj t t' (fun y hy => h y (List.mem_cons_of_mem _ hy)) (fun y hy => h' y (List.mem_cons_of_mem _ hy)) tl (by omega)]
theorem fsA_le {ov : Int → Int → Int} {K : Int} (hK : 0 ≤ K ∧ K ≤ 8) {m j : Nat} (hm : m < 2 ^ K.toNat) (hj : m.testBit j = true) : scF ov K (agA ov K) m j ≤ agA ov K m := by
  have p2 := pow_256 hK.2
  have h0 : m ≠ 0 := fun e => by rw [e, Nat.zero_testBit] at hj; exact absurd hj (by decide)
  have jk := bit_lt hm hj
  rw [agA_s (ov := ov) hK.2 h0 (by omega : m < 256)]
  rcases fsF_is (ov := ov) (K := K) (A := agA ov K) (m := m) K.toNat with ⟨_, i2, i3⟩ | ⟨l, i1, i2, i3, i4, i5, i6⟩
  · rw [i2]; exact i3 j (by omega) hj
  · exact i6 j (by omega) hj
/-- the nearest list of a set -/
theorem nearB {ov : Int → Int → Int} {K : Int} (h : ∀ a b : Int, 0 ≤ a → a < K → 0 ≤ b → b < K → 0 ≤ ov a b ∧ ov a b ≤ 108) (hK : 0 ≤ K ∧ K ≤ 8) : ∀ f m : Nat, m ≤ f → m < 2 ^ K.toNat → ∃ l : List Int, LtS m l ∧ scl ov l = agA ov K m ∧ (∀ i : Nat, i < l.length → l.getD i 0 = rwA ov K m i) ∧ pkl l = pq 8 (rwA ov K m) (pcF m 8) ∧ ∀ l' : List Int, LtS m l' → scl ov l' ≤ agA ov K m ∧ (scl ov l' = agA ov K m → pkl l ≤ pkl l') := by
  have p2 := pow_256 hK.2
  have zero : ∃ l : List Int, LtS 0 l ∧ scl ov l = agA ov K 0 ∧ (∀ i : Nat, i < l.length → l.getD i 0 = rwA ov K 0 i) ∧ pkl l = pq 8 (rwA ov K 0) (pcF 0 8) ∧ ∀ l' : List Int, LtS 0 l' → scl ov l' ≤ agA ov K 0 ∧ (scl ov l' = agA ov K 0 → pkl l ≤ pkl l') := by
    refine ⟨[], LtS.nil, (agA_0 ov K).symm, fun i hi => absurd hi (Nat.not_lt_zero _), rfl, fun l' hl' => ?_⟩
    cases l' with
    | nil => rw [agA_0]; exact ⟨Int.le_refl _, fun _ => Int.le_refl _⟩
    | cons x t =>
      have := (hl'.tl (by decide)).2.1
      rw [Nat.zero_testBit] at this
      exact absurd this (by decide)
  intro f
  induction f with
  | zero =>
    intro m hm hm2
    have : m = 0 := by omega
    rw [this]; exact zero
  | succ f ih =>
    intro m hm hm2
    by_cases m0 : m = 0
    · rw [m0]; exact zero
    · obtain ⟨l, l1, l2, l3, l4, l5⟩ := fsA_is h hK m0 hm2
      have cl := clr_lt (m := m) (l := l) (by omega) (by omega) l3
      obtain ⟨t, t1, t2, t3, t4, t5⟩ := ih (clr m l) (by omega) (by omega)
      have tl := LtS.len t _ (by omega) t1
      have r0 : rwA ov K m 0 = l := l2
      refine ⟨(l : Int) :: t, LtS.co (by omega) l3 t1, ?_, fun i hi => ?_, ?_, fun l' hl' => ?_⟩
      · show sol ov l t + scl ov t = _
        rw [sol_sov hK t _ (by omega) t1, t2, ← l4]
        rfl
      · cases i with
        | zero => rw [show ((0 : Nat) : Int) = 0 from rfl, r0]; rfl
        | succ i =>
          show t.getD i 0 = _
          rw [t3 i (by simpa using hi), show ((i + 1 : Nat) : Int) = (i : Int) + 1 by omega, rwA_cons l2 _ (by omega)]
      · show (l : Int) * 8 ^ t.length + pkl t = _
        rw [← cl.2, pq_cons, r0, t4, tl]
        congr 1
        exact pq_ext _ (fun i _ => (rwA_cons l2 _ (by omega)).symm)
      · cases l' with
        | nil => exact absurd (hl'.zero (by omega)) m0
        | cons x t' =>
          obtain ⟨x1, x2, x3⟩ := hl'.tl (by omega)
          have cx := clr_lt (m := m) (l := x.toNat) (by omega) (by omega) x2
          obtain ⟨_, _, _, _, _, q5⟩ := ih (clr m x.toNat) (by omega) (by omega)
          have g := q5 t' x3
          have le := fsA_le (ov := ov) hK hm2 x2
          have ex : ((x.toNat : Nat) : Int) = x := Int.toNat_of_nonneg x1.1
          have es : scl ov (x :: t') = sovF ov (clr m x.toNat) x K.toNat + scl ov t' := by
            show sol ov x t' + scl ov t' = _
            rw [sol_sov hK t' _ (by omega) x3]
          have ee : scF ov K (agA ov K) m x.toNat = sovF ov (clr m x.toNat) x K.toNat + agA ov K (clr m x.toNat) := by
            unfold scF
            rw [ex]
          rw [ee] at le
          rw [es]
          refine ⟨by omega, fun e => ?_⟩
          have xl : l ≤ x.toNat := by
            rcases Nat.lt_or_ge x.toNat l with z | z
            · exact absurd (by rw [ee]; omega) (l5 _ z x2)
            · exact z
          have tl' := LtS.len t' _ (by omega) x3
          have lens : t'.length = t.length := by omega
          show (l : Int) * 8 ^ t.length + pkl t ≤ x * 8 ^ t'.length + pkl t'
          rw [lens]
          by_cases z : x.toNat = l
          · have xz : x = (l : Int) := by omega
            rw [xz]
            have : pkl t ≤ pkl t' := by
              refine (t5 t' (by rw [← z]; exact x3)).2 ?_
              rw [← z]
              omega
            omega
          · have bt := pkl_bd t (t1.dig (by omega))
            have bt' := pkl_bd t' (x3.dig (by omega))
            have : ((l : Int) + 1) * 8 ^ t.length ≤ x * 8 ^ t.length := Int.mul_le_mul_of_nonneg_right (by omega) (by omega)
            rw [Int.add_mul, Int.one_mul] at this
            omega
/-! cut around a LETTER -/
def crs (ov : Int → Int → Int) : List Int → List Int → Int
  | [], _ => 0
  | x :: t, l => sol ov x l + crs ov t l
theorem sol_app (ov : Int → Int → Int) (x : Int) (l' : List Int) : ∀ l : List Int, sol ov x (l ++ l') = sol ov x l + sol ov x l'
  | [] => by show sol ov x l' = 0 + sol ov x l'; omega
  | y :: t => by
    show ov x y + sol ov x (t ++ l') = ov x y + sol ov x t + sol ov x l'
    rw [sol_app ov x l' t]; omega
theorem scl_app (ov : Int → Int → Int) (l' : List Int) : ∀ l : List Int, scl ov (l ++ l') = scl ov l + scl ov l' + crs ov l l'
  | [] => by show scl ov l' = 0 + scl ov l' + 0; omega
  | y :: t => by
    show sol ov y (t ++ l') + scl ov (t ++ l') = sol ov y t + scl ov t + scl ov l' + (sol ov y l' + crs ov t l')
    rw [scl_app ov l' t, sol_app]; omega
theorem pkl_app (l' : List Int) : ∀ l : List Int, pkl (l ++ l') = pkl l * 8 ^ l'.length + pkl l'
  | [] => by show pkl l' = 0 * _ + pkl l'; omega
  | y :: t => by
    show y * 8 ^ (t ++ l').length + pkl (t ++ l') = (y * 8 ^ t.length + pkl t) * 8 ^ l'.length + pkl l'
    rw [pkl_app l' t, List.length_append, Int.pow_add, Int.add_mul, ← Int.mul_assoc]
    omega
theorem crs_sol (ov : Int → Int → Int) (l' : List Int) : ∀ l : List Int, crs ov l l' = sol (fun _ x => sol ov x l') 0 l
  | [] => rfl
  | x :: t => by
    show sol ov x l' + crs ov t l' = sol ov x l' + sol (fun _ x => sol ov x l') 0 t
    rw [crs_sol ov l' t]
theorem sol_congr {ov ov' : Int → Int → Int} {x x' : Int} : ∀ l : List Int, (∀ y : Int, y ∈ l → ov x y = ov' x' y) → sol ov x l = sol ov' x' l
  | [], _ => rfl
  | y :: t, h => by
    show ov x y + sol ov x t = ov' x' y + sol ov' x' t
    rw [h y List.mem_cons_self, sol_congr t (fun z hz => h z (List.mem_cons_of_mem _ hz))]
theorem scl_congr {ov ov' : Int → Int → Int} : ∀ l : List Int, (∀ x y : Int, x ∈ l → y ∈ l → ov x y = ov' x y) → scl ov l = scl ov' l
  | [], _ => rfl
  | y :: t, h => by
    show sol ov y t + scl ov t = sol ov' y t + scl ov' t
    rw [sol_congr t (fun z hz => h y z List.mem_cons_self (List.mem_cons_of_mem _ hz)), scl_congr t (fun a b ha hb => h a b (List.mem_cons_of_mem _ ha) (List.mem_cons_of_mem _ hb))]
/-- sums over a set don't ask for the order -/
theorem sol_set {ov : Int → Int → Int} {K x : Int} {m : Nat} {l l' : List Int} (hK : 0 ≤ K ∧ K ≤ 8) (hm : m < 2 ^ K.toNat) (h : LtS m l) (h' : LtS m l') : sol ov x l = sol ov x l' := by rw [sol_sov hK l m hm h, sol_sov hK l' m hm h']
theorem crs_set {ov : Int → Int → Int} {K : Int} {m n : Nat} {l l' p p' : List Int} (hK : 0 ≤ K ∧ K ≤ 8) (hm : m < 2 ^ K.toNat) (hn : n < 2 ^ K.toNat) (h : LtS m l) (h' : LtS m l') (g : LtS n p) (g' : LtS n p') : crs ov l p = crs ov l' p' := by
  rw [crs_sol, crs_sol, sol_set hK hm h h']
  exact sol_congr l' (fun y _ => sol_set hK hn g g')
theorem mask_ex {K : Int} : ∀ l : List Int, l.Nodup → (∀ x : Int, x ∈ l → 0 ≤ x ∧ x < K) → ∃ m : Nat, m < 2 ^ K.toNat ∧ LtS m l
  | [], _, _ => ⟨0, Nat.pow_pos (by decide), LtS.nil⟩
  | x :: t, nd, h => by
    have nd' := List.nodup_cons.mp nd
    obtain ⟨m, m1, m2⟩ := mask_ex (K := K) t nd'.2 (fun y hy => h y (List.mem_cons_of_mem _ hy))
    have hx := h x List.mem_cons_self
    refine ⟨m ||| 2 ^ x.toNat, Nat.or_lt_two_pow m1 (Nat.pow_lt_pow_right (by decide) (by omega)), nd, fun y => ?_⟩
    rw [List.mem_cons, m2.2, or2_bit]
    constructor
    · rintro (e | ⟨e1, e2⟩)
      · rw [e]; exact ⟨hx.1, Or.inr rfl⟩
      · exact ⟨e1, Or.inl e2⟩
    · rintro ⟨e1, e2 | e2⟩
      · exact Or.inr ⟨e1, e2⟩
      · exact Or.inl (by omega)
