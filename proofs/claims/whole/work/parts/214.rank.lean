/-! RANKS of letters, keys of NAMES, and who is AHEAD -/
/-- a row of n places, each number below n at most once, has each number below n -/
theorem pigeon : ∀ (n : Nat) (f : Nat → Nat), (∀ i, i < n → f i < n) → (∀ i j, i < n → j < n → f i = f j → i = j) → ∀ v, v < n → ∃ i, i < n ∧ f i = v := by
  intro n
  induction n with
  | zero => intro f _ _ v hv; omega
  | succ n ih =>
    intro f hf hi v hv
    have h1 : ∀ i, i < n → (if f i = n then f n else f i) < n := by
      intro i hin
      by_cases q : f i = n
      · rw [if_pos q]
        have := hf n (by omega)
        by_cases q2 : f n = n
        · have := hi i n (by omega) (by omega) (by omega); omega
        · omega
      · rw [if_neg q]
        have := hf i (by omega); omega
    have h2 : ∀ i j, i < n → j < n → (if f i = n then f n else f i) = (if f j = n then f n else f j) → i = j := by
      intro i j hin hjn e
      by_cases q : f i = n
      · by_cases q2 : f j = n
        · exact hi i j (by omega) (by omega) (by omega)
        · rw [if_pos q, if_neg q2] at e
          have := hi n j (by omega) (by omega) e; omega
      · by_cases q2 : f j = n
        · rw [if_neg q, if_pos q2] at e
          have := hi i n (by omega) (by omega) e; omega
        · rw [if_neg q, if_neg q2] at e
          exact hi i j (by omega) (by omega) e
    have key : ∀ w, w < n → ∃ i, i < n + 1 ∧ f i = w := by
      intro w hw
      obtain ⟨i, a, b⟩ := ih _ h1 h2 w hw
      by_cases q : f i = n
      · rw [if_pos q] at b; exact ⟨n, by omega, b⟩
      · rw [if_neg q] at b; exact ⟨i, by omega, b⟩
    by_cases hvn : v = n
    · subst hvn
      by_cases q : f v = v
      · exact ⟨v, by omega, q⟩
      · have hfn := hf v (by omega)
        obtain ⟨i, a, b⟩ := ih _ h1 h2 (f v) (by omega)
        by_cases q2 : f i = v
        · exact ⟨i, by omega, q2⟩
        · rw [if_neg q2] at b
          have := hi i v (by omega) (by omega) b; omega
    · exact key v (by omega)
/-- every LETTER stands somewhere in an ORDER -/
theorem OdR.onto {K o : Int} {f : Int → Int} (h : OdR K o f) {l : Int} (h0 : 0 ≤ l) (h1 : l < K) : ∃ i : Int, 0 ≤ i ∧ i < K ∧ f i = l := by
  obtain ⟨i, a, b⟩ := pigeon K.toNat (fun i => (f i).toNat) (fun i hi => by have := h.2.1 i (by omega) (by omega); omega) (fun i j hi hj e => by
    have g1 := h.2.1 i (by omega) (by omega)
    have g2 := h.2.1 j (by omega) (by omega)
    have := h.2.2.1 i j (by omega) (by omega) (by omega) (by omega) (by omega)
    omega) l.toNat (by omega)
  have g1 := h.2.1 i (by omega) (by omega)
  exact ⟨i, by omega, by omega, by omega⟩
/-- the rank of a letter under K, the LAW OF ABROAD and places pl; -1: left out -/
def rkF (K law : Int) (pl : Int → Int) (l : Int) : Int := if l < K then (if law = 1 then 26 - K else 0) + pl l + 1 else if law = 2 then -1 else if law = 1 then l + 1 - K else l + 1
/-- places by an ORDER -/
def PlR (K : Int) (od pl : Int → Int) : Prop := ∀ i : Int, 0 ≤ i → i < K → pl (od i) = i
theorem PlR.bd {K o : Int} {od pl : Int → Int} (h : PlR K od pl) (ho : OdR K o od) {l : Int} (h0 : 0 ≤ l) (h1 : l < K) : 0 ≤ pl l ∧ pl l < K := by
  obtain ⟨i, a, b, rfl⟩ := ho.onto h0 h1
  rw [h i a b]; exact ⟨a, b⟩
theorem PlR.uniq {K o : Int} {od pl pl' : Int → Int} (h : PlR K od pl) (h' : PlR K od pl') (ho : OdR K o od) {l : Int} (h0 : 0 ≤ l) (h1 : l < K) : pl l = pl' l := by
  obtain ⟨i, a, b, rfl⟩ := ho.onto h0 h1
  rw [h i a b, h' i a b]
/-- ranks of a NAME's last m letters, those left out left out -/
def sfx (rk f : Int → Int) (n : Int) : Nat → List Int
  | 0 => []
  | m + 1 => if rk (f (n - (m + 1 : Nat))) = -1 then sfx rk f n m else rk (f (n - (m + 1 : Nat))) :: sfx rk f n m
/-- a row of at most n digits as a number of n digits -/
def keyN : Nat → List Int → Int
  | 0, _ => 0
  | _ + 1, [] => 0
  | n + 1, a :: l => a * 32 ^ n + keyN n l
/-- AHEAD, letter by letter; the beginning of another is ahead -/
def ltL : List Int → List Int → Prop
  | [], [] => False
  | [], _ :: _ => True
  | _ :: _, [] => False
  | a :: l, b :: m => a < b ∨ (a = b ∧ ltL l m)
def dgs (l : List Int) : Prop := ∀ a ∈ l, 1 ≤ a ∧ a < 32
theorem keyN_nil : ∀ n : Nat, keyN n [] = 0
  | 0 => rfl
  | _ + 1 => rfl
theorem keyN_bd : ∀ (n : Nat) (l : List Int), dgs l → l.length ≤ n → 0 ≤ keyN n l ∧ keyN n l < 32 ^ n
  | 0, l, _, _ => by simp [keyN]
  | n + 1, [], _, _ => by
    refine ⟨Int.le_refl 0, ?_⟩
    show (0 : Int) < 32 ^ (n + 1)
    exact Int.pow_pos (by decide)
  | n + 1, a :: l, h, hl => by
    have ih := keyN_bd n l (fun x hx => h x (List.mem_cons_of_mem _ hx)) (by simpa using hl)
    have ha := h a List.mem_cons_self
    have hp : (0 : Int) < 32 ^ n := Int.pow_pos (by decide)
    have e : (32 : Int) ^ (n + 1) = 32 * 32 ^ n := by rw [Int.pow_succ, Int.mul_comm]
    show 0 ≤ a * 32 ^ n + keyN n l ∧ a * 32 ^ n + keyN n l < 32 ^ (n + 1)
    have h1 : 0 ≤ a * 32 ^ n := Int.mul_nonneg (by omega) (by omega)
    have h2 : (a + 1) * 32 ^ n ≤ 32 * 32 ^ n := Int.mul_le_mul_of_nonneg_right (by omega) (by omega)
    rw [Int.add_mul, Int.one_mul] at h2
    rw [e]
    omega
theorem keyN_lt : ∀ (n : Nat) (l m : List Int), dgs l → dgs m → l.length ≤ n → m.length ≤ n → (keyN n l < keyN n m ↔ ltL l m) ∧ (keyN n l = keyN n m ↔ l = m)
  | 0, [], [], _, _, _, _ => by simp [keyN, ltL]
  | 0, a :: l, _, _, _, h, _ => by simp at h
  | 0, [], a :: l, _, _, _, h => by simp at h
  | n + 1, [], [], _, _, _, _ => by simp [keyN, ltL]
  | n + 1, [], b :: m, _, hm, _, hl => by
    have ih := keyN_bd n m (fun x hx => hm x (List.mem_cons_of_mem _ hx)) (by simpa using hl)
    have hb := hm b List.mem_cons_self
    have hp : (0 : Int) < 32 ^ n := Int.pow_pos (by decide)
    have h1 : 1 * 32 ^ n ≤ b * 32 ^ n := Int.mul_le_mul_of_nonneg_right hb.1 (by omega)
    rw [Int.one_mul] at h1
    show (0 < b * 32 ^ n + keyN n m ↔ True) ∧ (0 = b * 32 ^ n + keyN n m ↔ [] = b :: m)
    refine ⟨⟨fun _ => trivial, fun _ => by omega⟩, ⟨fun q => by omega, fun q => by cases q⟩⟩
  | n + 1, a :: l, [], hm, _, hl, _ => by
    have ih := keyN_bd n l (fun x hx => hm x (List.mem_cons_of_mem _ hx)) (by simpa using hl)
    have hb := hm a List.mem_cons_self
    have hp : (0 : Int) < 32 ^ n := Int.pow_pos (by decide)
    have h1 : 1 * 32 ^ n ≤ a * 32 ^ n := Int.mul_le_mul_of_nonneg_right hb.1 (by omega)
    rw [Int.one_mul] at h1
    show (a * 32 ^ n + keyN n l < 0 ↔ False) ∧ (a * 32 ^ n + keyN n l = 0 ↔ a :: l = [])
    refine ⟨⟨fun q => by omega, fun q => q.elim⟩, ⟨fun q => by omega, fun q => by cases q⟩⟩
  | n + 1, a :: l, b :: m, hl, hm, h1, h2 => by
    have dl : dgs l := fun x hx => hl x (List.mem_cons_of_mem _ hx)
    have dm : dgs m := fun x hx => hm x (List.mem_cons_of_mem _ hx)
    have bl := keyN_bd n l dl (by simpa using h1)
    have bm := keyN_bd n m dm (by simpa using h2)
    have ih := keyN_lt n l m dl dm (by simpa using h1) (by simpa using h2)
    show (a * 32 ^ n + keyN n l < b * 32 ^ n + keyN n m ↔ a < b ∨ (a = b ∧ ltL l m)) ∧ (a * 32 ^ n + keyN n l = b * 32 ^ n + keyN n m ↔ a :: l = b :: m)
    rcases Int.lt_trichotomy a b with q | q | q
    · have h3 : (a + 1) * 32 ^ n ≤ b * 32 ^ n := Int.mul_le_mul_of_nonneg_right (by omega) (by have : (0 : Int) < 32 ^ n := Int.pow_pos (by decide); omega)
      rw [Int.add_mul, Int.one_mul] at h3
      refine ⟨⟨fun _ => Or.inl q, fun _ => by omega⟩, ⟨fun z => by omega, fun z => by cases z; omega⟩⟩
    · subst q
      refine ⟨⟨fun z => Or.inr ⟨rfl, ih.1.mp (by omega)⟩, fun z => ?_⟩, ⟨fun z => by rw [ih.2.mp (by omega)], fun z => by cases z; rfl⟩⟩
      rcases z with z | z
      · omega
      · have := ih.1.mpr z.2; omega
    · have h3 : (b + 1) * 32 ^ n ≤ a * 32 ^ n := Int.mul_le_mul_of_nonneg_right (by omega) (by have : (0 : Int) < 32 ^ n := Int.pow_pos (by decide); omega)
      rw [Int.add_mul, Int.one_mul] at h3
      refine ⟨⟨fun z => by omega, fun z => by rcases z with z | z <;> omega⟩, ⟨fun z => by omega, fun z => by cases z; omega⟩⟩
theorem keyN_snoc (d : Int) : ∀ (n : Nat) (P : List Int), P.length < n → keyN n (P ++ [d]) = keyN n P + d * 32 ^ (n - 1 - P.length)
  | 0, _, h => by omega
  | n + 1, [], _ => by
    show d * 32 ^ n + keyN n [] = 0 + d * 32 ^ (n + 1 - 1 - 0)
    rw [keyN_nil, Int.zero_add, Int.add_zero]
    rfl
  | n + 1, a :: P, h => by
    have ih := keyN_snoc d n P (by simpa using h)
    show a * 32 ^ n + keyN n (P ++ [d]) = a * 32 ^ n + keyN n P + d * 32 ^ (n + 1 - 1 - (a :: P).length)
    rw [ih, show n + 1 - 1 - (a :: P).length = n - 1 - P.length by simp; omega, Int.add_assoc]
theorem keyN_mod : ∀ (n : Nat) (P : List Int), P.length ≤ n → keyN n P % 32 ^ (n - P.length) = 0
  | 0, _, _ => by simp [keyN]
  | n + 1, [], _ => by simp [keyN]
  | n + 1, a :: P, h => by
    have ih := keyN_mod n P (by simpa using h)
    have hl : P.length ≤ n := by simpa using h
    show (a * 32 ^ n + keyN n P) % 32 ^ (n + 1 - (a :: P).length) = 0
    rw [show n + 1 - (a :: P).length = n - P.length by simp]
    have e : (32 : Int) ^ n = 32 ^ P.length * 32 ^ (n - P.length) := by rw [← Int.pow_add]; congr 1; omega
    rw [e, ← Int.mul_assoc, Int.add_comm, Int.add_mul_emod_self_right]
    exact ih
/-- a digit more behind a key -/
theorem key_step {P : List Int} {d : Int} (hP : dgs P) (hl : P.length < 6) (hd : 1 ≤ d ∧ d < 32) : xor_ (keyN 6 P) (xshl d (5 * (5 - (P.length : Int)))) = keyN 6 (P ++ [d]) := by
  have hb := keyN_bd 6 P hP (by omega)
  have hm := keyN_mod 6 P (by omega)
  rw [keyN_snoc d 6 P hl]
  generalize hk : keyN 6 P = A at hb hm ⊢
  have hA : A < 1073741824 := hb.2
  generalize P.length = n at hl hm ⊢
  have : n = 0 ∨ n = 1 ∨ n = 2 ∨ n = 3 ∨ n = 4 ∨ n = 5 := by omega
  rcases this with rfl | rfl | rfl | rfl | rfl | rfl
  · have hm : A % 1073741824 = 0 := hm
    have hs : xshl d 25 = d * 33554432 := xshl_int (b := 25) (by omega) (by decide) (by decide) (by show d * 33554432 ≤ _; omega)
    show xor_ A (xshl d 25) = A + d * 33554432
    rw [hs, xor_add 30 (by omega) (by omega) hm (by omega) (by show _ < 1073741824; omega) (by omega)]
  · have hm : A % 33554432 = 0 := hm
    have hs : xshl d 20 = d * 1048576 := xshl_int (b := 20) (by omega) (by decide) (by decide) (by show d * 1048576 ≤ _; omega)
    show xor_ A (xshl d 20) = A + d * 1048576
    rw [hs, xor_add 25 (by omega) (by omega) hm (by omega) (by show _ < 33554432; omega) (by omega)]
  · have hm : A % 1048576 = 0 := hm
    have hs : xshl d 15 = d * 32768 := xshl_int (b := 15) (by omega) (by decide) (by decide) (by show d * 32768 ≤ _; omega)
    show xor_ A (xshl d 15) = A + d * 32768
    rw [hs, xor_add 20 (by omega) (by omega) hm (by omega) (by show _ < 1048576; omega) (by omega)]
  · have hm : A % 32768 = 0 := hm
    have hs : xshl d 10 = d * 1024 := xshl_int (b := 10) (by omega) (by decide) (by decide) (by show d * 1024 ≤ _; omega)
    show xor_ A (xshl d 10) = A + d * 1024
    rw [hs, xor_add 15 (by omega) (by omega) hm (by omega) (by show _ < 32768; omega) (by omega)]
  · have hm : A % 1024 = 0 := hm
    have hs : xshl d 5 = d * 32 := xshl_int (b := 5) (by omega) (by decide) (by decide) (by show d * 32 ≤ _; omega)
    show xor_ A (xshl d 5) = A + d * 32
    rw [hs, xor_add 10 (by omega) (by omega) hm (by omega) (by show _ < 1024; omega) (by omega)]
  · have hm : A % 32 = 0 := hm
    have hs : xshl d 0 = d * 1 := xshl_int (b := 0) (by omega) (by decide) (by decide) (by show d * 1 ≤ _; omega)
    show xor_ A (xshl d 0) = A + d * 1
    rw [hs, xor_add 5 (by omega) (by omega) hm (by omega) (by show _ < 32; omega) (by omega)]
