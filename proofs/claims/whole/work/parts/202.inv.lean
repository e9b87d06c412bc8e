/-! THE STATE: what class and reference have in common. Cells of the class are 0 .. 74, of the reference 75 .. 118 -/
theorem up_row {s : Sto} {c c' : Nat} {i v : Int} (h : c' ≠ c) : up s c i v c' = s c' := up_c h
theorem up_idx {s : Sto} {c : Nat} {i i' v : Int} (h : i' ≠ i) : up s c i v c i' = s c i' := up_ne (fun q => h q.2)
theorem up_if (s : Sto) (c : Nat) (i v i' : Int) : up s c i v c i' = if i' = i then v else s c i' := by
  by_cases h : i' = i
  · subst h; rw [up_at, if_pos rfl]
  · rw [up_idx h, if_neg h]
/-- the TAPE: as long, as many bytes -/
def TapeR (n : Int) (b t : Int → Int) : Prop := 0 ≤ n ∧ n ≤ 400 ∧ ∀ i : Int, 0 ≤ i → i < n → b i = t i ∧ 0 ≤ b i ∧ b i ≤ 255
/-- what was told by set() -/
def ToldR (a b : Int → Int) : Prop := ∀ i : Int, 0 ≤ i → i < 7 → a i = b i ∧ stA 500 i ≤ a i ∧ a i ≤ stA 501 i
/-- NAMES by number: packed a, rows of n and f from row o on -/
def NamesR (k : Int) (a n f : Int → Int) (o : Int) : Prop := ∀ p : Int, 0 ≤ p → p < k → NmR (a p) (n (o + p)) (fun i => f (6 * (o + p) + i))
def PeopleR (k : Int) (sx ag co sx' ag' co' : Int → Int) : Prop := ∀ p : Int, 0 ≤ p → p < k → (sx p = sx' p ∧ (sx p = 0 ∨ sx p = 1)) ∧ (ag p = ag' p ∧ 0 ≤ ag p ∧ ag p ≤ 99) ∧ (co p = co' p ∧ rg (co p))
def SitesR (a sd fi le ma : Int → Int) : Prop := ∀ j : Int, 0 ≤ j → j < 6 → (a (4 * j) = sd j ∧ (sd j = 0 ∨ sd j = 1)) ∧ (a (4 * j + 1) = fi j ∧ -99 ≤ fi j ∧ fi j ≤ 99) ∧ (a (4 * j + 2) = le j ∧ 0 ≤ le j ∧ le j ≤ 99) ∧ (a (4 * j + 3) = ma j ∧ 0 ≤ ma j ∧ ma j ≤ 20)
def ChanceR (K : Int) (o w w' tl od : Int → Int) : Prop := ∀ j : Int, 0 ≤ j → j < 6 → (w j = w' j ∧ 0 ≤ w j ∧ w j ≤ 99) ∧ ((tl j = 0 ∧ o j = -1) ∨ (tl j = 1 ∧ OdR K (o j) (fun i => od (8 * (1 + j) + i))))
def VoterR (K n : Int) (o w p w' p' od : Int → Int) : Prop := ∀ v : Int, 0 ≤ v → v < n → OdR K (o v) (fun i => od (8 * (7 + v) + i)) ∧ (w v = w' v ∧ 1 ≤ w v ∧ w v ≤ 9) ∧ (p v = p' v ∧ 0 ≤ p v ∧ p v ≤ 999)
/-- a token of NAMING and the reference's code and argument -/
def TokR (t o a : Int) : Prop := (o = 0 ∧ a = t ∧ 0 ≤ t ∧ t < 10000) ∨ (o = 1 ∧ t = 10006 + a ∧ 0 ≤ a ∧ a < 10) ∨ (o = 2 ∧ t = 10101) ∨ (o = 3 ∧ t = 10102) ∨ (o = 4 ∧ t = 10103) ∨ (o = 5 ∧ t = 10104) ∨ (o = 6 ∧ t = 10107) ∨ (o = 7 ∧ t = 10108) ∨ (o = 8 ∧ t = 10109) ∨ (o = 9 ∧ t = 10005) ∨ (o = 10 ∧ t = 10004) ∨ (o = 11 ∧ t = 10003)
/-- one code on a stack of kinds (true: a truth, false: a number) -/
def stkR (o : Int) (a b : List Bool) : Prop := match a with
  | [] => (o = 0 ∨ o = 1) ∧ b = [false]
  | [x] => ((o = 0 ∨ o = 1) ∧ b = [false, x]) ∨ (o = 9 ∧ x = true ∧ b = [true])
  | x :: y :: l => ((o = 0 ∨ o = 1) ∧ b = false :: x :: y :: l) ∨ (o = 9 ∧ x = true ∧ b = true :: y :: l) ∨ ((2 ≤ o ∧ o ≤ 5) ∧ x = false ∧ y = false ∧ b = false :: l) ∨ ((6 ≤ o ∧ o ≤ 8) ∧ x = false ∧ y = false ∧ b = true :: l) ∨ ((o = 10 ∨ o = 11) ∧ x = true ∧ y = true ∧ b = true :: l)
/-- a line's codes from a to b can be worked off: one truth is left, never more than 30 are held, a part is by a NUMBER that isn't 0 -/
def LineOk (op arg : Int → Int) (a b : Int) : Prop := ∃ T : Int → List Bool, T a = [] ∧ T b = [true] ∧ ∀ i : Int, a ≤ i → i < b → (T i).length ≤ 30 ∧ stkR (op i) (T i) (T (i + 1)) ∧ (op i = 5 → a < i ∧ op (i - 1) = 0 ∧ arg (i - 1) ≠ 0)
def NamingR (n z : Int) (vd le cd wd fr to op ar : Int → Int) : Prop := (0 ≤ n ∧ n ≤ 16) ∧ (0 ≤ z ∧ z ≤ 400) ∧ (∀ i : Int, 0 ≤ i → i < z → TokR (cd i) (op i) (ar i)) ∧ (n = 0 → z = 0) ∧ ∀ l : Int, 0 ≤ l → l < n → ((vd l = 10000 ∧ wd l = 0) ∨ (vd l = 10001 ∧ wd l = 1)) ∧ le l = to l ∧ fr l = (if l = 0 then 0 else to (l - 1)) ∧ 0 ≤ fr l ∧ fr l ≤ to l ∧ to l ≤ z ∧ (fr l < to l → LineOk op ar (fr l) (to l))
/-- THE ALPHABET as the reference has it -/
def alM (bg : Int) (od : Int → Int) : Int → Int := fun i => if bg = 0 then i else od i
/-- how many YEARS there may be: a number that is fixed later -/
def YT : Type := Int
def yN [Y : Inhabited YT] : Int := (Y.default : YT)
/-- a Land of the class at cells b .. b + 17, and the reference's cells in the store m -/
def LandR [Inhabited YT] (s : Sto) (b : Nat) (m : Sto) : Prop :=
  (s b 0 = m 75 9 ∧ 2 ≤ s b 0 ∧ s b 0 ≤ 8) ∧ (s b 1 = m 75 1 ∧ rg (s b 1)) ∧ OdR (s b 0) (s b 2) (alM (m 75 22) (m 81)) ∧ (s b 3 = m 75 21 ∧ 0 ≤ s b 3 ∧ s b 3 ≤ yN ∧ yN ≤ 2147483000) ∧
  ToldR (s (b + 1)) (m 82) ∧
  (s (b + 2) 0 = m 75 4 ∧ 0 ≤ s (b + 2) 0 ∧ s (b + 2) 0 ≤ 20) ∧ NamesR (s (b + 2) 0) (s (b + 3)) (m 76) (m 77) 0 ∧ PeopleR (s (b + 2) 0) (s (b + 4)) (s (b + 5)) (s (b + 6)) (m 78) (m 79) (m 80) ∧
  SitesR (s (b + 7)) (m 83) (m 84) (m 85) (m 86) ∧ ChanceR (s b 0) (s (b + 8)) (s (b + 9)) (m 87) (m 88) (m 81) ∧
  (s b 9 = m 75 8 ∧ 0 ≤ s b 9 ∧ s b 9 ≤ 10) ∧ NamesR (s b 9) (s (b + 10)) (m 76) (m 77) 20 ∧
  (s b 11 = m 75 18 ∧ 0 ≤ s b 11 ∧ s b 11 ≤ 12) ∧ VoterR (s b 0) (s b 11) (s (b + 11)) (s (b + 12)) (s (b + 13)) (m 89) (m 90) (m 81) ∧
  (s (b + 14) 0 = m 75 30 ∧ NamingR (s (b + 14) 0) (s (b + 14) 1) (s (b + 15)) (s (b + 16)) (s (b + 17)) (m 93) (m 94) (m 95) (m 96) (m 97))
/-- the kept image, in the order in which the reference keeps it -/
def ImgR (im : Int → Int) (m : Sto) : Prop :=
  (im 0 = m 75 1 ∧ im 1 = m 75 9 ∧ im 2 = m 75 21 ∧ im 3 = m 75 18) ∧ (∀ k : Int, 0 ≤ k → k < 152 → im (4 + k) = m 81 k) ∧ (∀ k : Int, 0 ≤ k → k < 7 → im (156 + k) = m 82 k) ∧
  (∀ k : Int, 0 ≤ k → k < 6 → im (163 + 6 * k) = m 83 k ∧ im (164 + 6 * k) = m 84 k ∧ im (165 + 6 * k) = m 85 k ∧ im (166 + 6 * k) = m 86 k ∧ im (167 + 6 * k) = m 87 k ∧ im (168 + 6 * k) = m 88 k) ∧
  (∀ v : Int, 0 ≤ v → v < 12 → im (199 + 2 * v) = m 89 v ∧ im (200 + 2 * v) = m 90 v) ∧ im 223 = m 75 4 ∧ (∀ p : Int, 0 ≤ p → p < 20 → im (224 + 3 * p) = m 78 p ∧ im (225 + 3 * p) = m 79 p ∧ im (226 + 3 * p) = m 80 p) ∧
  im 284 = m 75 8 ∧ (∀ k : Int, 0 ≤ k → k < 30 → im (285 + k) = m 76 k) ∧ (∀ k : Int, 0 ≤ k → k < 180 → im (315 + k) = m 77 k) ∧ im 495 = m 75 30 ∧
  (∀ l : Int, 0 ≤ l → l < 16 → im (496 + 3 * l) = m 93 l ∧ im (497 + 3 * l) = m 94 l ∧ im (498 + 3 * l) = m 95 l) ∧ (∀ i : Int, 0 ≤ i → i < 400 → im (544 + 2 * i) = m 96 i ∧ im (545 + 2 * i) = m 97 i)
/-- the reference's table of KEYWORDS -/
def wordsT (i : Int) : Int := if i ≤ 0 then 32 else ((byWords.getD (i - 1).toNat 0).toInt)
/-- WHAT HOLDS BETWEEN TWO CALLS -/
def Inv [Inhabited YT] (s : Sto) : Prop :=
  (s 1 1 = s 75 24 ∧ TapeR (s 1 1) (s 2) (s 91)) ∧ LandR s 3 s ∧ (s 39 4 = s 75 42 ∧ rg (s 39 4) ∧ s 39 5 = s 75 43 ∧ rg (s 39 5)) ∧
  (s 0 3 = s 75 69 ∧ (s 0 3 = 0 ∨ s 0 3 = 1) ∧ (s 0 3 = 1 → ∃ m : Sto, LandR s 21 m ∧ ImgR (s 118) m ∧ m 75 22 = 1)) ∧
  ((s 75 22 = 0 ∨ s 75 22 = 1) ∧ rg (s 75 59) ∧ ∀ i : Int, 0 ≤ i → i < 81 → s 92 i = wordsT i)
/-- a row filled from place o on with n numbers -/
def fillR (s : Sto) (c : Nat) (o n : Int) (g : Int → Int) : Sto := fun c' i => if c' = c ∧ o ≤ i ∧ i < o + n then g (i - o) else s c' i
theorem fillR_0 (s : Sto) (c : Nat) (o : Int) (g : Int → Int) : fillR s c o 0 g = s := by
  funext c' i
  exact if_neg (fun q => by omega)
theorem fillR_s {s : Sto} {c : Nat} {o n v i : Int} {g : Int → Int} (hn : 0 ≤ n) (hi : i = o + n) (hv : v = g n) : up (fillR s c o n g) c i v = fillR s c o (n + 1) g := by
  subst hi hv
  funext c' j
  by_cases h : c' = c ∧ j = o + n
  · rw [h.1, h.2, up_at]
    have : fillR s c o (n + 1) g c (o + n) = g (o + n - o) := if_pos ⟨rfl, by omega, by omega⟩
    rw [this, show o + n - o = n by omega]
  · rw [up_ne h]
    by_cases q : c' = c ∧ o ≤ j ∧ j < o + n
    · have e1 : fillR s c o n g c' j = g (j - o) := if_pos q
      have e2 : fillR s c o (n + 1) g c' j = g (j - o) := if_pos ⟨q.1, q.2.1, by omega⟩
      rw [e1, e2]
    · have e1 : fillR s c o n g c' j = s c' j := if_neg q
      have e2 : fillR s c o (n + 1) g c' j = s c' j := if_neg (fun z => q ⟨z.1, z.2.1, by have : ¬ j = o + n := fun e => h ⟨z.1, e⟩; omega⟩)
      rw [e1, e2]
theorem fillR_row {s : Sto} {c c' : Nat} {o n : Int} {g : Int → Int} (h : c' ≠ c) : fillR s c o n g c' = s c' := by
  funext i; exact if_neg (fun q => h q.1)
theorem fillR_in {s : Sto} {c : Nat} {o n i : Int} {g : Int → Int} (h : o ≤ i ∧ i < o + n) : fillR s c o n g c i = g (i - o) := if_pos ⟨rfl, h⟩
theorem fillR_out {s : Sto} {c : Nat} {o n i : Int} {g : Int → Int} (h : ¬ (o ≤ i ∧ i < o + n)) : fillR s c o n g c i = s c i := if_neg (fun q => h q.2)
theorem LandR.eqv [Inhabited YT] {s s' m m' : Sto} {b : Nat} (h : LandR s b m) (h1 : ∀ c : Nat, b ≤ c → c ≤ b + 17 → s' c = s c) (h2 : ∀ c : Nat, 76 ≤ c → c ≤ 97 → c ≠ 91 → c ≠ 92 → m' c = m c) (h3 : ∀ i : Int, i = 1 ∨ i = 4 ∨ i = 8 ∨ i = 9 ∨ i = 18 ∨ i = 21 ∨ i = 22 ∨ i = 30 → m' 75 i = m 75 i) : LandR s' b m' := by
  unfold LandR at *
  rw [h1 b (by omega) (by omega), h1 (b + 1) (by omega) (by omega), h1 (b + 2) (by omega) (by omega), h1 (b + 3) (by omega) (by omega), h1 (b + 4) (by omega) (by omega), h1 (b + 5) (by omega) (by omega), h1 (b + 6) (by omega) (by omega), h1 (b + 7) (by omega) (by omega), h1 (b + 8) (by omega) (by omega), h1 (b + 9) (by omega) (by omega), h1 (b + 10) (by omega) (by omega), h1 (b + 11) (by omega) (by omega), h1 (b + 12) (by omega) (by omega), h1 (b + 13) (by omega) (by omega), h1 (b + 14) (by omega) (by omega), h1 (b + 15) (by omega) (by omega), h1 (b + 16) (by omega) (by omega), h1 (b + 17) (by omega) (by omega)]
  rw [h2 76 (by omega) (by omega) (by omega) (by omega), h2 77 (by omega) (by omega) (by omega) (by omega), h2 78 (by omega) (by omega) (by omega) (by omega), h2 79 (by omega) (by omega) (by omega) (by omega), h2 80 (by omega) (by omega) (by omega) (by omega), h2 81 (by omega) (by omega) (by omega) (by omega), h2 82 (by omega) (by omega) (by omega) (by omega), h2 83 (by omega) (by omega) (by omega) (by omega), h2 84 (by omega) (by omega) (by omega) (by omega), h2 85 (by omega) (by omega) (by omega) (by omega), h2 86 (by omega) (by omega) (by omega) (by omega), h2 87 (by omega) (by omega) (by omega) (by omega), h2 88 (by omega) (by omega) (by omega) (by omega), h2 89 (by omega) (by omega) (by omega) (by omega), h2 90 (by omega) (by omega) (by omega) (by omega), h2 93 (by omega) (by omega) (by omega) (by omega), h2 94 (by omega) (by omega) (by omega) (by omega), h2 95 (by omega) (by omega) (by omega) (by omega), h2 96 (by omega) (by omega) (by omega) (by omega), h2 97 (by omega) (by omega) (by omega) (by omega)]
  rw [h3 1 (by omega), h3 4 (by omega), h3 8 (by omega), h3 9 (by omega), h3 18 (by omega), h3 21 (by omega), h3 22 (by omega), h3 30 (by omega)]
  exact h
