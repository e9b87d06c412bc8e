/-! ENGINE 0: whole numbers for Java's ints. An abstract int is an Int; it stands for Int32.ofInt of it. -/
abbrev rg (a : Int) : Prop := -2147483648 ≤ a ∧ a ≤ 2147483647
theorem oI_toInt {a : Int} (h : rg a) : (Int32.ofInt a).toInt = a := Int32.toInt_ofInt_of_le (by have := h.1; omega) (by have := h.2; omega)
theorem oI_rg (x : Int32) : rg x.toInt := by
  have h1 := x.le_toInt
  have h2 := x.toInt_lt
  constructor <;> omega
theorem oI_lt {a b : Int} (ha : rg a) (hb : rg b) : Int32.ofInt a < Int32.ofInt b ↔ a < b := by rw [Int32.lt_iff_toInt_lt, oI_toInt ha, oI_toInt hb]
theorem oI_le {a b : Int} (ha : rg a) (hb : rg b) : Int32.ofInt a ≤ Int32.ofInt b ↔ a ≤ b := by rw [Int32.le_iff_toInt_le, oI_toInt ha, oI_toInt hb]
theorem oI_eq {a b : Int} (ha : rg a) (hb : rg b) : Int32.ofInt a = Int32.ofInt b ↔ a = b := by rw [← Int32.toInt_inj, oI_toInt ha, oI_toInt hb]
theorem oI_add (a b : Int) : Int32.ofInt a + Int32.ofInt b = Int32.ofInt (a + b) := by
  rw [← Int32.toInt_inj, Int32.toInt_add]; simp
theorem oI_sub (a b : Int) : Int32.ofInt a - Int32.ofInt b = Int32.ofInt (a - b) := by
  rw [← Int32.toInt_inj, Int32.toInt_sub]; simp
theorem oI_mul (a b : Int) : Int32.ofInt a * Int32.ofInt b = Int32.ofInt (a * b) := by
  rw [← Int32.toInt_inj, Int32.toInt_mul]; simp
theorem oI_neg (a : Int) : - Int32.ofInt a = Int32.ofInt (-a) := by
  rw [← Int32.toInt_inj, Int32.toInt_neg]; simp
/-- what Java keeps of a number -/
def wr (a : Int) : Int := (Int32.ofInt a).toInt
theorem wr_of (a : Int) : Int32.ofInt (wr a) = Int32.ofInt a := Int32.ofInt_toInt _
theorem wr_rg (a : Int) : rg (wr a) := oI_rg _
theorem wr_id {a : Int} (h : rg a) : wr a = a := oI_toInt h
def xand (a b : Int) : Int := (Int32.ofInt a &&& Int32.ofInt b).toInt
def xor_ (a b : Int) : Int := (Int32.ofInt a ||| Int32.ofInt b).toInt
def xxor (a b : Int) : Int := (Int32.ofInt a ^^^ Int32.ofInt b).toInt
def xshl (a b : Int) : Int := (Int32.ofInt a <<< (Int32.ofInt b &&& 31)).toInt
def xshr (a b : Int) : Int := (Int32.ofInt a >>> (Int32.ofInt b &&& 31)).toInt
def xushr (a b : Int) : Int := (((Int32.ofInt a).toUInt32 >>> ((Int32.ofInt b).toUInt32 &&& Int32.toUInt32 31)).toInt32).toInt
def xdiv (a b : Int) : Int := (Int32.ofInt a / Int32.ofInt b).toInt
def xrem (a b : Int) : Int := (Int32.ofInt a - Int32.ofInt a / Int32.ofInt b * Int32.ofInt b).toInt
def xi2c (a : Int) : Int := (((Int32.ofInt a).toUInt32 % 65536).toInt32).toInt
def xabs (a : Int) : Int := if 0 ≤ a then a else 0 - a
theorem oI_in {i : Int} {n : Nat} (h0 : 0 ≤ i) (h1 : i < n) (hn : n < 2147483648) : vp_in (Int32.ofInt i) n := by
  rw [vp_in_iff, oI_toInt ⟨by omega, by omega⟩]
  exact ⟨h0, h1⟩
theorem oI_clamp {i : Int} (h0 : 0 ≤ i) (h1 : i < 2147483648) : (Int32.ofInt i).toNatClampNeg = i.toNat := by
  show ((Int32.ofInt i).toInt).toNat = i.toNat
  rw [oI_toInt ⟨by omega, by omega⟩]
theorem oI_zero : (Int32.ofInt 0) = 0 := rfl
/-! the abstract world: cells by number, each a row of whole numbers; references are fixed by the layout -/
abbrev Vl : Type := Int ⊕ Nat
abbrev Sto : Type := Nat → Int → Int
abbrev Sh : Type := (Nat × Bool) ⊕ (Nat × List (Option Nat))
abbrev iv (a : Int) : Option Vl := some (.inl a)
abbrev rv (c : Nat) : Option Vl := some (.inr c)
def cV (ad : Nat → Nat) (v : Vl) : Value := match v with
  | .inl a => .int (Int32.ofInt a)
  | .inr c => .ref (ad c)
theorem cV_cat (ad : Nat → Nat) (v : Vl) : (cV ad v).category = 1 := by cases v <;> rfl
def fV (ad : Nat → Nat) (s : Sto) (c k : Nat) (f : Option Nat) : Value := match f with
  | none => .int (Int32.ofInt (s c k))
  | some j => .ref (ad j)
def wE (cI cZ : ClassId) (ad : Nat → Nat) (s : Sto) (c : Nat) (h : Sh) : va_E := match h with
  | .inl q => .inl (if q.2 = true then cZ else cI, q.1, .inl (fun j => Int32.ofInt (s c j)))
  | .inr q => .inr (q.1, q.2.mapIdx (fun k f => fV ad s c k f))
def wld (ly : List Sh) (cI cZ : ClassId) (ad : Nat → Nat) (s : Sto) : va_W := ly.mapIdx (fun c h => (ad c, wE cI cZ ad s c h))
theorem wld_at {ly : List Sh} {cI cZ : ClassId} {ad : Nat → Nat} {s : Sto} {c : Nat} {h : Sh} (e : ly[c]? = some h) : (wld ly cI cZ ad s)[c]? = some (ad c, wE cI cZ ad s c h) := by
  simp [wld, e]
theorem wld_of {ly : List Sh} {cI cZ : ClassId} {ad : Nat → Nat} {s : Sto} {c : Nat} {q : Nat × va_E} (e : (wld ly cI cZ ad s)[c]? = some q) : ∃ h, ly[c]? = some h ∧ q = (ad c, wE cI cZ ad s c h) := by
  simp only [wld, List.getElem?_mapIdx, Option.map_eq_some_iff] at e
  obtain ⟨h, e1, e2⟩ := e
  exact ⟨h, e1, e2.symm⟩
/-- a number written into place i of cell c -/
def up (s : Sto) (c : Nat) (i v : Int) : Sto := fun c' i' => if c' = c ∧ i' = i then v else s c' i'
theorem up_at (s : Sto) (c : Nat) (i v : Int) : up s c i v c i = v := by simp [up]
theorem up_ne {s : Sto} {c c' : Nat} {i i' v : Int} (h : ¬ (c' = c ∧ i' = i)) : up s c i v c' i' = s c' i' := by simp only [up, if_neg h]
theorem up_c {s : Sto} {c c' : Nat} {i v : Int} (h : ¬ c' = c) : up s c i v c' = s c' := by
  funext i'; exact up_ne (fun q => h q.1)
/-- a stretch copied -/
def cpy (s : Sto) (src dst : Nat) (sp dp n : Int) : Sto := fun c i => if c = dst ∧ dp ≤ i ∧ i < dp + n then s src (sp + (i - dp)) else s c i
theorem wE_out {cI cZ : ClassId} {ad : Nat → Nat} {s s' : Sto} {c : Nat} {h : Sh} (e : s' c = s c) : wE cI cZ ad s' c h = wE cI cZ ad s c h := by
  cases h with
  | inl q => simp [wE, e]
  | inr q =>
    have : (fun (k : Nat) f => fV ad s' c k f) = (fun (k : Nat) f => fV ad s c k f) := by
      funext k f
      cases f <;> simp [fV, e]
    simp [wE, this]
theorem wld_set {ly : List Sh} {cI cZ : ClassId} {ad : Nat → Nat} {s s' : Sto} {c : Nat} {h : Sh} (e : ly[c]? = some h) (ho : ∀ c', c' ≠ c → s' c' = s c') {E : va_E} (hE : wE cI cZ ad s' c h = E) : (wld ly cI cZ ad s).set c (ad c, E) = wld ly cI cZ ad s' := by
  apply List.ext_getElem?
  intro k
  have hl : c < ly.length := (List.getElem?_eq_some_iff.mp e).1
  by_cases hk : c = k
  · subst hk
    rw [List.getElem?_set_self (by simpa [wld] using hl), wld_at e, hE]
  · rw [List.getElem?_set_ne hk]
    simp only [wld, List.getElem?_mapIdx]
    cases ly[k]? with
    | none => rfl
    | some x => simp [wE_out (ho k (Ne.symm hk))]
/-- addresses apart, and in A -/
def adOk (A : Nat → Prop) (ad : Nat → Nat) (ly : List Sh) : Prop := (∀ i j : Nat, i < ly.length → j < ly.length → ad i = ad j → i = j) ∧ ∀ i : Nat, i < ly.length → A (ad i)
theorem wld_D {A : Nat → Prop} {ad : Nat → Nat} {ly : List Sh} {cI cZ : ClassId} {s : Sto} (h : adOk A ad ly) : va_D A (wld ly cI cZ ad s) := by
  refine ⟨fun i j x y hi hj hxy => ?_, fun k q hk => ?_⟩
  · obtain ⟨h1, e1, rfl⟩ := wld_of hi
    obtain ⟨h2, e2, rfl⟩ := wld_of hj
    exact h.1 i j (List.getElem?_eq_some_iff.mp e1).1 (List.getElem?_eq_some_iff.mp e2).1 hxy
  · obtain ⟨h1, e1, rfl⟩ := wld_of hk
    exact h.2 k (List.getElem?_eq_some_iff.mp e1).1
/-- which cells may change: the world's, and new ones -/
def A1 (ly : List Sh) (ad : Nat → Nat) (sz : Nat) : Nat → Prop := fun q => (∃ k : Nat, k < ly.length ∧ q = ad k) ∨ sz ≤ q
/-- the locals: what is known of them -/
def lh (ad : Nat → Nat) (ls : Array Slot) (nL : Nat) (L : List (Option Vl)) : Prop := ls.size = nL ∧ lv_wf ls ∧ ∀ (i : Nat) (v : Vl), L[i]? = some (some v) → ls[i]? = some (.val (cV ad v))
def lvL (ad : Nat → Nat) (L : List (Option Vl)) : List (Nat × Value) := (L.mapIdx (fun i o => o.map (fun v => (i, cV ad v)))).filterMap id
theorem lvL_mem {ad : Nat → Nat} {L : List (Option Vl)} {q : Nat × Value} : q ∈ lvL ad L ↔ ∃ v, L[q.1]? = some (some v) ∧ q.2 = cV ad v := by
  simp only [lvL, List.mem_filterMap, List.mem_mapIdx, id]
  constructor
  · rintro ⟨o, ⟨i, hi, rfl⟩, h⟩
    cases hL : L[i] with
    | none => rw [hL] at h; cases h
    | some v =>
      rw [hL] at h
      cases h
      exact ⟨v, by simp [hi, hL], rfl⟩
  · rintro ⟨v, h1, h2⟩
    obtain ⟨hi, h3⟩ := List.getElem?_eq_some_iff.mp h1
    refine ⟨some q, ⟨q.1, hi, ?_⟩, rfl⟩
    rw [h3]
    simp [← h2]
theorem lh_has {ad : Nat → Nat} {ls : Array Slot} {nL : Nat} {L : List (Option Vl)} (h : lh ad ls nL L) : lv_has ls nL (lvL ad L) := by
  refine ⟨h.1, h.2.1, fun q hq => ?_⟩
  obtain ⟨v, h1, h2⟩ := lvL_mem.mp hq
  rw [h2]
  exact h.2.2 _ _ h1
theorem lh_set {ad : Nat → Nat} {ls : Array Slot} {nL i : Nat} {L : List (Option Vl)} {v : Vl} (h : lv_has ls nL ((i, cV ad v) :: (lvL ad L).filter (fun q => !(q.1 == i) && !(q.1 + 1 == i && q.2.category == 2)))) : lh ad ls nL (L.set i (some v)) := by
  refine ⟨h.1, h.2.1, fun j w hj => ?_⟩
  by_cases hji : i = j
  · subst hji
    by_cases hl : i < L.length
    · rw [List.getElem?_set_self hl] at hj
      cases hj
      exact h.2.2 (i, cV ad v) List.mem_cons_self
    · rw [List.getElem?_eq_none (by simpa using hl)] at hj
      cases hj
  · rw [List.getElem?_set_ne hji] at hj
    refine h.2.2 (j, cV ad w) (List.mem_cons_of_mem _ (List.mem_filter.mpr ⟨lvL_mem.mpr ⟨w, hj, rfl⟩, ?_⟩))
    simp [Ne.symm hji, cV_cat]
theorem lh_entry {ad : Nat → Nat} {args : List Vl} {n : Nat} (h : args.length ≤ n) : lh ad ((lg_sl (args.map (cV ad)) ++ List.replicate (n - (lg_sl (args.map (cV ad))).length) Slot.unset).toArray) n (args.map some) := by
  have h0 : ∀ l : List Vl, lg_sl (l.map (cV ad)) = l.map (fun v => Slot.val (cV ad v)) := by
    intro l
    induction l with
    | nil => rfl
    | cons v l ih =>
      show (if (cV ad v).category = 2 then _ else _) ++ lg_sl (l.map (cV ad)) = _
      rw [if_neg (by rw [cV_cat]; decide), ih]
      rfl
  have h1 := lv_entry (args.map (cV ad)) (n := n) (by rw [h0]; simpa using h)
  refine ⟨h1.1, h1.2.1, fun i v hi => ?_⟩
  rw [h0]
  rw [List.getElem?_map] at hi
  have hi2 : args[i]? = some v := by
    cases hq : args[i]? with
    | none => rw [hq] at hi; cases hi
    | some w => rw [hq] at hi; cases hi; rfl
  have hl : i < args.length := (List.getElem?_eq_some_iff.mp hi2).1
  rw [List.getElem?_toArray, List.getElem?_append_left (by simpa using hl), List.getElem?_map, hi2]
  rfl
theorem lh_none {ad : Nat → Nat} {ls : Array Slot} {nL k : Nat} {L : List (Option Vl)} (h : lh ad ls nL L) : lh ad ls nL (L ++ List.replicate k none) := by
  refine ⟨h.1, h.2.1, fun i v hi => h.2.2 i v ?_⟩
  by_cases hl : i < L.length
  · rw [List.getElem?_append_left hl] at hi; exact hi
  · rw [List.getElem?_append_right (by omega)] at hi
    have := List.mem_of_getElem? hi
    rw [List.mem_replicate] at this
    cases this.2
