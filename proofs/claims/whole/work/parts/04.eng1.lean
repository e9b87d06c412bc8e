/-! ENGINE 1: the judgement G, and a row an instruction -/
def tb : List Cond := lw_tbl.filter goodWord
theorem tb_good : GoodIn tb tb := fun w hw => ⟨hw, good_of_word (List.mem_filter.mp hw).2⟩
/-- the static arrays by their cells 500 .. 502 -/
def stA (c : Nat) (j : Int) : Int := if c = 501 then (if j = 5 then 99 else if j = 0 ∨ j = 1 ∨ j = 6 then 2 else 99) else if c = 500 then (if j = 5 then 1 else 0) else (if 2 ≤ j ∧ j ≤ 5 then 1 else 0)
def txWords : String := "may bar when or and not letters first last like abroad twice age coin sex worth "
def txSigns : String := ";+-*/()<=>"
def byWords : List Int32 := [109, 97, 121, 32, 98, 97, 114, 32, 119, 104, 101, 110, 32, 111, 114, 32, 97, 110, 100, 32, 110, 111, 116, 32, 108, 101, 116, 116, 101, 114, 115, 32, 102, 105, 114, 115, 116, 32, 108, 97, 115, 116, 32, 108, 105, 107, 101, 32, 97, 98, 114, 111, 97, 100, 32, 116, 119, 105, 99, 101, 32, 97, 103, 101, 32, 99, 111, 105, 110, 32, 115, 101, 120, 32, 119, 111, 114, 116, 104, 32]
def bySigns : List Int32 := [59, 43, 45, 42, 47, 40, 41, 60, 61, 62]
/-- what the Statement gives of statics and texts, outside of A -/
def Stat (A : Nat → Prop) (ad : Nat → Nat) (U : State) (H : Heap) : Prop :=
  (va_Z "ByAlphabet" "LEAST_SETTING" "[I" (.ref (ad 500)) A U H ∧ va_T .int (ad 500) 7 (fun j => .int (Int32.ofInt (stA 500 j))) A U H) ∧
  (va_Z "ByAlphabet" "GREATEST_SETTING" "[I" (.ref (ad 501)) A U H ∧ va_T .int (ad 501) 7 (fun j => .int (Int32.ofInt (stA 501 j))) A U H) ∧
  (va_Z "ByAlphabet" "FIRST_SETTING" "[I" (.ref (ad 502)) A U H ∧ va_T .int (ad 502) 7 (fun j => .int (Int32.ofInt (stA 502 j))) A U H) ∧
  va_Nw (.fieldLinkNest "ByAlphabet$Land" 85 "ByAlphabet" "FIRST_SETTING" "[I" "ByAlphabet") U ∧
  vk_R "ByAlphabet$Reader" 84 txSigns (ad 503) U ∧ vk_R "ByAlphabet$Reader" 92 txWords (ad 504) U ∧
  vk_S 2 [10, 80] [bySigns, byWords] (fun i => ad (503 + i)) (fun i => ad (505 + i)) A U H ∧
  va_Z "java/lang/String" "COMPACT_STRINGS" "Z" (.int 1) A U H ∧ va_Zq "jdk/internal/util/Preconditions" "SIOOBE_FORMATTER" "Ljava/util/function/BiFunction;" A U H
theorem Stat.warm {A B : Nat → Prop} {ad : Nat → Nat} {s U : State} {H H1 : Heap} (h : Stat A ad s H) (hW : s.WarmedH U.vm) (hq : ∀ a : Nat, a < H.size → ¬ A a → H1[a]? = H[a]?) (hAB : ∀ q, B q → A q) : Stat B ad U H1 := by
  obtain ⟨⟨a1, a2⟩, ⟨b1, b2⟩, ⟨c1, c2⟩, n, r1, r2, k, z, zq⟩ := h
  have hv := hW.alike
  exact ⟨⟨((va_Z.moved hv a1).kept hq).narrow hAB, ((va_T.moved hv a2).kept hq).narrow hAB⟩, ⟨((va_Z.moved hv b1).kept hq).narrow hAB, ((va_T.moved hv b2).kept hq).narrow hAB⟩, ⟨((va_Z.moved hv c1).kept hq).narrow hAB, ((va_T.moved hv c2).kept hq).narrow hAB⟩, va_Nw.warmF hW n, r1.warm hW, r2.warm hW, ((vk_S.moved hv k).kept hq).narrow hAB, ((va_Z.moved hv z).kept hq).narrow hAB, ((va_Zq.moved hv zq).kept hq).narrow hAB⟩
theorem Stat.same {A : Nat → Prop} {ad : Nat → Nat} {s U : State} {H : Heap} (h : Stat A ad s H) (hv : U.vm = s.vm) : Stat A ad U H := by
  obtain ⟨⟨a1, a2⟩, ⟨b1, b2⟩, ⟨c1, c2⟩, n, r1, r2, k, z, zq⟩ := h
  have ha : s.vm.Alike U.vm := by rw [hv]; exact Vm.Alike.refl _
  exact ⟨⟨va_Z.moved ha a1, va_T.moved ha a2⟩, ⟨va_Z.moved ha b1, va_T.moved ha b2⟩, ⟨va_Z.moved ha c1, va_T.moved ha c2⟩, va_tabs rfl hv.symm n, r1.same hv, r2.same hv, vk_S.moved ha k, va_Z.moved ha z, va_Zq.moved ha zq⟩
abbrev Cx : Type := Program × Launch × Env × Room × State × MethodId × Array Value × List Frame × Method × Code × (State → Prop) × Nat × Nat × Nat × (Nat → Prop) × va_G × (Nat → Nat) × ClassId × ClassId
def G (ly : List Sh) (X : Cx) (pc : Nat) (L : List (Option Vl)) (K : List Vl) (s : Sto) : Prop := match X with
  | (p, l, e, R, s0, m, args, below, meth, c, Q, cells, slots, nL, A, D, ad, cI, cZ) =>
    ∀ (H : Heap) (locs : List Loc) (ls : Array Slot), va_P D vwCl (wld ly cI cZ ad s) H → va_S A s0.heap H locs → lh ad ls nL L → W p l e R s0 m args below meth c H locs cells slots Q (F0 m pc ls (K.map (cV ad)))
abbrev tyl (cI cZ : ClassId) : List (ClassId × FieldType) := [(cI, .int), (cZ, .boolean)]
/-- what holds all along a method's walk -/
def Ok (ly : List Sh) (X : Cx) (own : String) (cc : ByteArray) (n d : Nat) : Prop := match X with
  | (p, l, e, R, s0, m, args, below, meth, c, Q, cells, slots, nL, A, D, ad, cI, cZ) =>
    p.tables.exec = Jvm.exec ∧ c.code = cc ∧ (c.maxLocals = nL ∧ nL = n) ∧ s0.vm.findClass own = some m.cls ∧ (∀ w ∈ tb, w.before args s0 = true) ∧ va_K D vwCl (tyl cI cZ) s0 ∧ adOk A ad ly ∧ (∀ q : Nat, s0.heap.size ≤ q → A q) ∧ (cells ≤ R.cells ∧ slots ≤ R.slots) ∧ (d ≤ R.frames ∧ 60 * d ≤ R.locals) ∧ Stat A ad s0 s0.heap
section ROWS
variable {ly : List Sh} {X : Cx} {own : String} {cc : ByteArray} {n d pc : Nat} {L L' : List (Option Vl)} {K : List Vl} {s : Sto}
theorem G_weak {L2 : List (Option Vl)} (h : ∀ (i : Nat) (v : Vl), L2[i]? = some (some v) → L[i]? = some (some v)) (k : G ly X pc L2 K s) : G ly X pc L K s := by
  obtain ⟨p, l, e, R, s0, m, args, below, meth, c, Q, cells, slots, nL, A, D, ad, cI, cZ⟩ := X
  intro H locs ls hP hS hl
  exact k H locs ls hP hS ⟨hl.1, hl.2.1, fun i v hi => hl.2.2 i v (h i v hi)⟩
theorem G_iconst (C : Ok ly X own cc n d) {z : Int} (hd : decode cc pc = .ok (.iconst z, 1)) (k : G ly X (pc + 1) L (.inl z :: K) s) : G ly X pc L K s := by
  obtain ⟨p, l, e, R, s0, m, args, below, meth, c, Q, cells, slots, nL, A, D, ad, cI, cZ⟩ := X
  intro H locs ls hP hS hl
  exact lv_iconst C.1 C.2.1 hd rfl (k H locs ls hP hS hl)
theorem G_bipush (C : Ok ly X own cc n d) {z : Int} (hd : decode cc pc = .ok (.bipush z, 2)) (hz : (Int8.ofInt z).toInt32 = Int32.ofInt z) (k : G ly X (pc + 2) L (.inl z :: K) s) : G ly X pc L K s := by
  obtain ⟨p, l, e, R, s0, m, args, below, meth, c, Q, cells, slots, nL, A, D, ad, cI, cZ⟩ := X
  intro H locs ls hP hS hl
  exact lv_bipush C.1 C.2.1 hd hz (k H locs ls hP hS hl)
theorem G_sipush (C : Ok ly X own cc n d) {z : Int} (hd : decode cc pc = .ok (.sipush z, 3)) (hz : (Int16.ofInt z).toInt32 = Int32.ofInt z) (k : G ly X (pc + 3) L (.inl z :: K) s) : G ly X pc L K s := by
  obtain ⟨p, l, e, R, s0, m, args, below, meth, c, Q, cells, slots, nL, A, D, ad, cI, cZ⟩ := X
  intro H locs ls hP hS hl
  exact lv_sipush C.1 C.2.1 hd hz (k H locs ls hP hS hl)
theorem G_ldc (C : Ok ly X own cc n d) {z : Int} {ix : Nat} {v : Int32} (hw : Cond.constant own ix v ∈ tb) (hz : v = Int32.ofInt z) (hd : decode cc pc = .ok (.ldc ix, 2)) (k : G ly X (pc + 2) L (.inl z :: K) s) : G ly X pc L K s := by
  obtain ⟨p, l, e, R, s0, m, args, below, meth, c, Q, cells, slots, nL, A, D, ad, cI, cZ⟩ := X
  intro H locs ls hP hS hl
  have k2 := k H locs ls hP hS hl
  subst hz
  exact lv_ldc C.1 C.2.1 C.2.2.2.1 (C.2.2.2.2.1 _ hw) hd k2
theorem G_ldcw (C : Ok ly X own cc n d) {z : Int} {ix : Nat} {v : Int32} (hw : Cond.constant own ix v ∈ tb) (hz : v = Int32.ofInt z) (hd : decode cc pc = .ok (.ldc_w ix, 3)) (k : G ly X (pc + 3) L (.inl z :: K) s) : G ly X pc L K s := by
  obtain ⟨p, l, e, R, s0, m, args, below, meth, c, Q, cells, slots, nL, A, D, ad, cI, cZ⟩ := X
  intro H locs ls hP hS hl
  have k2 := k H locs ls hP hS hl
  subst hz
  exact lv_ldcw C.1 C.2.1 C.2.2.2.1 (C.2.2.2.2.1 _ hw) hd k2
theorem G_iload_n (C : Ok ly X own cc n d) {i : Fin 4} {a : Int} (hd : decode cc pc = .ok (.iload_n i, 1)) (hL : L[(i : Nat)]? = some (iv a)) (k : G ly X (pc + 1) L (.inl a :: K) s) : G ly X pc L K s := by
  obtain ⟨p, l, e, R, s0, m, args, below, meth, c, Q, cells, slots, nL, A, D, ad, cI, cZ⟩ := X
  intro H locs ls hP hS hl
  exact lv_iload_n C.1 C.2.1 hd rfl (hl.2.2 _ _ hL) (k H locs ls hP hS hl)
theorem G_iload (C : Ok ly X own cc n d) {i : Nat} {a : Int} (hd : decode cc pc = .ok (.iload i, 2)) (hL : L[i]? = some (iv a)) (k : G ly X (pc + 2) L (.inl a :: K) s) : G ly X pc L K s := by
  obtain ⟨p, l, e, R, s0, m, args, below, meth, c, Q, cells, slots, nL, A, D, ad, cI, cZ⟩ := X
  intro H locs ls hP hS hl
  exact lv_iload C.1 C.2.1 hd (hl.2.2 _ _ hL) (k H locs ls hP hS hl)
theorem G_aload_n (C : Ok ly X own cc n d) {i : Fin 4} {a : Nat} (hd : decode cc pc = .ok (.aload_n i, 1)) (hL : L[(i : Nat)]? = some (rv a)) (k : G ly X (pc + 1) L (.inr a :: K) s) : G ly X pc L K s := by
  obtain ⟨p, l, e, R, s0, m, args, below, meth, c, Q, cells, slots, nL, A, D, ad, cI, cZ⟩ := X
  intro H locs ls hP hS hl
  exact lv_aload_n C.1 C.2.1 hd rfl (hl.2.2 _ _ hL) (k H locs ls hP hS hl)
theorem G_aload (C : Ok ly X own cc n d) {i : Nat} {a : Nat} (hd : decode cc pc = .ok (.aload i, 2)) (hL : L[i]? = some (rv a)) (k : G ly X (pc + 2) L (.inr a :: K) s) : G ly X pc L K s := by
  obtain ⟨p, l, e, R, s0, m, args, below, meth, c, Q, cells, slots, nL, A, D, ad, cI, cZ⟩ := X
  intro H locs ls hP hS hl
  exact lv_aload C.1 C.2.1 hd (hl.2.2 _ _ hL) (k H locs ls hP hS hl)
theorem G_istore_n (C : Ok ly X own cc n d) {i : Fin 4} {a : Int} (hd : decode cc pc = .ok (.istore_n i, 1)) (hn : (i : Nat) < n) (hL : L.set i (iv a) = L') (k : G ly X (pc + 1) L' K s) : G ly X pc L (.inl a :: K) s := by
  obtain ⟨p, l, e, R, s0, m, args, below, meth, c, Q, cells, slots, nL, A, D, ad, cI, cZ⟩ := X
  intro H locs ls hP hS hl
  subst hL
  exact lv_istore_n C.1 C.2.1 hd rfl (lh_has hl) (by rw [C.2.2.1.2]; exact hn) rfl (fun ls' h' => k H locs ls' hP hS (lh_set (v := .inl a) h'))
theorem G_istore (C : Ok ly X own cc n d) {i : Nat} {a : Int} (hd : decode cc pc = .ok (.istore i, 2)) (hn : i < n) (hL : L.set i (iv a) = L') (k : G ly X (pc + 2) L' K s) : G ly X pc L (.inl a :: K) s := by
  obtain ⟨p, l, e, R, s0, m, args, below, meth, c, Q, cells, slots, nL, A, D, ad, cI, cZ⟩ := X
  intro H locs ls hP hS hl
  subst hL
  exact lv_istore C.1 C.2.1 hd (lh_has hl) (by rw [C.2.2.1.2]; exact hn) rfl (fun ls' h' => k H locs ls' hP hS (lh_set (v := .inl a) h'))
theorem G_astore_n (C : Ok ly X own cc n d) {i : Fin 4} {a : Nat} (hd : decode cc pc = .ok (.astore_n i, 1)) (hn : (i : Nat) < n) (hL : L.set i (rv a) = L') (k : G ly X (pc + 1) L' K s) : G ly X pc L (.inr a :: K) s := by
  obtain ⟨p, l, e, R, s0, m, args, below, meth, c, Q, cells, slots, nL, A, D, ad, cI, cZ⟩ := X
  intro H locs ls hP hS hl
  subst hL
  exact lv_astore_n C.1 C.2.1 hd rfl (lh_has hl) (by rw [C.2.2.1.2]; exact hn) rfl (fun ls' h' => k H locs ls' hP hS (lh_set (v := .inr a) h'))
theorem G_iinc (C : Ok ly X own cc n d) {i : Nat} {a z : Int} (hd : decode cc pc = .ok (.iinc i z, 3)) (hn : i < n) (hi : L[i]? = some (iv a)) (hL : L.set i (iv (a + z)) = L') (k : G ly X (pc + 3) L' K s) : G ly X pc L K s := by
  obtain ⟨p, l, e, R, s0, m, args, below, meth, c, Q, cells, slots, nL, A, D, ad, cI, cZ⟩ := X
  intro H locs ls hP hS hl
  subst hL
  have hm : (i, cV ad (.inl a)) ∈ lvL ad L := lvL_mem.mpr ⟨.inl a, hi, rfl⟩
  obtain ⟨k0, hk0⟩ := List.getElem?_of_mem hm
  exact lv_iinc C.1 C.2.1 hd (lh_has hl) (k := k0) (x := Int32.ofInt a) hk0 (oI_add a z) (by rw [C.2.2.1.2]; exact hn) rfl (fun ls' h' => k H locs ls' hP hS (lh_set (v := .inl (a + z)) h'))
theorem G_iadd (C : Ok ly X own cc n d) {a b : Int} (hd : decode cc pc = .ok (.iadd, 1)) (k : G ly X (pc + 1) L (.inl (a + b) :: K) s) : G ly X pc L (.inl b :: .inl a :: K) s := by
  obtain ⟨p, l, e, R, s0, m, args, below, meth, c, Q, cells, slots, nL, A, D, ad, cI, cZ⟩ := X
  intro H locs ls hP hS hl
  refine lv_iadd C.1 C.2.1 hd ?_
  rw [oI_add]
  exact k H locs ls hP hS hl
theorem G_isub (C : Ok ly X own cc n d) {a b : Int} (hd : decode cc pc = .ok (.isub, 1)) (k : G ly X (pc + 1) L (.inl (a - b) :: K) s) : G ly X pc L (.inl b :: .inl a :: K) s := by
  obtain ⟨p, l, e, R, s0, m, args, below, meth, c, Q, cells, slots, nL, A, D, ad, cI, cZ⟩ := X
  intro H locs ls hP hS hl
  refine lv_isub C.1 C.2.1 hd ?_
  rw [oI_sub]
  exact k H locs ls hP hS hl
theorem G_imul (C : Ok ly X own cc n d) {a b : Int} (hd : decode cc pc = .ok (.imul, 1)) (k : G ly X (pc + 1) L (.inl (a * b) :: K) s) : G ly X pc L (.inl b :: .inl a :: K) s := by
  obtain ⟨p, l, e, R, s0, m, args, below, meth, c, Q, cells, slots, nL, A, D, ad, cI, cZ⟩ := X
  intro H locs ls hP hS hl
  refine lv_imul C.1 C.2.1 hd ?_
  rw [oI_mul]
  exact k H locs ls hP hS hl
theorem G_ineg (C : Ok ly X own cc n d) {a : Int} (hd : decode cc pc = .ok (.ineg, 1)) (k : G ly X (pc + 1) L (.inl (-a) :: K) s) : G ly X pc L (.inl a :: K) s := by
  obtain ⟨p, l, e, R, s0, m, args, below, meth, c, Q, cells, slots, nL, A, D, ad, cI, cZ⟩ := X
  intro H locs ls hP hS hl
  refine lv_ineg C.1 C.2.1 hd ?_
  have := k H locs ls hP hS hl
  first | (rw [oI_neg]; exact this) | (rw [show (0 : Int32) - Int32.ofInt a = Int32.ofInt (-a) from by rw [← oI_neg]; simp]; exact this)
/-- another name for the same int on top -/
theorem G_top {a b : Int} (h : Int32.ofInt a = Int32.ofInt b) (k : G ly X pc L (.inl b :: K) s) : G ly X pc L (.inl a :: K) s := by
  obtain ⟨p, l, e, R, s0, m, args, below, meth, c, Q, cells, slots, nL, A, D, ad, cI, cZ⟩ := X
  intro H locs ls hP hS hl
  have := k H locs ls hP hS hl
  simp only [List.map_cons, cV, h] at this ⊢
  exact this
theorem G_wr {a : Int} (k : G ly X pc L (.inl (wr a) :: K) s) : G ly X pc L (.inl a :: K) s := G_top (wr_of a).symm k
theorem G_iand (C : Ok ly X own cc n d) {a b : Int} (hd : decode cc pc = .ok (.iand, 1)) (k : G ly X (pc + 1) L (.inl (xand a b) :: K) s) : G ly X pc L (.inl b :: .inl a :: K) s := by
  obtain ⟨p, l, e, R, s0, m, args, below, meth, c, Q, cells, slots, nL, A, D, ad, cI, cZ⟩ := X
  intro H locs ls hP hS hl
  refine lv_iand C.1 C.2.1 hd ?_
  rw [show Int32.ofInt a &&& Int32.ofInt b = Int32.ofInt (xand a b) from (Int32.ofInt_toInt _).symm]
  exact k H locs ls hP hS hl
theorem G_ior (C : Ok ly X own cc n d) {a b : Int} (hd : decode cc pc = .ok (.ior, 1)) (k : G ly X (pc + 1) L (.inl (xor_ a b) :: K) s) : G ly X pc L (.inl b :: .inl a :: K) s := by
  obtain ⟨p, l, e, R, s0, m, args, below, meth, c, Q, cells, slots, nL, A, D, ad, cI, cZ⟩ := X
  intro H locs ls hP hS hl
  refine lv_ior C.1 C.2.1 hd ?_
  rw [show Int32.ofInt a ||| Int32.ofInt b = Int32.ofInt (xor_ a b) from (Int32.ofInt_toInt _).symm]
  exact k H locs ls hP hS hl
theorem G_ixor (C : Ok ly X own cc n d) {a b : Int} (hd : decode cc pc = .ok (.ixor, 1)) (k : G ly X (pc + 1) L (.inl (xxor a b) :: K) s) : G ly X pc L (.inl b :: .inl a :: K) s := by
  obtain ⟨p, l, e, R, s0, m, args, below, meth, c, Q, cells, slots, nL, A, D, ad, cI, cZ⟩ := X
  intro H locs ls hP hS hl
  refine lv_ixor C.1 C.2.1 hd ?_
  rw [show Int32.ofInt a ^^^ Int32.ofInt b = Int32.ofInt (xxor a b) from (Int32.ofInt_toInt _).symm]
  exact k H locs ls hP hS hl
theorem G_ishl (C : Ok ly X own cc n d) {a b : Int} (hd : decode cc pc = .ok (.ishl, 1)) (k : G ly X (pc + 1) L (.inl (xshl a b) :: K) s) : G ly X pc L (.inl b :: .inl a :: K) s := by
  obtain ⟨p, l, e, R, s0, m, args, below, meth, c, Q, cells, slots, nL, A, D, ad, cI, cZ⟩ := X
  intro H locs ls hP hS hl
  refine lv_ishl C.1 C.2.1 hd ?_
  rw [show Int32.ofInt a <<< (Int32.ofInt b &&& 31) = Int32.ofInt (xshl a b) from (Int32.ofInt_toInt _).symm]
  exact k H locs ls hP hS hl
theorem G_ishr (C : Ok ly X own cc n d) {a b : Int} (hd : decode cc pc = .ok (.ishr, 1)) (k : G ly X (pc + 1) L (.inl (xshr a b) :: K) s) : G ly X pc L (.inl b :: .inl a :: K) s := by
  obtain ⟨p, l, e, R, s0, m, args, below, meth, c, Q, cells, slots, nL, A, D, ad, cI, cZ⟩ := X
  intro H locs ls hP hS hl
  refine lv_ishr C.1 C.2.1 hd ?_
  rw [show Int32.ofInt a >>> (Int32.ofInt b &&& 31) = Int32.ofInt (xshr a b) from (Int32.ofInt_toInt _).symm]
  exact k H locs ls hP hS hl
theorem G_iushr (C : Ok ly X own cc n d) {a b : Int} (hd : decode cc pc = .ok (.iushr, 1)) (k : G ly X (pc + 1) L (.inl (xushr a b) :: K) s) : G ly X pc L (.inl b :: .inl a :: K) s := by
  obtain ⟨p, l, e, R, s0, m, args, below, meth, c, Q, cells, slots, nL, A, D, ad, cI, cZ⟩ := X
  intro H locs ls hP hS hl
  exact lv_iushr (v := Int32.ofInt (xushr a b)) C.1 C.2.1 hd (Int32.ofInt_toInt _).symm (k H locs ls hP hS hl)
theorem G_i2c (C : Ok ly X own cc n d) {a : Int} (hd : decode cc pc = .ok (.i2c, 1)) (k : G ly X (pc + 1) L (.inl (xi2c a) :: K) s) : G ly X pc L (.inl a :: K) s := by
  obtain ⟨p, l, e, R, s0, m, args, below, meth, c, Q, cells, slots, nL, A, D, ad, cI, cZ⟩ := X
  intro H locs ls hP hS hl
  exact lv_i2c (v := Int32.ofInt (xi2c a)) C.1 C.2.1 hd (Int32.ofInt_toInt _).symm (k H locs ls hP hS hl)
theorem G_idiv (C : Ok ly X own cc n d) {a b : Int} (hd : decode cc pc = .ok (.idiv, 1)) (h : rg b ∧ b ≠ 0) (k : G ly X (pc + 1) L (.inl (xdiv a b) :: K) s) : G ly X pc L (.inl b :: .inl a :: K) s := by
  obtain ⟨p, l, e, R, s0, m, args, below, meth, c, Q, cells, slots, nL, A, D, ad, cI, cZ⟩ := X
  intro H locs ls hP hS hl
  refine lv_idiv C.1 C.2.1 hd (fun q => h.2 ((oI_eq h.1 (by decide)).mp (q.trans oI_zero.symm))) ?_
  rw [show Int32.ofInt a / Int32.ofInt b = Int32.ofInt (xdiv a b) from (Int32.ofInt_toInt _).symm]
  exact k H locs ls hP hS hl
theorem G_irem (C : Ok ly X own cc n d) {a b : Int} (hd : decode cc pc = .ok (.irem, 1)) (h : rg b ∧ b ≠ 0) (k : G ly X (pc + 1) L (.inl (xrem a b) :: K) s) : G ly X pc L (.inl b :: .inl a :: K) s := by
  obtain ⟨p, l, e, R, s0, m, args, below, meth, c, Q, cells, slots, nL, A, D, ad, cI, cZ⟩ := X
  intro H locs ls hP hS hl
  refine lv_irem C.1 C.2.1 hd (fun q => h.2 ((oI_eq h.1 (by decide)).mp (q.trans oI_zero.symm))) ?_
  rw [show Int32.ofInt a - Int32.ofInt a / Int32.ofInt b * Int32.ofInt b = Int32.ofInt (xrem a b) from (Int32.ofInt_toInt _).symm]
  exact k H locs ls hP hS hl
theorem G_dup (C : Ok ly X own cc n d) {v : Vl} (hd : decode cc pc = .ok (.dup, 1)) (k : G ly X (pc + 1) L (v :: v :: K) s) : G ly X pc L (v :: K) s := by
  obtain ⟨p, l, e, R, s0, m, args, below, meth, c, Q, cells, slots, nL, A, D, ad, cI, cZ⟩ := X
  intro H locs ls hP hS hl
  exact lv_dup C.1 C.2.1 hd (cV_cat _ _) (k H locs ls hP hS hl)
theorem G_dup2 (C : Ok ly X own cc n d) {v w : Vl} (hd : decode cc pc = .ok (.dup2, 1)) (k : G ly X (pc + 1) L (v :: w :: v :: w :: K) s) : G ly X pc L (v :: w :: K) s := by
  obtain ⟨p, l, e, R, s0, m, args, below, meth, c, Q, cells, slots, nL, A, D, ad, cI, cZ⟩ := X
  intro H locs ls hP hS hl
  exact lv_dup2_11 C.1 C.2.1 hd (cV_cat _ _) (cV_cat _ _) (k H locs ls hP hS hl)
theorem G_pop (C : Ok ly X own cc n d) {v : Vl} (hd : decode cc pc = .ok (.pop, 1)) (k : G ly X (pc + 1) L K s) : G ly X pc L (v :: K) s := by
  obtain ⟨p, l, e, R, s0, m, args, below, meth, c, Q, cells, slots, nL, A, D, ad, cI, cZ⟩ := X
  intro H locs ls hP hS hl
  exact lv_pop C.1 C.2.1 hd (cV_cat _ _) (k H locs ls hP hS hl)
theorem G_goto (C : Ok ly X own cc n d) {off : Int} {tgt : Nat} (hd : decode cc pc = .ok (.goto off, 3)) (ht : (pc : Int) + off = (tgt : Int)) (k : G ly X tgt L K s) : G ly X pc L K s := by
  obtain ⟨p, l, e, R, s0, m, args, below, meth, c, Q, cells, slots, nL, A, D, ad, cI, cZ⟩ := X
  intro H locs ls hP hS hl
  exact lv_goto C.1 C.2.1 hd ht (k H locs ls hP hS hl)
end ROWS
