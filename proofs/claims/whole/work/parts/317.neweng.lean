/-! CONSTRUCTORS: a world that grows -/
abbrev Nx : Type := Program × Launch × Env × Room × State × MethodId × Array Value × List Frame × Method × Code × (State → Prop) × (Nat → Prop) × va_G × (Nat → Nat) × ClassId × ClassId
/-- the machine at pc in a constructor of the object at h0, with the cells ws, comes to its end -/
def NG (X : Nx) (h0 pc : Nat) (K : List Value) (ws : va_W) (cells slots : Nat) : Prop := match X with
  | (p, l, e, R, s0, m, args, below, meth, c, Q, A, D, ad, cI, cZ) => ∀ (H : Heap) (locs : List Loc) (ls : Array Slot), va_P D vwCl ws H → va_D A ws → va_S A s0.heap H locs → lv_has ls 1 [(0, .ref h0)] → W p l e R s0 m args below meth c H locs cells slots Q (F0 m pc ls K)
def NOk (X : Nx) (own : String) (cc : ByteArray) (d mc ms : Nat) : Prop := match X with
  | (p, l, e, R, s0, m, args, below, meth, c, Q, A, D, ad, cI, cZ) => p.tables.exec = Jvm.exec ∧ c.code = cc ∧ c.maxLocals = 1 ∧ s0.vm.findClass own = some m.cls ∧ (∀ w ∈ tb, w.before args s0 = true) ∧ va_K D vwCl (tyl cI cZ) s0 ∧ (∀ q : Nat, s0.heap.size ≤ q → A q) ∧ (mc ≤ R.cells ∧ ms ≤ R.slots) ∧ (d ≤ R.frames ∧ 60 * d ≤ R.locals) ∧ meth.name = "<init>" ∧ Stat A ad s0 s0.heap
def nI0 : Nat → Int32 := fun _ => 0
section NROWS
variable {X : Nx} {own : String} {cc : ByteArray} {d mc ms h0 pc : Nat} {K : List Value} {ws : va_W} {cells slots : Nat}
theorem N_this (C : NOk X own cc d mc ms) (hd : decode cc pc = .ok (.aload_n 0, 1)) (kk : NG X h0 (pc + 1) (.ref h0 :: K) ws cells slots) : NG X h0 pc K ws cells slots := by
  obtain ⟨p, l, e, R, s0, m, args, below, meth, c, Q, A, D, ad, cI, cZ⟩ := X
  intro H locs ls hP hD hS hl
  exact lv_aload_n C.1 C.2.1 hd rfl (lv_at hl 0 rfl) (kk H locs ls hP hD hS hl)
theorem N_iconst (C : NOk X own cc d mc ms) {z : Int} {v : Int32} (hv : v = Int32.ofInt z) (hd : decode cc pc = .ok (.iconst z, 1)) (kk : NG X h0 (pc + 1) (.int v :: K) ws cells slots) : NG X h0 pc K ws cells slots := by
  obtain ⟨p, l, e, R, s0, m, args, below, meth, c, Q, A, D, ad, cI, cZ⟩ := X
  intro H locs ls hP hD hS hl
  subst hv
  exact lv_iconst C.1 C.2.1 hd rfl (kk H locs ls hP hD hS hl)
theorem N_bipush (C : NOk X own cc d mc ms) {z : Int} {v : Int32} (hv : (Int8.ofInt z).toInt32 = v) (hd : decode cc pc = .ok (.bipush z, 2)) (kk : NG X h0 (pc + 2) (.int v :: K) ws cells slots) : NG X h0 pc K ws cells slots := by
  obtain ⟨p, l, e, R, s0, m, args, below, meth, c, Q, A, D, ad, cI, cZ⟩ := X
  intro H locs ls hP hD hS hl
  exact lv_bipush C.1 C.2.1 hd hv (kk H locs ls hP hD hS hl)
theorem N_sipush (C : NOk X own cc d mc ms) {z : Int} {v : Int32} (hv : (Int16.ofInt z).toInt32 = v) (hd : decode cc pc = .ok (.sipush z, 3)) (kk : NG X h0 (pc + 3) (.int v :: K) ws cells slots) : NG X h0 pc K ws cells slots := by
  obtain ⟨p, l, e, R, s0, m, args, below, meth, c, Q, A, D, ad, cI, cZ⟩ := X
  intro H locs ls hP hD hS hl
  exact lv_sipush C.1 C.2.1 hd hv (kk H locs ls hP hD hS hl)
theorem N_dup (C : NOk X own cc d mc ms) {v : Value} (hv : v.category = 1) (hd : decode cc pc = .ok (.dup, 1)) (kk : NG X h0 (pc + 1) (v :: v :: K) ws cells slots) : NG X h0 pc (v :: K) ws cells slots := by
  obtain ⟨p, l, e, R, s0, m, args, below, meth, c, Q, A, D, ad, cI, cZ⟩ := X
  intro H locs ls hP hD hS hl
  exact lv_dup C.1 C.2.1 hd hv (kk H locs ls hP hD hS hl)
theorem N_newI (C : NOk X own cc d mc ms) (hw : Cond.arrayClass .int ∈ tb) {N : Nat} {v : Int32} (hv : ¬ v < 0 ∧ v.toNatClampNeg = N) (hN : N ≤ 100000) (hc : cells + 1 ≤ mc ∧ slots + N ≤ ms) (hd : decode cc pc = .ok (.newarray .int, 2)) (kk : ∀ (q : Nat) (cI : ClassId), cI = X.2.2.2.2.2.2.2.2.2.2.2.2.2.2.1 → NG X h0 (pc + 2) (.ref q :: K) (ws ++ [(q, .inl (cI, N, .inl nI0))]) (cells + 1) (slots + N)) : NG X h0 pc (.int v :: K) ws cells slots := by
  obtain ⟨p, l, e, R, s0, m, args, below, meth, c, Q, A, D, ad, cI, cZ⟩ := X
  intro H locs ls hP hD hS hl
  have hcr := C.2.2.2.2.2.2.2.1
  refine va_newa (atype := .int) (ty := .int) (a0 := (N, .inl nI0)) C.1 C.2.1 (C.2.2.2.2.1 _ hw) rfl C.2.2.2.2.2.1 hP hD hS C.2.2.2.2.2.2.1 (fun cA => rfl) hv.1 hv.2 (by show N * 4 ≤ _; omega) (by omega) (by omega) hd (fun q cA H1 hK1 hP1 hD1 hS1 => ?_)
  have e1 : s0.vm.findClass ("[" ++ FieldType.int.toString) = some cA := (hK1.2 2 (cA, .int) rfl).2
  have e2 : s0.vm.findClass ("[" ++ FieldType.int.toString) = some cI := (C.2.2.2.2.2.1.2 0 (cI, .int) rfl).2
  have e3 : cA = cI := by
    rw [e1] at e2
    injection e2
  subst e3
  exact kk q cA rfl H1 locs ls hP1 hD1 hS1 hl
theorem N_newZ (C : NOk X own cc d mc ms) (hw : Cond.arrayClass .boolean ∈ tb) {N : Nat} {v : Int32} (hv : ¬ v < 0 ∧ v.toNatClampNeg = N) (hN : N ≤ 100000) (hc : cells + 1 ≤ mc ∧ slots + N ≤ ms) (hd : decode cc pc = .ok (.newarray .boolean, 2)) (kk : ∀ (q : Nat) (cZ : ClassId), cZ = X.2.2.2.2.2.2.2.2.2.2.2.2.2.2.2 → NG X h0 (pc + 2) (.ref q :: K) (ws ++ [(q, .inl (cZ, N, .inl nI0))]) (cells + 1) (slots + N)) : NG X h0 pc (.int v :: K) ws cells slots := by
  obtain ⟨p, l, e, R, s0, m, args, below, meth, c, Q, A, D, ad, cI, cZ⟩ := X
  intro H locs ls hP hD hS hl
  have hcr := C.2.2.2.2.2.2.2.1
  refine va_newa (atype := .boolean) (ty := .boolean) (a0 := (N, .inl nI0)) C.1 C.2.1 (C.2.2.2.2.1 _ hw) rfl C.2.2.2.2.2.1 hP hD hS C.2.2.2.2.2.2.1 (fun cA => rfl) hv.1 hv.2 (by show N * 1 ≤ _; omega) (by omega) (by omega) hd (fun q cA H1 hK1 hP1 hD1 hS1 => ?_)
  have e1 : s0.vm.findClass ("[" ++ FieldType.boolean.toString) = some cA := (hK1.2 2 (cA, .boolean) rfl).2
  have e2 : s0.vm.findClass ("[" ++ FieldType.boolean.toString) = some cZ := (C.2.2.2.2.2.1.2 1 (cZ, .boolean) rfl).2
  have e3 : cA = cZ := by
    rw [e1] at e2
    injection e2
  subst e3
  exact kk q cA rfl H1 locs ls hP1 hD1 hS1 hl
theorem N_putF (C : NOk X own cc d mc ms) {T : u_T} {N ci ix k q0 a : Nat} {fs : List Value} {v : Value} {ty : FieldType} (ty0 : Nat → FieldType) (hty : ∀ k, k < N → parseFieldDescriptor (T k).2.2.1 = some (ty0 k)) (hnm : ∀ a, a < N → ∀ b, b < N → a ≠ b → (T a).2.1 ≠ (T b).2.1) (hin : ∀ w ∈ u_ws own T N, w ∈ tb) (he : ws[q0]? = some (a, .inr (ci, fs))) (hc : vwCl[ci]? = some (own, T, N)) (hk : k < N) (hw : Cond.fieldLink own ix (T k).1 (T k).2.1 (T k).2.2.1 ∈ tb) (hfin : (T k).2.2.2 = true) (hdecl : (T k).1 = own) (hdt : parseFieldDescriptor (T k).2.2.1 = some ty) (hn : narrow ty v = v) (hfit : fits ty v = true) (hl0 : k < fs.length) (hd : decode cc pc = .ok (.putfield ix, 3)) (kk : NG X h0 (pc + 3) K (ws.set q0 (a, .inr (ci, fs.set k v))) cells slots) : NG X h0 pc (v :: .ref a :: K) ws cells slots := by
  obtain ⟨p, l, e, R, s0, m, args, below, meth, c, Q, A, D, ad, cI, cZ⟩ := X
  intro H locs ls hP hD hS hl
  exact va_putF C.1 C.2.1 C.2.2.2.2.1 hin ty0 hty hnm C.2.2.2.1 C.2.2.2.2.2.1 hP hD hS q0 he hc k hk (C.2.2.2.2.1 _ hw) (fun _ h => h) hfin C.2.2.2.2.2.2.2.2.2.1 hdecl hdt hn hfit hl0 hd (fun H1 locs1 hP1 hD1 hS1 => kk H1 locs1 ls hP1 hD1 hS1 hl)
theorem N_putI (C : NOk X own cc d mc ms) {T : u_T} {N ci ix k q0 a : Nat} {fs : List Value} {v : Value} {ty : FieldType} (ty0 : Nat → FieldType) (hty : ∀ k, k < N → parseFieldDescriptor (T k).2.2.1 = some (ty0 k)) (hnm : ∀ a, a < N → ∀ b, b < N → a ≠ b → (T a).2.1 ≠ (T b).2.1) (hin : ∀ w ∈ u_ws own T N, w ∈ tb) (he : ws[q0]? = some (a, .inr (ci, fs))) (hc : vwCl[ci]? = some (own, T, N)) (hk : k < N) (hw : Cond.fieldLink own ix (T k).1 (T k).2.1 (T k).2.2.1 ∈ tb) (hfin : (T k).2.2.2 = false) (hdt : parseFieldDescriptor (T k).2.2.1 = some ty) (hn : narrow ty v = v) (hfit : fits ty v = true) (hl0 : k < fs.length) (hd : decode cc pc = .ok (.putfield ix, 3)) (kk : NG X h0 (pc + 3) K (ws.set q0 (a, .inr (ci, fs.set k v))) cells slots) : NG X h0 pc (v :: .ref a :: K) ws cells slots := by
  obtain ⟨p, l, e, R, s0, m, args, below, meth, c, Q, A, D, ad, cI, cZ⟩ := X
  intro H locs ls hP hD hS hl
  exact va_put C.1 C.2.1 C.2.2.2.2.1 hin ty0 hty hnm C.2.2.2.1 C.2.2.2.2.2.1 hP hD hS q0 he hc k hk (C.2.2.2.2.1 _ hw) (fun _ h => h) hfin hdt hn hfit hl0 hd (fun H1 locs1 hP1 hD1 hS1 => kk H1 locs1 ls hP1 hD1 hS1 hl)
theorem N_obj (C : NOk X own cc d mc ms) {ix a : Nat} (hd1 : 1 ≤ d) (hw : Cond.methodLink own ix Lib.objectInit ∈ tb) (hw2 : Cond.instanceMethod Lib.objectInit ∈ tb ∧ Cond.code Lib.objectInit ⟨#[0xb1]⟩ 1 none ∈ tb) (hd : decode cc pc = .ok (.invokespecial ix, 3)) (kk : NG X h0 (pc + 3) [] ws cells slots) : NG X h0 pc [.ref a] ws cells slots := by
  obtain ⟨p, l, e, R, s0, m, args, below, meth, c, Q, A, D, ad, cI, cZ⟩ := X
  intro H locs ls hP hD hS hl
  have hr := C.2.2.2.2.2.2.2.2.1
  exact W.objInit C.1 C.2.1 C.2.2.2.1 (C.2.2.2.2.1 _ hw) (C.2.2.2.2.1 _ hw2.1) (C.2.2.2.2.1 _ hw2.2) rfl (by rw [C.2.2.1]; exact hl.1) rfl hd (by omega) (by show 2 * 0 + 0 + 12 ≤ R.locals; omega) (kk H locs ls hP hD hS hl)
theorem N_new (C : NOk X own cc d mc ms) {C1 : String} {T : u_T} {N ci ix : Nat} {fs : List Value} (ty : Nat → FieldType) (hty : ∀ k, k < N → parseFieldDescriptor (T k).2.2.1 = some (ty k)) (hin : ∀ w ∈ u_ws C1 T N, w ∈ tb) (hw : Cond.classLink own ix C1 ∈ tb) (hw2 : Cond.instantiable C1 N ∈ tb ∧ Cond.initialized C1 ∈ tb) (hc : vwCl[ci]? = some (C1, T, N)) (hfs : ∀ j, j < N → defaultValue (ty j) = vp_V fs j) (hm : cells + 1 ≤ mc ∧ slots + N ≤ ms) (hd : decode cc pc = .ok (.new ix, 3)) (kk : ∀ q : Nat, NG X h0 (pc + 3) (.ref q :: K) (ws ++ [(q, .inr (ci, fs))]) (cells + 1) (slots + N)) : NG X h0 pc K ws cells slots := by
  obtain ⟨p, l, e, R, s0, m, args, below, meth, c, Q, A, D, ad, cI, cZ⟩ := X
  intro H locs ls hP hD hS hl
  have hcr := C.2.2.2.2.2.2.2.1
  exact va_new C.1 C.2.1 C.2.2.2.2.1 hin ty hty C.2.2.2.1 (C.2.2.2.2.1 _ hw) (C.2.2.2.2.1 _ hw2.1) (C.2.2.2.2.1 _ hw2.2) C.2.2.2.2.2.1 hP hD hS C.2.2.2.2.2.2.1 hc hfs (by omega) (by omega) hd (fun q H1 hP1 hD1 hS1 => kk q H1 locs ls hP1 hD1 hS1 hl)
end NROWS
/-- a constructor: the object at h0 with the fields fs0 becomes the cells F, mc new ones of ms places -/
def NCl (d mc ms : Nat) (M : Mt) (ci : Nat) (fs0 : List Value) (F : ClassId → ClassId → Nat → List Nat → va_W) : Prop := ∀ (l : Launch) (D : va_G) (ad : Nat → Nat) (cI cZ : ClassId) (h0 sz : Nat), Met l M.1 (wM M) { frames := d, cells := mc, slots := ms, locals := 60 * d } (va_Pc [.ref h0] (fun U => U.heap.size = sz ∧ va_P D vwCl [(h0, .inr (ci, fs0))] U.heap ∧ va_K D vwCl (tyl cI cZ) U ∧ va_D (fun _ => True) [(h0, .inr (ci, fs0))] ∧ Stat (va_A [(h0, .inr (ci, fs0))] sz) ad U U.heap)) (va_Qv (fun _ : Unit => True) (fun _ t => ∃ qs : List Nat, va_P D vwCl (F cI cZ h0 qs) t.heap ∧ va_D (va_A [(h0, .inr (ci, fs0))] sz) (F cI cZ h0 qs)) (va_A [(h0, .inr (ci, fs0))] sz)) mc ms (va_A [(h0, .inr (ci, fs0))] sz)
theorem NCl.intro {d mc ms : Nat} {M : Mt} {ci : Nat} {fs0 : List Value} {F : ClassId → ClassId → Nat → List Nat → va_W} (hy : plainName M.1.cls = true) (hnm : M.1.name = "<init>") (hret : M.2.2.2 = none) (hlen : M.2.2.1 = 1) (body : ∀ (X : Nx) (h0 : Nat) (cI cZ : ClassId), cI = X.2.2.2.2.2.2.2.2.2.2.2.2.2.2.1 → cZ = X.2.2.2.2.2.2.2.2.2.2.2.2.2.2.2 → NOk X M.1.cls M.2.1 d mc ms → (∀ (pc cells slots : Nat) (qs : List Nat), decode M.2.1 pc = .ok (.return_, 1) → cells ≤ mc → slots ≤ ms → NG X h0 pc [] (F cI cZ h0 qs) cells slots) → NG X h0 0 [] [(h0, .inr (ci, fs0))] 0 0) : NCl d mc ms M ci fs0 F := by
  intro l D ad cI cZ h0 sz
  refine Met.ofW (cc := M.2.1) (maxL := M.2.2.1) (ret := M.2.2.2) hy rfl ?_
  intro p e s0 m args0 below meth c s₁ B hml hv
  obtain ⟨rfl, hsz, hP, hK, hD0, hSt⟩ := hv
  have hx := B.exec
  have hb := B.bytes
  have hr := B.returns
  have hts := atoms_spec (ws := wM M) B.pre
  have hown : s0.vm.findClass M.1.cls = some m.cls := findClass_of_methodNamed B.named
  have hin : meth.name = "<init>" := by rw [(name_of_methodNamed B.named B.method).1]; exact hnm
  subst hsz
  have hD := hD0.self (sz := s0.heap.size)
  have hA : ∀ q : Nat, s0.heap.size ≤ q → va_A [(h0, .inr (ci, fs0))] s0.heap.size q := fun q h => Or.inr h
  have hl := lv_entry ([.ref h0]) (n := 1) (Nat.le_of_ble_eq_true rfl)
  rw [lg_entry_eq]
  rw [hlen]
  generalize (lg_sl ([.ref h0]) ++ List.replicate (1 - (lg_sl ([.ref h0])).length) Slot.unset).toArray = ls at hl ⊢
  have hl : lv_has ls 1 [(0, .ref h0)] := hl
  refine body (p, l, e, (headSpec (wM M) { frames := d, cells := mc, slots := ms, locals := 60 * d }).room, s0, m, ([.ref h0] : List Value).toArray, below, meth, c, _, va_A [(h0, .inr (ci, fs0))] s0.heap.size, D, ad, cI, cZ) h0 cI cZ rfl rfl ⟨hx, hb, by rw [hml, hlen], hown, fun w hw => hts w (List.mem_cons_of_mem _ hw), hK, hA, ⟨Nat.le_refl _, Nat.le_refl _⟩, ⟨Nat.le_refl _, Nat.le_refl _⟩, hin, hSt⟩ ?_ s0.heap [] ls hP hD va_S.rf hl
  intro pc cells slots qs hd h1 h2 H locs ls hP hD hS hl
  refine W.widen (k := mc) (n := ms) h1 h2 ?_
  exact W.vret hx hb (hr.trans hret) (fun t ht hW => ⟨⟨(), rfl, trivial, qs, by rw [ht]; exact hP, hD⟩, hS.F ht⟩) hS.2.2 hd
