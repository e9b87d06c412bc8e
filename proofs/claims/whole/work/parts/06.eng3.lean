/-! ENGINE 3: methods by contract, calls, returns -/
abbrev Mt : Type := MethodName × ByteArray × Nat × Option FieldType
def wM (M : Mt) : List Cond := .code M.1 M.2.1 M.2.2.1 M.2.2.2 :: tb
def rmd (d : Nat) : Room := { frames := d, cells := 0, slots := 0, locals := 60 * d }
def Pre (ly : List Sh) (D : va_G) (cI cZ : ClassId) (ad : Nat → Nat) (sz : Nat) (s : Sto) (U : State) : Prop := U.heap.size = sz ∧ va_P D vwCl (wld ly cI cZ ad s) U.heap ∧ va_K D vwCl (tyl cI cZ) U ∧ adOk (fun _ => True) ad ly ∧ Stat (A1 ly ad sz) ad U U.heap
def Pst (ly : List Sh) (D : va_G) (cI cZ : ClassId) (ad : Nat → Nat) (s : Sto) (t : State) : Prop := va_P D vwCl (wld ly cI cZ ad s) t.heap
/-- method M, called with args in store s, with d frames to spare: it returns an int a, and the store is then s', with Q a s' -/
def ClI (ly : List Sh) (d : Nat) (M : Mt) (args : List Vl) (s : Sto) (Q : Int → Sto → Prop) : Prop :=
  ∀ (l : Launch) (D : va_G) (cI cZ : ClassId) (ad : Nat → Nat) (sz : Nat), Met l M.1 (wM M) (rmd d) (va_Pc (args.map (cV ad)) (Pre ly D cI cZ ad sz s)) (va_Qi (fun (r : Int32) (u : Sto) => ∃ a : Int, r = Int32.ofInt a ∧ Q a u) (Pst ly D cI cZ ad) (A1 ly ad sz)) 0 0 (A1 ly ad sz)
def ClV (ly : List Sh) (d : Nat) (M : Mt) (args : List Vl) (s : Sto) (Q : Sto → Prop) : Prop :=
  ∀ (l : Launch) (D : va_G) (cI cZ : ClassId) (ad : Nat → Nat) (sz : Nat), Met l M.1 (wM M) (rmd d) (va_Pc (args.map (cV ad)) (Pre ly D cI cZ ad sz s)) (va_Qv (fun (u : Sto) => Q u) (Pst ly D cI cZ ad) (A1 ly ad sz)) 0 0 (A1 ly ad sz)
/-- the call's weakest precondition: what a block's row asks -/
def CallI (ly : List Sh) (d : Nat) (M : Mt) (args : List Vl) (s : Sto) (P : Int → Sto → Prop) : Prop := ∃ (d' : Nat) (Q : Int → Sto → Prop), d' < d ∧ ClI ly d' M args s Q ∧ ∀ (a : Int) (s' : Sto), Q a s' → P a s'
def CallV (ly : List Sh) (d : Nat) (M : Mt) (args : List Vl) (s : Sto) (P : Sto → Prop) : Prop := ∃ (d' : Nat) (Q : Sto → Prop), d' < d ∧ ClV ly d' M args s Q ∧ ∀ (s' : Sto), Q s' → P s'
/-- how a method's walk ends -/
def RetI (ly : List Sh) (X : Cx) (cc : ByteArray) (Q : Int → Sto → Prop) : Prop := ∀ (pc : Nat) (L : List (Option Vl)) (a : Int) (s : Sto), decode cc pc = .ok (.ireturn, 1) → Q a s → G ly X pc L [.inl a] s
def RetZ (ly : List Sh) (X : Cx) (cc : ByteArray) (Q : Int → Sto → Prop) : Prop := ∀ (pc : Nat) (L : List (Option Vl)) (a : Int) (s : Sto), decode cc pc = .ok (.ireturn, 1) → (a = 0 ∨ a = 1) → Q a s → G ly X pc L [.inl a] s
def RetV (ly : List Sh) (X : Cx) (cc : ByteArray) (Q : Sto → Prop) : Prop := ∀ (pc : Nat) (L : List (Option Vl)) (s : Sto), decode cc pc = .ok (.return_, 1) → Q s → G ly X pc L [] s
theorem good_sub {ws : List Cond} (h : ∀ w ∈ ws, w ∈ tb) : GoodIn tb ws := fun w hw => ⟨h w hw, (tb_good w (h w hw)).2⟩
theorem ClI.intro {ly : List Sh} {d : Nat} {M : Mt} {args : List Vl} {s : Sto} {Q : Int → Sto → Prop} (hy : plainName M.1.cls = true) (hret : M.2.2.2 = (some .int)) (hlen : args.length ≤ M.2.2.1) (body : ∀ X : Cx, Ok ly X M.1.cls M.2.1 M.2.2.1 d → RetI ly X M.2.1 Q → G ly X 0 (args.map some ++ List.replicate (M.2.2.1 - args.length) none) [] s) : ClI ly d M args s Q := by
  intro l D cI cZ ad sz
  refine Met.ofW (cc := M.2.1) (maxL := M.2.2.1) (ret := M.2.2.2) hy rfl ?_
  intro p e s0 m args0 below meth c s₁ B hml hv
  obtain ⟨rfl, hsz, hP, hK, had, hSt⟩ := hv
  have hx := B.exec
  have hb := B.bytes
  have hr := B.returns
  have hlocks := B.notSynchronized
  have hts := atoms_spec (ws := wM M) B.pre
  have hown : s0.vm.findClass M.1.cls = some m.cls := findClass_of_methodNamed B.named
  subst hsz
  rw [lg_entry_eq]
  refine body (p, l, e, (headSpec (wM M) (rmd d)).room, s0, m, (args.map (cV ad)).toArray, below, meth, c, _, 0, 0, M.2.2.1, A1 ly ad s0.heap.size, D, ad, cI, cZ) ⟨hx, hb, ⟨hml, rfl⟩, hown, fun w hw => hts w (List.mem_cons_of_mem _ hw), hK, ⟨had.1, fun i hi => Or.inl ⟨i, hi, rfl⟩⟩, fun q h => Or.inr h, ⟨Nat.le_refl _, Nat.le_refl _⟩, ⟨Nat.le_refl _, Nat.le_refl _⟩, hSt⟩ ?_ s0.heap [] _ hP va_S.rf (lh_none (lh_entry hlen))
  intro pc L a s' hd hq H locs ls hP hS hl
  exact W.zret (ty := .int) hx hb (hr.trans hret) rfl (fun t ht hW => ⟨⟨Int32.ofInt a, s', rfl, ⟨a, rfl, hq⟩, by show va_P _ _ _ t.heap; rw [ht]; exact hP⟩, hS.F ht⟩) hS.2.2 hd hlocks
theorem ClI.introZ {ly : List Sh} {d : Nat} {M : Mt} {args : List Vl} {s : Sto} {Q : Int → Sto → Prop} (hy : plainName M.1.cls = true) (hret : M.2.2.2 = (some .boolean)) (hlen : args.length ≤ M.2.2.1) (body : ∀ X : Cx, Ok ly X M.1.cls M.2.1 M.2.2.1 d → RetZ ly X M.2.1 Q → G ly X 0 (args.map some ++ List.replicate (M.2.2.1 - args.length) none) [] s) : ClI ly d M args s Q := by
  intro l D cI cZ ad sz
  refine Met.ofW (cc := M.2.1) (maxL := M.2.2.1) (ret := M.2.2.2) hy rfl ?_
  intro p e s0 m args0 below meth c s₁ B hml hv
  obtain ⟨rfl, hsz, hP, hK, had, hSt⟩ := hv
  have hx := B.exec
  have hb := B.bytes
  have hr := B.returns
  have hlocks := B.notSynchronized
  have hts := atoms_spec (ws := wM M) B.pre
  have hown : s0.vm.findClass M.1.cls = some m.cls := findClass_of_methodNamed B.named
  subst hsz
  rw [lg_entry_eq]
  refine body (p, l, e, (headSpec (wM M) (rmd d)).room, s0, m, (args.map (cV ad)).toArray, below, meth, c, _, 0, 0, M.2.2.1, A1 ly ad s0.heap.size, D, ad, cI, cZ) ⟨hx, hb, ⟨hml, rfl⟩, hown, fun w hw => hts w (List.mem_cons_of_mem _ hw), hK, ⟨had.1, fun i hi => Or.inl ⟨i, hi, rfl⟩⟩, fun q h => Or.inr h, ⟨Nat.le_refl _, Nat.le_refl _⟩, ⟨Nat.le_refl _, Nat.le_refl _⟩, hSt⟩ ?_ s0.heap [] _ hP va_S.rf (lh_none (lh_entry hlen))
  intro pc L a s' hd ha hq H locs ls hP hS hl
  exact W.zret (ty := .boolean) hx hb (hr.trans hret) (fit_bool ha).1 (fun t ht hW => ⟨⟨Int32.ofInt a, s', rfl, ⟨a, rfl, hq⟩, by show va_P _ _ _ t.heap; rw [ht]; exact hP⟩, hS.F ht⟩) hS.2.2 hd hlocks
theorem ClV.intro {ly : List Sh} {d : Nat} {M : Mt} {args : List Vl} {s : Sto} {Q : Sto → Prop} (hy : plainName M.1.cls = true) (hret : M.2.2.2 = none) (hlen : args.length ≤ M.2.2.1) (body : ∀ X : Cx, Ok ly X M.1.cls M.2.1 M.2.2.1 d → RetV ly X M.2.1 Q → G ly X 0 (args.map some ++ List.replicate (M.2.2.1 - args.length) none) [] s) : ClV ly d M args s Q := by
  intro l D cI cZ ad sz
  refine Met.ofW (cc := M.2.1) (maxL := M.2.2.1) (ret := M.2.2.2) hy rfl ?_
  intro p e s0 m args0 below meth c s₁ B hml hv
  obtain ⟨rfl, hsz, hP, hK, had, hSt⟩ := hv
  have hx := B.exec
  have hb := B.bytes
  have hr := B.returns
  have hlocks := B.notSynchronized
  have hts := atoms_spec (ws := wM M) B.pre
  have hown : s0.vm.findClass M.1.cls = some m.cls := findClass_of_methodNamed B.named
  subst hsz
  rw [lg_entry_eq]
  refine body (p, l, e, (headSpec (wM M) (rmd d)).room, s0, m, (args.map (cV ad)).toArray, below, meth, c, _, 0, 0, M.2.2.1, A1 ly ad s0.heap.size, D, ad, cI, cZ) ⟨hx, hb, ⟨hml, rfl⟩, hown, fun w hw => hts w (List.mem_cons_of_mem _ hw), hK, ⟨had.1, fun i hi => Or.inl ⟨i, hi, rfl⟩⟩, fun q h => Or.inr h, ⟨Nat.le_refl _, Nat.le_refl _⟩, ⟨Nat.le_refl _, Nat.le_refl _⟩, hSt⟩ ?_ s0.heap [] _ hP va_S.rf (lh_none (lh_entry hlen))
  intro pc L s' hd hq H locs ls hP hS hl
  exact W.vret hx hb (hr.trans hret) (fun t ht hW => ⟨⟨s', rfl, hq, by show va_P _ _ _ t.heap; rw [ht]; exact hP⟩, hS.F ht⟩) hS.2.2 hd hlocks
section CALLS
variable {ly : List Sh} {X : Cx} {own : String} {cc : ByteArray} {n d pc : Nat} {L : List (Option Vl)} {K K' : List Vl} {s : Sto}
/-- the words of a call of an instance method -/
def wcV (own : String) (ix : Nat) (M : Mt) : Prop := Cond.methodLink own ix M.1 ∈ tb ∧ Cond.instanceMethod M.1 ∈ tb ∧ Cond.selects M.1.cls M.1 M.1 ∈ tb ∧ Cond.initialized M.1.cls ∈ tb ∧ Cond.code M.1 M.2.1 M.2.2.1 M.2.2.2 ∈ tb
def wcS (own : String) (ix : Nat) (M : Mt) : Prop := Cond.methodLink own ix M.1 ∈ tb ∧ Cond.static M.1 ∈ tb ∧ Cond.initialized M.1.cls ∈ tb ∧ Cond.code M.1 M.2.1 M.2.2.1 M.2.2.2 ∈ tb
/-- a method's own numbers: few locals, so many parameters -/
def mtOk (M : Mt) (k : Nat) : Prop := M.2.2.1 ≤ 41 ∧ M.1.cls ≠ "java/lang/invoke/MethodHandle" ∧ M.1.cls ≠ "java/lang/invoke/VarHandle" ∧ (parseMethodDescriptor M.1.desc).map (fun d => d.parameters.length) = some k
theorem G_callVI (C : Ok ly X own cc n d) {M : Mt} {ix c ci N : Nat} {args : List Vl} {P : Int → Sto → Prop} {fs : List (Option Nat)} {T : u_T} (hc : ly[c]? = some (.inr (ci, fs))) (hC : vwCl[ci]? = some (M.1.cls, T, N)) (hK : K.length ≤ 8) (hM : mtOk M args.length) (hw : wcV own ix M) (hK' : K' = args.reverse ++ .inr c :: K) (hdg : decode cc pc = .ok (.invokevirtual ix, 3)) (hcall : CallI ly d M (.inr c :: args) s P) (kk : ∀ (a : Int) (s2 : Sto), P a s2 → G ly X (pc + 3) L (.inl a :: K) s2) : G ly X pc L K' s := by
  obtain ⟨p, l, e, R, s0, m, args0, below, meth, cd, Q0, cells, slots, nL, A, D, ad, cI, cZ⟩ := X
  intro H locs ls hP hS hl
  obtain ⟨d', Q, hd', hcl, hQP⟩ := hcall
  have hF : ∀ q, A1 ly ad H.size q → A q := by
    intro q h
    rcases h with ⟨k, hk, rfl⟩ | h
    · exact C.2.2.2.2.2.2.1.2 k hk
    · exact C.2.2.2.2.2.2.2.1 q (Nat.le_trans hS.1 h)
  have hrm : (rmd d').frames + 1 ≤ R.frames ∧ 8 + (M.2.2.1 + 11) + (rmd d').locals ≤ R.locals := by
    have h1 := C.2.2.2.2.2.2.2.2.2.1
    have h2 := hM.1
    show d' + 1 ≤ R.frames ∧ 8 + (M.2.2.1 + 11) + 60 * d' ≤ R.locals
    omega
  have hbl : ∀ args : List Vl, FrameBlind (va_Pc (args.map (cV ad)) (Pre ly D cI cZ ad H.size s)) := fun args a U g mk q => by
    obtain ⟨q0, q1, qP, qK, qD, qS⟩ := q
    exact ⟨q0, q1, qP, va_K.moved (u := U) (U := U.calling g mk a) (Vm.Alike.refl U.vm) qK, qD, qS.same rfl⟩
  have hpre : ∀ U : State, U.heap = H → s0.WarmedH U.vm → Pre ly D cI cZ ad H.size s U := fun U hU hW => ⟨by rw [hU], by rw [hU]; exact hP, va_K.moved hW.alike C.2.2.2.2.2.1, ⟨C.2.2.2.2.2.2.1.1, fun _ _ => trivial⟩, by rw [hU]; exact C.2.2.2.2.2.2.2.2.2.2.warm hW hS.2.1 hF⟩
  have hsum : 2 * (F0 m pc ls (K'.map (cV ad))).monitorRoom + ((K.map (cV ad)).map fun v => v.category).sum ≤ 8 := lv_room (by rw [K_cat]; exact hK)
  refine va_calli (A0 := A) (H0 := s0.heap) (rest := K.map (cV ad)) (va_runV (As := args.map (cV ad)) (b := ad c) (Ts := tb) (nL := nL) (C := M.1.cls) (n := args.length) ⟨C.1, C.2.1, C.2.2.1.1, C.2.2.2.1, C.2.2.2.2.1⟩ (hcl l D cI cZ ad H.size) (cwV args.length C.2.2.2.2.1 (good_sub (fun w h => ?_)) rfl rfl rfl ⟨rfl, hM.2⟩ hrm) ⟨hbl (.inr c :: args), va_recv C.2.2.2.2.2.1 hP hC (wld_at hc), fun U hU hW => ⟨rfl, hpre U hU hW⟩⟩ rfl (by simp) hl.1 (by rw [hK']; simp [cV]) hsum hdg C.2.2.2.2.2.2.2.2.1) hS (fun q _ h => hF q h) hF (fun r u t H1 locs1 ht hvm hw hB hz1 hk1 hS1 => ?_)
  · rcases List.mem_append.mp h with h | h
    · simp only [List.mem_cons, List.not_mem_nil, or_false] at h
      rcases h with rfl | rfl | rfl | rfl
      · exact hw.1
      · exact hw.2.1
      · exact hw.2.2.1
      · exact hw.2.2.2.1
    · rcases List.mem_cons.mp h with rfl | h
      · exact hw.2.2.2.2
      · exact h
  obtain ⟨a, rfl, hq⟩ := hw
  have hP1 : va_P D vwCl (wld ly cI cZ ad u) t.heap := hB
  rw [ht] at hP1
  exact kk a u (hQP a u hq) H1 locs1 ls hP1 hS1 hl
theorem G_callSI (C : Ok ly X own cc n d) {M : Mt} {ix : Nat} {args : List Vl} {P : Int → Sto → Prop} (hK : K.length ≤ 8) (hM : mtOk M args.length) (hw : wcS own ix M) (hK' : K' = args.reverse ++ K) (hdg : decode cc pc = .ok (.invokestatic ix, 3)) (hcall : CallI ly d M args s P) (kk : ∀ (a : Int) (s2 : Sto), P a s2 → G ly X (pc + 3) L (.inl a :: K) s2) : G ly X pc L K' s := by
  obtain ⟨p, l, e, R, s0, m, args0, below, meth, cd, Q0, cells, slots, nL, A, D, ad, cI, cZ⟩ := X
  intro H locs ls hP hS hl
  obtain ⟨d', Q, hd', hcl, hQP⟩ := hcall
  have hF : ∀ q, A1 ly ad H.size q → A q := by
    intro q h
    rcases h with ⟨k, hk, rfl⟩ | h
    · exact C.2.2.2.2.2.2.1.2 k hk
    · exact C.2.2.2.2.2.2.2.1 q (Nat.le_trans hS.1 h)
  have hrm : (rmd d').frames + 1 ≤ R.frames ∧ 8 + (M.2.2.1 + 11) + (rmd d').locals ≤ R.locals := by
    have h1 := C.2.2.2.2.2.2.2.2.2.1
    have h2 := hM.1
    show d' + 1 ≤ R.frames ∧ 8 + (M.2.2.1 + 11) + 60 * d' ≤ R.locals
    omega
  have hbl : ∀ args : List Vl, FrameBlind (va_Pc (args.map (cV ad)) (Pre ly D cI cZ ad H.size s)) := fun args a U g mk q => by
    obtain ⟨q0, q1, qP, qK, qD, qS⟩ := q
    exact ⟨q0, q1, qP, va_K.moved (u := U) (U := U.calling g mk a) (Vm.Alike.refl U.vm) qK, qD, qS.same rfl⟩
  have hpre : ∀ U : State, U.heap = H → s0.WarmedH U.vm → Pre ly D cI cZ ad H.size s U := fun U hU hW => ⟨by rw [hU], by rw [hU]; exact hP, va_K.moved hW.alike C.2.2.2.2.2.1, ⟨C.2.2.2.2.2.2.1.1, fun _ _ => trivial⟩, by rw [hU]; exact C.2.2.2.2.2.2.2.2.2.2.warm hW hS.2.1 hF⟩
  have hsum : 2 * (F0 m pc ls (K'.map (cV ad))).monitorRoom + ((K.map (cV ad)).map fun v => v.category).sum ≤ 8 := lv_room (by rw [K_cat]; exact hK)
  refine va_calli (A0 := A) (H0 := s0.heap) (rest := K.map (cV ad)) (va_runS (As := args.map (cV ad)) (Ts := tb) (nL := nL) (n := args.length) ⟨C.1, C.2.1, C.2.2.1.1, C.2.2.2.1, C.2.2.2.2.1⟩ (hcl l D cI cZ ad H.size) (va_cwS args.length C.2.2.2.2.1 (good_sub (fun w h => ?_)) rfl rfl rfl hM.2 hrm) ⟨hbl args, fun U hU hW => ⟨rfl, hpre U hU hW⟩⟩ rfl (by simp) hl.1 (by rw [hK']; simp) hsum hdg C.2.2.2.2.2.2.2.2.1) hS (fun q _ h => hF q h) hF (fun r u t H1 locs1 ht hvm hw hB hz1 hk1 hS1 => ?_)
  · rcases List.mem_append.mp h with h | h
    · simp only [List.mem_cons, List.not_mem_nil, or_false] at h
      rcases h with rfl | rfl | rfl
      · exact hw.1
      · exact hw.2.1
      · exact hw.2.2.1
    · rcases List.mem_cons.mp h with rfl | h
      · exact hw.2.2.2
      · exact h
  obtain ⟨a, rfl, hq⟩ := hw
  have hP1 : va_P D vwCl (wld ly cI cZ ad u) t.heap := hB
  rw [ht] at hP1
  exact kk a u (hQP a u hq) H1 locs1 ls hP1 hS1 hl
theorem G_callVV (C : Ok ly X own cc n d) {M : Mt} {ix c ci N : Nat} {args : List Vl} {P : Sto → Prop} {fs : List (Option Nat)} {T : u_T} (hc : ly[c]? = some (.inr (ci, fs))) (hC : vwCl[ci]? = some (M.1.cls, T, N)) (hK : K.length ≤ 8) (hM : mtOk M args.length) (hw : wcV own ix M) (hK' : K' = args.reverse ++ .inr c :: K) (hdg : decode cc pc = .ok (.invokevirtual ix, 3)) (hcall : CallV ly d M (.inr c :: args) s P) (kk : ∀ (s2 : Sto), P s2 → G ly X (pc + 3) L K s2) : G ly X pc L K' s := by
  obtain ⟨p, l, e, R, s0, m, args0, below, meth, cd, Q0, cells, slots, nL, A, D, ad, cI, cZ⟩ := X
  intro H locs ls hP hS hl
  obtain ⟨d', Q, hd', hcl, hQP⟩ := hcall
  have hF : ∀ q, A1 ly ad H.size q → A q := by
    intro q h
    rcases h with ⟨k, hk, rfl⟩ | h
    · exact C.2.2.2.2.2.2.1.2 k hk
    · exact C.2.2.2.2.2.2.2.1 q (Nat.le_trans hS.1 h)
  have hrm : (rmd d').frames + 1 ≤ R.frames ∧ 8 + (M.2.2.1 + 11) + (rmd d').locals ≤ R.locals := by
    have h1 := C.2.2.2.2.2.2.2.2.2.1
    have h2 := hM.1
    show d' + 1 ≤ R.frames ∧ 8 + (M.2.2.1 + 11) + 60 * d' ≤ R.locals
    omega
  have hbl : ∀ args : List Vl, FrameBlind (va_Pc (args.map (cV ad)) (Pre ly D cI cZ ad H.size s)) := fun args a U g mk q => by
    obtain ⟨q0, q1, qP, qK, qD, qS⟩ := q
    exact ⟨q0, q1, qP, va_K.moved (u := U) (U := U.calling g mk a) (Vm.Alike.refl U.vm) qK, qD, qS.same rfl⟩
  have hpre : ∀ U : State, U.heap = H → s0.WarmedH U.vm → Pre ly D cI cZ ad H.size s U := fun U hU hW => ⟨by rw [hU], by rw [hU]; exact hP, va_K.moved hW.alike C.2.2.2.2.2.1, ⟨C.2.2.2.2.2.2.1.1, fun _ _ => trivial⟩, by rw [hU]; exact C.2.2.2.2.2.2.2.2.2.2.warm hW hS.2.1 hF⟩
  have hsum : 2 * (F0 m pc ls (K'.map (cV ad))).monitorRoom + ((K.map (cV ad)).map fun v => v.category).sum ≤ 8 := lv_room (by rw [K_cat]; exact hK)
  refine va_callv (A0 := A) (H0 := s0.heap) (rest := K.map (cV ad)) (va_runV (As := args.map (cV ad)) (b := ad c) (Ts := tb) (nL := nL) (C := M.1.cls) (n := args.length) ⟨C.1, C.2.1, C.2.2.1.1, C.2.2.2.1, C.2.2.2.2.1⟩ (hcl l D cI cZ ad H.size) (cwV args.length C.2.2.2.2.1 (good_sub (fun w h => ?_)) rfl rfl rfl ⟨rfl, hM.2⟩ hrm) ⟨hbl (.inr c :: args), va_recv C.2.2.2.2.2.1 hP hC (wld_at hc), fun U hU hW => ⟨rfl, hpre U hU hW⟩⟩ rfl (by simp) hl.1 (by rw [hK']; simp [cV]) hsum hdg C.2.2.2.2.2.2.2.2.1) hS (fun q _ h => hF q h) hF (fun u t H1 locs1 ht hvm hw hB hz1 hk1 hS1 => ?_)
  · rcases List.mem_append.mp h with h | h
    · simp only [List.mem_cons, List.not_mem_nil, or_false] at h
      rcases h with rfl | rfl | rfl | rfl
      · exact hw.1
      · exact hw.2.1
      · exact hw.2.2.1
      · exact hw.2.2.2.1
    · rcases List.mem_cons.mp h with rfl | h
      · exact hw.2.2.2.2
      · exact h
  have hP1 : va_P D vwCl (wld ly cI cZ ad u) t.heap := hB
  rw [ht] at hP1
  exact kk u (hQP u hw) H1 locs1 ls hP1 hS1 hl
theorem G_callSV (C : Ok ly X own cc n d) {M : Mt} {ix : Nat} {args : List Vl} {P : Sto → Prop} (hK : K.length ≤ 8) (hM : mtOk M args.length) (hw : wcS own ix M) (hK' : K' = args.reverse ++ K) (hdg : decode cc pc = .ok (.invokestatic ix, 3)) (hcall : CallV ly d M args s P) (kk : ∀ (s2 : Sto), P s2 → G ly X (pc + 3) L K s2) : G ly X pc L K' s := by
  obtain ⟨p, l, e, R, s0, m, args0, below, meth, cd, Q0, cells, slots, nL, A, D, ad, cI, cZ⟩ := X
  intro H locs ls hP hS hl
  obtain ⟨d', Q, hd', hcl, hQP⟩ := hcall
  have hF : ∀ q, A1 ly ad H.size q → A q := by
    intro q h
    rcases h with ⟨k, hk, rfl⟩ | h
    · exact C.2.2.2.2.2.2.1.2 k hk
    · exact C.2.2.2.2.2.2.2.1 q (Nat.le_trans hS.1 h)
  have hrm : (rmd d').frames + 1 ≤ R.frames ∧ 8 + (M.2.2.1 + 11) + (rmd d').locals ≤ R.locals := by
    have h1 := C.2.2.2.2.2.2.2.2.2.1
    have h2 := hM.1
    show d' + 1 ≤ R.frames ∧ 8 + (M.2.2.1 + 11) + 60 * d' ≤ R.locals
    omega
  have hbl : ∀ args : List Vl, FrameBlind (va_Pc (args.map (cV ad)) (Pre ly D cI cZ ad H.size s)) := fun args a U g mk q => by
    obtain ⟨q0, q1, qP, qK, qD, qS⟩ := q
    exact ⟨q0, q1, qP, va_K.moved (u := U) (U := U.calling g mk a) (Vm.Alike.refl U.vm) qK, qD, qS.same rfl⟩
  have hpre : ∀ U : State, U.heap = H → s0.WarmedH U.vm → Pre ly D cI cZ ad H.size s U := fun U hU hW => ⟨by rw [hU], by rw [hU]; exact hP, va_K.moved hW.alike C.2.2.2.2.2.1, ⟨C.2.2.2.2.2.2.1.1, fun _ _ => trivial⟩, by rw [hU]; exact C.2.2.2.2.2.2.2.2.2.2.warm hW hS.2.1 hF⟩
  have hsum : 2 * (F0 m pc ls (K'.map (cV ad))).monitorRoom + ((K.map (cV ad)).map fun v => v.category).sum ≤ 8 := lv_room (by rw [K_cat]; exact hK)
  refine va_callv (A0 := A) (H0 := s0.heap) (rest := K.map (cV ad)) (va_runS (As := args.map (cV ad)) (Ts := tb) (nL := nL) (n := args.length) ⟨C.1, C.2.1, C.2.2.1.1, C.2.2.2.1, C.2.2.2.2.1⟩ (hcl l D cI cZ ad H.size) (va_cwS args.length C.2.2.2.2.1 (good_sub (fun w h => ?_)) rfl rfl rfl hM.2 hrm) ⟨hbl args, fun U hU hW => ⟨rfl, hpre U hU hW⟩⟩ rfl (by simp) hl.1 (by rw [hK']; simp) hsum hdg C.2.2.2.2.2.2.2.2.1) hS (fun q _ h => hF q h) hF (fun u t H1 locs1 ht hvm hw hB hz1 hk1 hS1 => ?_)
  · rcases List.mem_append.mp h with h | h
    · simp only [List.mem_cons, List.not_mem_nil, or_false] at h
      rcases h with rfl | rfl | rfl
      · exact hw.1
      · exact hw.2.1
      · exact hw.2.2.1
    · rcases List.mem_cons.mp h with rfl | h
      · exact hw.2.2.2
      · exact h
  have hP1 : va_P D vwCl (wld ly cI cZ ad u) t.heap := hB
  rw [ht] at hP1
  exact kk u (hQP u hw) H1 locs1 ls hP1 hS1 hl
end CALLS
