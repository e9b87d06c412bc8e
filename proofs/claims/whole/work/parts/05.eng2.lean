/-! ENGINE 2: branches, switches, memory -/
section BR
variable {ly : List Sh} {X : Cx} {own : String} {cc : ByteArray} {n d pc : Nat} {L L' : List (Option Vl)} {K : List Vl} {s : Sto}

theorem G_icmp_eq (C : Ok ly X own cc n d) {a b off : Int} {tgt : Nat} (hd : decode cc pc = .ok (.if_icmp .eq off, 3)) (ht : (pc : Int) + off = (tgt : Int)) (h : rg a ∧ rg b) (kt : a = b → G ly X tgt L K s) (kf : a ≠ b → G ly X (pc + 3) L K s) : G ly X pc L (.inl b :: .inl a :: K) s := by
  obtain ⟨p, l, e, R, s0, m, args, below, meth, cd, Q, cells, slots, nL, A, D, ad, cI, cZ⟩ := X
  intro H locs ls hP hS hl
  exact lv_icmp_eq C.1 C.2.1 hd ht (fun q => (kt ((oI_eq h.1 h.2).mp q)) H locs ls hP hS hl) (fun q => (kf (fun z => q ((oI_eq h.1 h.2).mpr z))) H locs ls hP hS hl)

theorem G_icmp_ne (C : Ok ly X own cc n d) {a b off : Int} {tgt : Nat} (hd : decode cc pc = .ok (.if_icmp .ne off, 3)) (ht : (pc : Int) + off = (tgt : Int)) (h : rg a ∧ rg b) (kt : a ≠ b → G ly X tgt L K s) (kf : a = b → G ly X (pc + 3) L K s) : G ly X pc L (.inl b :: .inl a :: K) s := by
  obtain ⟨p, l, e, R, s0, m, args, below, meth, cd, Q, cells, slots, nL, A, D, ad, cI, cZ⟩ := X
  intro H locs ls hP hS hl
  exact lv_icmp_ne C.1 C.2.1 hd ht (fun q => (kt (fun z => q ((oI_eq h.1 h.2).mpr z))) H locs ls hP hS hl) (fun q => (kf ((oI_eq h.1 h.2).mp q)) H locs ls hP hS hl)

theorem G_icmp_lt (C : Ok ly X own cc n d) {a b off : Int} {tgt : Nat} (hd : decode cc pc = .ok (.if_icmp .lt off, 3)) (ht : (pc : Int) + off = (tgt : Int)) (h : rg a ∧ rg b) (kt : a < b → G ly X tgt L K s) (kf : b ≤ a → G ly X (pc + 3) L K s) : G ly X pc L (.inl b :: .inl a :: K) s := by
  obtain ⟨p, l, e, R, s0, m, args, below, meth, cd, Q, cells, slots, nL, A, D, ad, cI, cZ⟩ := X
  intro H locs ls hP hS hl
  exact lv_icmp_lt C.1 C.2.1 hd ht (fun q => (kt ((oI_lt h.1 h.2).mp q)) H locs ls hP hS hl) (fun q => (kf (by have z := (not_congr ((oI_lt h.1 h.2))).mp q; omega)) H locs ls hP hS hl)

theorem G_icmp_ge (C : Ok ly X own cc n d) {a b off : Int} {tgt : Nat} (hd : decode cc pc = .ok (.if_icmp .ge off, 3)) (ht : (pc : Int) + off = (tgt : Int)) (h : rg a ∧ rg b) (kt : b ≤ a → G ly X tgt L K s) (kf : a < b → G ly X (pc + 3) L K s) : G ly X pc L (.inl b :: .inl a :: K) s := by
  obtain ⟨p, l, e, R, s0, m, args, below, meth, cd, Q, cells, slots, nL, A, D, ad, cI, cZ⟩ := X
  intro H locs ls hP hS hl
  exact lv_icmp_ge C.1 C.2.1 hd ht (fun q => (kt ((oI_le h.2 h.1).mp q)) H locs ls hP hS hl) (fun q => (kf (by have z := (not_congr ((oI_le h.2 h.1))).mp q; omega)) H locs ls hP hS hl)

theorem G_icmp_gt (C : Ok ly X own cc n d) {a b off : Int} {tgt : Nat} (hd : decode cc pc = .ok (.if_icmp .gt off, 3)) (ht : (pc : Int) + off = (tgt : Int)) (h : rg a ∧ rg b) (kt : b < a → G ly X tgt L K s) (kf : a ≤ b → G ly X (pc + 3) L K s) : G ly X pc L (.inl b :: .inl a :: K) s := by
  obtain ⟨p, l, e, R, s0, m, args, below, meth, cd, Q, cells, slots, nL, A, D, ad, cI, cZ⟩ := X
  intro H locs ls hP hS hl
  exact lv_icmp_gt C.1 C.2.1 hd ht (fun q => (kt ((oI_lt h.2 h.1).mp q)) H locs ls hP hS hl) (fun q => (kf (by have z := (not_congr ((oI_lt h.2 h.1))).mp q; omega)) H locs ls hP hS hl)

theorem G_icmp_le (C : Ok ly X own cc n d) {a b off : Int} {tgt : Nat} (hd : decode cc pc = .ok (.if_icmp .le off, 3)) (ht : (pc : Int) + off = (tgt : Int)) (h : rg a ∧ rg b) (kt : a ≤ b → G ly X tgt L K s) (kf : b < a → G ly X (pc + 3) L K s) : G ly X pc L (.inl b :: .inl a :: K) s := by
  obtain ⟨p, l, e, R, s0, m, args, below, meth, cd, Q, cells, slots, nL, A, D, ad, cI, cZ⟩ := X
  intro H locs ls hP hS hl
  exact lv_icmp_le C.1 C.2.1 hd ht (fun q => (kt ((oI_le h.1 h.2).mp q)) H locs ls hP hS hl) (fun q => (kf (by have z := (not_congr ((oI_le h.1 h.2))).mp q; omega)) H locs ls hP hS hl)

theorem G_if_eq (C : Ok ly X own cc n d) {a off : Int} {tgt : Nat} (hd : decode cc pc = .ok (.ifCond .eq off, 3)) (ht : (pc : Int) + off = (tgt : Int)) (h : rg a) (kt : a = 0 → G ly X tgt L K s) (kf : a ≠ 0 → G ly X (pc + 3) L K s) : G ly X pc L (.inl a :: K) s := by
  obtain ⟨p, l, e, R, s0, m, args, below, meth, cd, Q, cells, slots, nL, A, D, ad, cI, cZ⟩ := X
  intro H locs ls hP hS hl
  have z0 : rg 0 := by decide
  exact lv_if_eq C.1 C.2.1 hd ht (fun q => (kt ((oI_eq h z0).mp q)) H locs ls hP hS hl) (fun q => (kf (fun z => q ((oI_eq h z0).mpr z))) H locs ls hP hS hl)

theorem G_if_ne (C : Ok ly X own cc n d) {a off : Int} {tgt : Nat} (hd : decode cc pc = .ok (.ifCond .ne off, 3)) (ht : (pc : Int) + off = (tgt : Int)) (h : rg a) (kt : a ≠ 0 → G ly X tgt L K s) (kf : a = 0 → G ly X (pc + 3) L K s) : G ly X pc L (.inl a :: K) s := by
  obtain ⟨p, l, e, R, s0, m, args, below, meth, cd, Q, cells, slots, nL, A, D, ad, cI, cZ⟩ := X
  intro H locs ls hP hS hl
  have z0 : rg 0 := by decide
  exact lv_if_ne C.1 C.2.1 hd ht (fun q => (kt (fun z => q ((oI_eq h z0).mpr z))) H locs ls hP hS hl) (fun q => (kf ((oI_eq h z0).mp q)) H locs ls hP hS hl)

theorem G_if_lt (C : Ok ly X own cc n d) {a off : Int} {tgt : Nat} (hd : decode cc pc = .ok (.ifCond .lt off, 3)) (ht : (pc : Int) + off = (tgt : Int)) (h : rg a) (kt : a < 0 → G ly X tgt L K s) (kf : 0 ≤ a → G ly X (pc + 3) L K s) : G ly X pc L (.inl a :: K) s := by
  obtain ⟨p, l, e, R, s0, m, args, below, meth, cd, Q, cells, slots, nL, A, D, ad, cI, cZ⟩ := X
  intro H locs ls hP hS hl
  have z0 : rg 0 := by decide
  exact lv_if_lt C.1 C.2.1 hd ht (fun q => (kt ((oI_lt h z0).mp q)) H locs ls hP hS hl) (fun q => (kf (by have z := (not_congr ((oI_lt h z0))).mp q; omega)) H locs ls hP hS hl)

theorem G_if_ge (C : Ok ly X own cc n d) {a off : Int} {tgt : Nat} (hd : decode cc pc = .ok (.ifCond .ge off, 3)) (ht : (pc : Int) + off = (tgt : Int)) (h : rg a) (kt : 0 ≤ a → G ly X tgt L K s) (kf : a < 0 → G ly X (pc + 3) L K s) : G ly X pc L (.inl a :: K) s := by
  obtain ⟨p, l, e, R, s0, m, args, below, meth, cd, Q, cells, slots, nL, A, D, ad, cI, cZ⟩ := X
  intro H locs ls hP hS hl
  have z0 : rg 0 := by decide
  exact lv_if_ge C.1 C.2.1 hd ht (fun q => (kt ((oI_le z0 h).mp q)) H locs ls hP hS hl) (fun q => (kf (by have z := (not_congr ((oI_le z0 h))).mp q; omega)) H locs ls hP hS hl)

theorem G_if_gt (C : Ok ly X own cc n d) {a off : Int} {tgt : Nat} (hd : decode cc pc = .ok (.ifCond .gt off, 3)) (ht : (pc : Int) + off = (tgt : Int)) (h : rg a) (kt : 0 < a → G ly X tgt L K s) (kf : a ≤ 0 → G ly X (pc + 3) L K s) : G ly X pc L (.inl a :: K) s := by
  obtain ⟨p, l, e, R, s0, m, args, below, meth, cd, Q, cells, slots, nL, A, D, ad, cI, cZ⟩ := X
  intro H locs ls hP hS hl
  have z0 : rg 0 := by decide
  exact lv_if_gt C.1 C.2.1 hd ht (fun q => (kt ((oI_lt z0 h).mp q)) H locs ls hP hS hl) (fun q => (kf (by have z := (not_congr ((oI_lt z0 h))).mp q; omega)) H locs ls hP hS hl)

theorem G_if_le (C : Ok ly X own cc n d) {a off : Int} {tgt : Nat} (hd : decode cc pc = .ok (.ifCond .le off, 3)) (ht : (pc : Int) + off = (tgt : Int)) (h : rg a) (kt : a ≤ 0 → G ly X tgt L K s) (kf : 0 < a → G ly X (pc + 3) L K s) : G ly X pc L (.inl a :: K) s := by
  obtain ⟨p, l, e, R, s0, m, args, below, meth, cd, Q, cells, slots, nL, A, D, ad, cI, cZ⟩ := X
  intro H locs ls hP hS hl
  have z0 : rg 0 := by decide
  exact lv_if_le C.1 C.2.1 hd ht (fun q => (kt ((oI_le h z0).mp q)) H locs ls hP hS hl) (fun q => (kf (by have z := (not_congr ((oI_le h z0))).mp q; omega)) H locs ls hP hS hl)

theorem G_tab (C : Ok ly X own cc n d) {a dflt lo hi : Int} {offs : Array Int} {len : Nat} (hd : decode cc pc = .ok (.tableswitch dflt lo hi offs, len)) (h : rg a) (ko : ∀ tgt : Nat, (a < lo ∨ hi < a) → (pc : Int) + dflt = (tgt : Int) → G ly X tgt L K s) (ki : ∀ (off : Int) (tgt : Nat), lo ≤ a → a ≤ hi → offs[(a - lo).toNat]? = some off → (pc : Int) + off = (tgt : Int) → G ly X tgt L K s) (hn : 0 ≤ (pc : Int) + dflt) (hs : ((hi - lo + 1).toNat ≤ offs.size) ∧ offs.toList.all (fun off => decide (0 ≤ (pc : Int) + off)) = true) : G ly X pc L (.inl a :: K) s := by
  obtain ⟨p, l, e, R, s0, m, args, below, meth, cd, Q, cells, slots, nL, A, D, ad, cI, cZ⟩ := X
  intro H locs ls hP hS hl
  have hc : (Int32.ofInt a).toInt = a := oI_toInt h
  by_cases h1 : a < lo
  · exact lv_tableOut (tgt := ((pc : Int) + dflt).toNat) C.1 C.2.1 hd (by rw [hc]; exact Or.inl h1) (by omega) (ko _ (Or.inl h1) (by omega) H locs ls hP hS hl)
  · by_cases h2 : hi < a
    · exact lv_tableOut (tgt := ((pc : Int) + dflt).toNat) C.1 C.2.1 hd (by rw [hc]; exact Or.inr h2) (by omega) (ko _ (Or.inr h2) (by omega) H locs ls hP hS hl)
    · have hlt : (a - lo).toNat < offs.size := by omega
      have hget : offs[(a - lo).toNat]? = some offs[(a - lo).toNat] := Array.getElem?_eq_getElem hlt
      have hpos : 0 ≤ (pc : Int) + offs[(a - lo).toNat] := by
        have := List.all_eq_true.mp hs.2 offs[(a - lo).toNat] (by simp)
        simpa using this
      exact lv_tableIn (off := offs[(a - lo).toNat]) (tgt := ((pc : Int) + offs[(a - lo).toNat]).toNat) C.1 C.2.1 hd (by rw [hc]; exact h1) (by rw [hc]; exact h2) (by rw [hc]; exact hget) (by omega) (ki _ _ (by omega) (by omega) hget (by omega) H locs ls hP hS hl)
/-- a field that holds an int or a boolean -/
theorem G_getI (C : Ok ly X own cc n d) {c ci ix k N : Nat} {fs : List (Option Nat)} {C0 : String} {T : u_T} {ref : String} (hc : ly[c]? = some (.inr (ci, fs))) (hC : vwCl[ci]? = some (C0, T, N)) (hk : k < N) (hin : ∀ w ∈ u_ws C0 T N, w ∈ tb) (hw : Cond.fieldLink own ix ref (T k).2.1 (T k).2.2.1 ∈ tb) (hr : ref = (T k).1) (hf : fs[k]? = some none) (hd : decode cc pc = .ok (.getfield ix, 3)) (kk : G ly X (pc + 3) L (.inl (s c k) :: K) s) : G ly X pc L (.inr c :: K) s := by
  obtain ⟨p, l, e, R, s0, m, args, below, meth, cd, Q, cells, slots, nL, A, D, ad, cI, cZ⟩ := X
  intro H locs ls hP hS hl
  subst hr
  refine va_get (D := D) (ws := wld ly cI cZ ad s) (v := .int (Int32.ofInt (s c k))) C.1 C.2.1 C.2.2.2.2.1 hin C.2.2.2.1 C.2.2.2.2.2.1 hP c (wld_at hc) hC k hk (C.2.2.2.2.1 _ hw) (fun _ h => h) ?_ hd (kk H locs ls hP hS hl)
  rw [List.getElem?_mapIdx, hf]
  rfl
theorem G_getR (C : Ok ly X own cc n d) {c ci ix k N j : Nat} {fs : List (Option Nat)} {C0 : String} {T : u_T} {ref : String} (hc : ly[c]? = some (.inr (ci, fs))) (hC : vwCl[ci]? = some (C0, T, N)) (hk : k < N) (hin : ∀ w ∈ u_ws C0 T N, w ∈ tb) (hw : Cond.fieldLink own ix ref (T k).2.1 (T k).2.2.1 ∈ tb) (hr : ref = (T k).1) (hf : fs[k]? = some (some j)) (hd : decode cc pc = .ok (.getfield ix, 3)) (kk : G ly X (pc + 3) L (.inr j :: K) s) : G ly X pc L (.inr c :: K) s := by
  obtain ⟨p, l, e, R, s0, m, args, below, meth, cd, Q, cells, slots, nL, A, D, ad, cI, cZ⟩ := X
  intro H locs ls hP hS hl
  subst hr
  refine va_get (D := D) (ws := wld ly cI cZ ad s) (v := .ref (ad j)) C.1 C.2.1 C.2.2.2.2.1 hin C.2.2.2.1 C.2.2.2.2.2.1 hP c (wld_at hc) hC k hk (C.2.2.2.2.1 _ hw) (fun _ h => h) ?_ hd (kk H locs ls hP hS hl)
  rw [List.getElem?_mapIdx, hf]
  rfl
theorem wE_put {cI cZ : ClassId} {ad : Nat → Nat} {c ci k : Nat} {fs : List (Option Nat)} {v : Int} (hf : fs[k]? = some none) : wE cI cZ ad (up s c k v) c (.inr (ci, fs)) = .inr (ci, (fs.mapIdx (fun k f => fV ad s c k f)).set k (.int (Int32.ofInt v))) := by
  show Sum.inr (ci, _) = Sum.inr (ci, _)
  congr 2
  apply List.ext_getElem?
  intro j
  have hl : k < fs.length := (List.getElem?_eq_some_iff.mp hf).1
  by_cases hj : k = j
  · subst hj
    rw [List.getElem?_set_self (by simpa using hl), List.getElem?_mapIdx, hf]
    simp [fV, up_at]
  · rw [List.getElem?_set_ne hj, List.getElem?_mapIdx, List.getElem?_mapIdx]
    cases fs[j]? with
    | none => rfl
    | some f =>
      cases f with
      | none => simp only [Option.map_some, fV]; rw [up_ne (fun q => hj (by have := q.2; omega))]
      | some r => rfl
theorem G_put (C : Ok ly X own cc n d) {c ci ix k N : Nat} {fs : List (Option Nat)} {C0 : String} {T : u_T} {ref : String} {v : Int} {ty : FieldType} (ty0 : Nat → FieldType) (hty : ∀ k, k < N → parseFieldDescriptor (T k).2.2.1 = some (ty0 k)) (hnm : ∀ a, a < N → ∀ b, b < N → a ≠ b → (T a).2.1 ≠ (T b).2.1) (hc : ly[c]? = some (.inr (ci, fs))) (hC : vwCl[ci]? = some (C0, T, N)) (hk : k < N) (hin : ∀ w ∈ u_ws C0 T N, w ∈ tb) (hw : Cond.fieldLink own ix ref (T k).2.1 (T k).2.2.1 ∈ tb) (hr : ref = (T k).1) (hfin : (T k).2.2.2 = false) (hd0 : parseFieldDescriptor (T k).2.2.1 = some ty) (hn : narrow ty (.int (Int32.ofInt v)) = .int (Int32.ofInt v) ∧ fits ty (.int (Int32.ofInt v)) = true) (hf : fs[k]? = some none) (hd : decode cc pc = .ok (.putfield ix, 3)) (kk : G ly X (pc + 3) L K (up s c k v)) : G ly X pc L (.inl v :: .inr c :: K) s := by
  obtain ⟨p, l, e, R, s0, m, args, below, meth, cd, Q, cells, slots, nL, A, D, ad, cI, cZ⟩ := X
  intro H locs ls hP hS hl
  subst hr
  have hl2 : k < fs.length := (List.getElem?_eq_some_iff.mp hf).1
  refine va_put (D := D) (A := A) (H0 := s0.heap) (ws := wld ly cI cZ ad s) (v := .int (Int32.ofInt v)) (ty := ty) C.1 C.2.1 C.2.2.2.2.1 hin ty0 hty hnm C.2.2.2.1 C.2.2.2.2.2.1 hP (wld_D C.2.2.2.2.2.2.1) hS c (wld_at hc) hC k hk (C.2.2.2.2.1 _ hw) (fun _ h => h) hfin hd0 hn.1 hn.2 (by simpa using hl2) hd (fun H1 locs1 hP1 _ hS1 => ?_)
  have e := wld_set (cI := cI) (cZ := cZ) (ad := ad) (s := s) (s' := up s c k v) hc (fun c' h => up_c h) (wE_put hf)
  rw [e] at hP1
  exact kk H1 locs1 ls hP1 hS1 hl
theorem fit_int (v : Int) : narrow .int (.int (Int32.ofInt v)) = .int (Int32.ofInt v) ∧ fits .int (.int (Int32.ofInt v)) = true := ⟨rfl, rfl⟩
theorem fit_bool {v : Int} (h : v = 0 ∨ v = 1) : narrow .boolean (.int (Int32.ofInt v)) = .int (Int32.ofInt v) ∧ fits .boolean (.int (Int32.ofInt v)) = true := by
  rcases h with rfl | rfl <;> exact ⟨by decide, by decide⟩
theorem G_iald (C : Ok ly X own cc n d) {c N : Nat} {i : Int} (hc : ly[c]? = some (.inl (N, false))) (hN : N < 2147483648) (hi : 0 ≤ i ∧ i < N) (hd : decode cc pc = .ok (.iaload, 1)) (kk : G ly X (pc + 1) L (.inl (s c i) :: K) s) : G ly X pc L (.inl i :: .inr c :: K) s := by
  obtain ⟨p, l, e, R, s0, m, args, below, meth, cd, Q, cells, slots, nL, A, D, ad, cI, cZ⟩ := X
  intro H locs ls hP hS hl
  refine va_iald (D := D) (tys := tyl cI cZ) (ws := wld ly cI cZ ad s) (f := fun j => Int32.ofInt (s c j)) C.1 C.2.1 C.2.2.2.2.2.1 hP c 0 (wld_at hc) rfl (oI_in hi.1 hi.2 hN) hd ?_
  rw [oI_clamp hi.1 (by omega), Int.toNat_of_nonneg hi.1]
  exact kk H locs ls hP hS hl
theorem G_zald (C : Ok ly X own cc n d) {c N : Nat} {i : Int} (hc : ly[c]? = some (.inl (N, true))) (hN : N < 2147483648) (hi : 0 ≤ i ∧ i < N) (hd : decode cc pc = .ok (.baload, 1)) (kk : G ly X (pc + 1) L (.inl (s c i) :: K) s) : G ly X pc L (.inl i :: .inr c :: K) s := by
  obtain ⟨p, l, e, R, s0, m, args, below, meth, cd, Q, cells, slots, nL, A, D, ad, cI, cZ⟩ := X
  intro H locs ls hP hS hl
  refine va_zald (D := D) (tys := tyl cI cZ) (ws := wld ly cI cZ ad s) (f := fun j => Int32.ofInt (s c j)) C.1 C.2.1 C.2.2.2.2.2.1 hP c 1 (wld_at hc) rfl (oI_in hi.1 hi.2 hN) hd ?_
  rw [oI_clamp hi.1 (by omega), Int.toNat_of_nonneg hi.1]
  exact kk H locs ls hP hS hl
theorem wE_ast {cI cZ : ClassId} {ad : Nat → Nat} {c N : Nat} {b : Bool} {i v : Int} (hi : 0 ≤ i) : wE cI cZ ad (up s c i v) c (.inl (N, b)) = .inl (if b = true then cZ else cI, N, .inl (upd (fun j => Int32.ofInt (s c j)) i.toNat (Int32.ofInt v))) := by
  show Sum.inl (_, N, Sum.inl _) = Sum.inl (_, N, Sum.inl _)
  congr 4
  funext j
  by_cases h : j = i.toNat
  · subst h
    simp [upd, Int.toNat_of_nonneg hi, up_at]
  · simp only [upd, if_neg h]
    rw [up_ne (fun q => h (by have := q.2; omega))]
theorem G_iast (C : Ok ly X own cc n d) {c N : Nat} {i v : Int} (hc : ly[c]? = some (.inl (N, false))) (hN : N < 2147483648) (hi : 0 ≤ i ∧ i < N) (hd : decode cc pc = .ok (.iastore, 1)) (kk : G ly X (pc + 1) L K (up s c i v)) : G ly X pc L (.inl v :: .inl i :: .inr c :: K) s := by
  obtain ⟨p, l, e, R, s0, m, args, below, meth, cd, Q, cells, slots, nL, A, D, ad, cI, cZ⟩ := X
  intro H locs ls hP hS hl
  refine va_iast (D := D) (A := A) (H0 := s0.heap) (tys := tyl cI cZ) (ws := wld ly cI cZ ad s) (f := fun j => Int32.ofInt (s c j)) C.1 C.2.1 C.2.2.2.2.2.1 hP (wld_D C.2.2.2.2.2.2.1) hS c 0 (wld_at hc) rfl (oI_in hi.1 hi.2 hN) hd (fun H1 locs1 hP1 _ hS1 => ?_)
  rw [oI_clamp hi.1 (by omega)] at hP1
  have e := wld_set (cI := cI) (cZ := cZ) (ad := ad) (s := s) (s' := up s c i v) hc (fun c' h => up_c h) (wE_ast hi.1)
  have hP2 : va_P D vwCl (wld ly cI cZ ad (up s c i v)) H1 := by rw [← e]; exact hP1
  exact kk H1 locs1 ls hP2 hS1 hl
theorem nar_b {v : Int} (h : v = 0 ∨ v = 1) : vp_nar .boolean (Int32.ofInt v) = Int32.ofInt v := by rcases h with rfl | rfl <;> decide
theorem G_zast (C : Ok ly X own cc n d) {c N : Nat} {i v : Int} (hc : ly[c]? = some (.inl (N, true))) (hN : N < 2147483648) (hi : 0 ≤ i ∧ i < N) (hv : v = 0 ∨ v = 1) (hd : decode cc pc = .ok (.bastore, 1)) (kk : G ly X (pc + 1) L K (up s c i v)) : G ly X pc L (.inl v :: .inl i :: .inr c :: K) s := by
  obtain ⟨p, l, e, R, s0, m, args, below, meth, cd, Q, cells, slots, nL, A, D, ad, cI, cZ⟩ := X
  intro H locs ls hP hS hl
  refine va_zast (D := D) (A := A) (H0 := s0.heap) (tys := tyl cI cZ) (ws := wld ly cI cZ ad s) (f := fun j => Int32.ofInt (s c j)) C.1 C.2.1 C.2.2.2.2.2.1 hP (wld_D C.2.2.2.2.2.2.1) hS c 1 (wld_at hc) rfl (oI_in hi.1 hi.2 hN) hd (fun H1 locs1 hP1 _ hS1 => ?_)
  rw [oI_clamp hi.1 (by omega), nar_b hv] at hP1
  have e := wld_set (cI := cI) (cZ := cZ) (ad := ad) (s := s) (s' := up s c i v) hc (fun c' h => up_c h) (wE_ast hi.1)
  have hP2 : va_P D vwCl (wld ly cI cZ ad (up s c i v)) H1 := by rw [← e]; exact hP1
  exact kk H1 locs1 ls hP2 hS1 hl
theorem G_alen (C : Ok ly X own cc n d) {c N : Nat} (hc : ly[c]? = some (.inl (N, false))) (hd : decode cc pc = .ok (.arraylength, 1)) (kk : G ly X (pc + 1) L (.inl N :: K) s) : G ly X pc L (.inr c :: K) s := by
  obtain ⟨p, l, e, R, s0, m, args, below, meth, cd, Q, cells, slots, nL, A, D, ad, cI, cZ⟩ := X
  intro H locs ls hP hS hl
  refine va_alen (D := D) (tys := tyl cI cZ) (ws := wld ly cI cZ ad s) (x := (N, .inl (fun j => Int32.ofInt (s c j)))) (v := Int32.ofInt (N : Int)) C.1 C.2.1 C.2.2.2.2.2.1 hP c 0 (wld_at hc) rfl (by first | rfl | simp [Int32.ofInt_eq_ofNat] | exact (Int32.ofInt_natCast N).symm) hd (kk H locs ls hP hS hl)
/-- the static arrays -/
theorem G_gets (C : Ok ly X own cc n d) {ix q : Nat} {nm : String} (hq : (q = 500 ∧ nm = "LEAST_SETTING") ∨ (q = 501 ∧ nm = "GREATEST_SETTING")) (hw : Cond.fieldLink own ix "ByAlphabet" nm "[I" ∈ tb) (hd : decode cc pc = .ok (.getstatic ix, 3)) (kk : G ly X (pc + 3) L (.inr q :: K) s) : G ly X pc L K s := by
  obtain ⟨p, l, e, R, s0, m, args, below, meth, cd, Q, cells, slots, nL, A, D, ad, cI, cZ⟩ := X
  intro H locs ls hP hS hl
  have hz : va_Z "ByAlphabet" nm "[I" (.ref (ad q)) A s0 s0.heap := by
    rcases hq with ⟨rfl, rfl⟩ | ⟨rfl, rfl⟩
    · exact C.2.2.2.2.2.2.2.2.2.2.1.1
    · exact C.2.2.2.2.2.2.2.2.2.2.2.1.1
  exact va_gets C.1 C.2.1 hz hS C.2.2.2.1 (C.2.2.2.2.1 _ hw) (fun _ h => h) hd (kk H locs ls hP hS hl)
theorem G_sald (C : Ok ly X own cc n d) {q : Nat} {i : Int} (hq : q = 500 ∨ q = 501) (hi : 0 ≤ i ∧ i < 7) (hd : decode cc pc = .ok (.iaload, 1)) (kk : G ly X (pc + 1) L (.inl (stA q i) :: K) s) : G ly X pc L (.inl i :: .inr q :: K) s := by
  obtain ⟨p, l, e, R, s0, m, args, below, meth, cd, Q, cells, slots, nL, A, D, ad, cI, cZ⟩ := X
  intro H locs ls hP hS hl
  have hz : va_T .int (ad q) 7 (fun j => .int (Int32.ofInt (stA q j))) A s0 s0.heap := by
    rcases hq with rfl | rfl
    · exact C.2.2.2.2.2.2.2.2.2.2.1.2
    · exact C.2.2.2.2.2.2.2.2.2.2.2.1.2
  refine va_ti C.1 C.2.1 hz hS (oI_in hi.1 hi.2 (by decide)) ?_ hd (kk H locs ls hP hS hl)
  rw [oI_clamp hi.1 (by omega), Int.toNat_of_nonneg hi.1]
  rfl
theorem lh_size {ad : Nat → Nat} {ls : Array Slot} {nL : Nat} (hl : lh ad ls nL L) : nL = ls.size := hl.1.symm
theorem K_cat (ad : Nat → Nat) (K : List Vl) : ((K.map (cV ad)).map fun v => v.category).sum = K.length := by
  induction K with
  | nil => rfl
  | cons v K ih => simp only [List.map_cons, List.sum_cons, List.length_cons, cV_cat, ih]; omega
theorem wE_cpy {cI cZ : ClassId} {ad : Nat → Nat} {src dst N : Nat} {sp dp k : Int} (h1 : 0 ≤ sp) (h2 : 0 ≤ dp) (h3 : 0 ≤ k) : wE cI cZ ad (cpy s src dst sp dp k) dst (.inl (N, false)) = .inl (cI, N, .inl (va_cpy (fun j => Int32.ofInt (s src j)) (fun j => Int32.ofInt (s dst j)) sp.toNat dp.toNat k.toNat)) := by
  show Sum.inl (_, N, Sum.inl _) = Sum.inl (_, N, Sum.inl _)
  congr 4
  funext j
  by_cases h : dp.toNat ≤ j ∧ j < dp.toNat + k.toNat
  · simp only [va_cpy, if_pos h]
    have e : cpy s src dst sp dp k dst j = s src (sp + ((j : Int) - dp)) := by
      unfold cpy
      exact if_pos ⟨rfl, by omega, by omega⟩
    rw [e]
    congr 2
    omega
  · simp only [va_cpy, if_neg h]
    have e : cpy s src dst sp dp k dst j = s dst j := by
      unfold cpy
      exact if_neg (fun q => h ⟨by omega, by omega⟩)
    rw [e]
theorem G_copy (C : Ok ly X own cc n d) {src dst N0 N1 ix : Nat} {sp dp k : Int} (hc0 : ly[src]? = some (.inl (N0, false))) (hc1 : ly[dst]? = some (.inl (N1, false))) (hN : N0 < 1000000 ∧ N1 < 1000000) (hi : (0 ≤ sp ∧ 0 ≤ dp ∧ 0 ≤ k) ∧ sp + k ≤ N0 ∧ dp + k ≤ N1) (hd1 : 1 ≤ d) (hK : K.length ≤ 8) (hw : Cond.methodLink own ix arraycopyName ∈ tb) (hw2 : Cond.native arraycopyName ∈ tb ∧ Cond.static arraycopyName ∈ tb ∧ Cond.initialized "java/lang/System" ∈ tb) (hd : decode cc pc = .ok (.invokestatic ix, 3)) (kk : G ly X (pc + 3) L K (cpy s src dst sp dp k)) : G ly X pc L (.inl k :: .inl dp :: .inr dst :: .inl sp :: .inr src :: K) s := by
  obtain ⟨p, l, e, R, s0, m, args, below, meth, cd, Q, cells, slots, nL, A, D, ad, cI, cZ⟩ := X
  intro H locs ls hP hS hl
  have z0 : rg 0 := by decide
  have r1 : rg sp := ⟨by omega, by omega⟩
  have r2 : rg dp := ⟨by omega, by omega⟩
  have r3 : rg k := ⟨by omega, by omega⟩
  have hnw : nativeFrameWords "java/lang/System" "arraycopy" 5 ≤ 41 := by decide +kernel
  have e1 := oI_clamp hi.1.1 (by omega)
  have e2 := oI_clamp hi.1.2.1 (by omega)
  have e3 := oI_clamp hi.1.2.2 (by omega)
  have hlo : 60 ≤ R.locals := by have := C.2.2.2.2.2.2.2.2.2.1.2; omega
  refine va_copyi (D := D) (A := A) (H0 := s0.heap) (tys := tyl cI cZ) (ws := wld ly cI cZ ad s) (rest := K.map (cV ad)) (f := fun j => Int32.ofInt (s src j)) (g := fun j => Int32.ofInt (s dst j)) (ty := .int) C.1 C.2.1 (by rw [C.2.2.1.1]; exact lh_size hl) C.2.2.2.1 (C.2.2.2.2.1 _ hw) (C.2.2.2.2.1 _ hw2.1) (C.2.2.2.2.1 _ hw2.2.1) (C.2.2.2.2.1 _ hw2.2.2) C.2.2.2.2.2.1 hP (wld_D C.2.2.2.2.2.2.1) hS src dst 0 0 (wld_at hc0) (wld_at hc1) rfl rfl rfl
    (fun q => by have := (oI_lt r1 z0).mp q; omega) (fun q => by have := (oI_lt r2 z0).mp q; omega) (fun q => by have := (oI_lt r3 z0).mp q; omega) (by rw [e1, e3]; omega) (by rw [e2, e3]; omega) (fun _ _ => rfl) (by have := C.2.2.2.2.2.2.2.2.2.1.1; omega) (by rw [K_cat]; omega) hd (fun H1 locs1 hP1 _ hS1 => ?_)
  rw [e1, e2, e3] at hP1
  have e := wld_set (cI := cI) (cZ := cZ) (ad := ad) (s := s) (s' := cpy s src dst sp dp k) hc1 (fun c' h => by funext i; simp [cpy, h]) (wE_cpy hi.1.1 hi.1.2.1 hi.1.2.2)
  have hP2 : va_P D vwCl (wld ly cI cZ ad (cpy s src dst sp dp k)) H1 := by rw [← e]; exact hP1
  exact kk H1 locs1 ls hP2 hS1 hl
theorem G_max (C : Ok ly X own cc n d) {ix : Nat} {a b : Int} (h : rg a ∧ rg b) (hd1 : 1 ≤ d) (hK : K.length ≤ 8) (hw : Cond.methodLink own ix Lib.Math.max.name ∈ tb) (hw2 : Cond.static Lib.Math.max.name ∈ tb ∧ Cond.initialized "java/lang/Math" ∈ tb ∧ Cond.code Lib.Math.max.name Lib.Math.max.code 2 (some .int) ∈ tb) (hd : decode cc pc = .ok (.invokestatic ix, 3)) (kk : G ly X (pc + 3) L (.inl (max a b) :: K) s) : G ly X pc L (.inl b :: .inl a :: K) s := by
  obtain ⟨p, l, e, R, s0, m, args, below, meth, cd, Q, cells, slots, nL, A, D, ad, cI, cZ⟩ := X
  intro H locs ls hP hS hl
  have hlo : 60 ≤ R.locals := by have := C.2.2.2.2.2.2.2.2.2.1.2; omega
  refine va_mmax (rest := K.map (cV ad)) C.1 C.2.1 (by rw [C.2.2.1.1]; exact lh_size hl) C.2.2.2.1 (C.2.2.2.2.1 _ hw) (C.2.2.2.2.1 _ hw2.1) (C.2.2.2.2.1 _ hw2.2.1) (C.2.2.2.2.1 _ hw2.2.2) (by have := C.2.2.2.2.2.2.2.2.2.1.1; omega) (by rw [K_cat]; omega) C.2.2.2.2.2.2.2.2.1.1 C.2.2.2.2.2.2.2.2.1.2 hd ?_
  rw [show (if Int32.ofInt a < Int32.ofInt b then Int32.ofInt b else Int32.ofInt a) = Int32.ofInt (max a b) from by
    by_cases q : a < b
    · rw [if_pos ((oI_lt h.1 h.2).mpr q), Int.max_eq_right (by omega)]
    · rw [if_neg (fun z => q ((oI_lt h.1 h.2).mp z)), Int.max_eq_left (by omega)]]
  exact kk H locs ls hP hS hl
theorem G_min (C : Ok ly X own cc n d) {ix : Nat} {a b : Int} (h : rg a ∧ rg b) (hd1 : 1 ≤ d) (hK : K.length ≤ 8) (hw : Cond.methodLink own ix Lib.Math.min.name ∈ tb) (hw2 : Cond.static Lib.Math.min.name ∈ tb ∧ Cond.initialized "java/lang/Math" ∈ tb ∧ Cond.code Lib.Math.min.name Lib.Math.min.code 2 (some .int) ∈ tb) (hd : decode cc pc = .ok (.invokestatic ix, 3)) (kk : G ly X (pc + 3) L (.inl (min a b) :: K) s) : G ly X pc L (.inl b :: .inl a :: K) s := by
  obtain ⟨p, l, e, R, s0, m, args, below, meth, cd, Q, cells, slots, nL, A, D, ad, cI, cZ⟩ := X
  intro H locs ls hP hS hl
  have hlo : 60 ≤ R.locals := by have := C.2.2.2.2.2.2.2.2.2.1.2; omega
  refine va_mmin (rest := K.map (cV ad)) C.1 C.2.1 (by rw [C.2.2.1.1]; exact lh_size hl) C.2.2.2.1 (C.2.2.2.2.1 _ hw) (C.2.2.2.2.1 _ hw2.1) (C.2.2.2.2.1 _ hw2.2.1) (C.2.2.2.2.1 _ hw2.2.2) (by have := C.2.2.2.2.2.2.2.2.2.1.1; omega) (by rw [K_cat]; omega) C.2.2.2.2.2.2.2.2.1.1 C.2.2.2.2.2.2.2.2.1.2 hd ?_
  have k2 := kk H locs ls hP hS hl
  by_cases q : a < b
  · rw [Int.min_eq_left (by omega)] at k2
    first
      | (rw [if_pos ((oI_lt h.1 h.2).mpr q)]; exact k2)
      | (rw [if_neg (fun z => absurd ((oI_lt h.2 h.1).mp z) (by omega))]; exact k2)
      | (rw [if_pos ((oI_le h.1 h.2).mpr (by omega))]; exact k2)
      | (rw [if_neg (fun z => absurd ((oI_le h.2 h.1).mp z) (by omega))]; exact k2)
  · rw [Int.min_eq_right (by omega)] at k2
    by_cases q2 : a = b
    · subst q2
      simp only [ite_self]
      exact k2
    · first
      | (rw [if_neg (fun z => q ((oI_lt h.1 h.2).mp z))]; exact k2)
      | (rw [if_pos ((oI_lt h.2 h.1).mpr (by omega))]; exact k2)
      | (rw [if_neg (fun z => absurd ((oI_le h.1 h.2).mp z) (by omega))]; exact k2)
      | (rw [if_pos ((oI_le h.2 h.1).mpr (by omega))]; exact k2)
theorem G_abs (C : Ok ly X own cc n d) {ix : Nat} {a : Int} (h : rg a) (hd1 : 1 ≤ d) (hK : K.length ≤ 8) (hw : Cond.methodLink own ix Lib.Math.abs.name ∈ tb) (hw2 : Cond.static Lib.Math.abs.name ∈ tb ∧ Cond.initialized "java/lang/Math" ∈ tb ∧ Cond.code Lib.Math.abs.name Lib.Math.abs.code 1 (some .int) ∈ tb) (hd : decode cc pc = .ok (.invokestatic ix, 3)) (kk : G ly X (pc + 3) L (.inl (xabs a) :: K) s) : G ly X pc L (.inl a :: K) s := by
  obtain ⟨p, l, e, R, s0, m, args, below, meth, cd, Q, cells, slots, nL, A, D, ad, cI, cZ⟩ := X
  intro H locs ls hP hS hl
  have hlo : 60 ≤ R.locals := by have := C.2.2.2.2.2.2.2.2.2.1.2; omega
  refine va_mabs (rest := K.map (cV ad)) C.1 C.2.1 (by rw [C.2.2.1.1]; exact lh_size hl) C.2.2.2.1 (C.2.2.2.2.1 _ hw) (C.2.2.2.2.1 _ hw2.1) (C.2.2.2.2.1 _ hw2.2.1) (C.2.2.2.2.1 _ hw2.2.2) (by have := C.2.2.2.2.2.2.2.2.2.1.1; omega) (by rw [K_cat]; omega) C.2.2.2.2.2.2.2.2.1.1 C.2.2.2.2.2.2.2.2.1.2 hd ?_
  rw [show (if 0 ≤ Int32.ofInt a then Int32.ofInt a else 0 - Int32.ofInt a) = Int32.ofInt (xabs a) from by
    have z0 : rg 0 := by decide
    unfold xabs
    have hz : (0 : Int32) ≤ Int32.ofInt a ↔ 0 ≤ a := oI_le z0 h
    by_cases q : 0 ≤ a
    · rw [if_pos q, if_pos (hz.mpr q)]
    · rw [if_neg q, if_neg (fun z => q (hz.mp z)), ← oI_sub]
      rfl]
  exact kk H locs ls hP hS hl
end BR
