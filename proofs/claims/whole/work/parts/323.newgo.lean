/-! CONSTRUCTORS: a method called on the cells made so far -/
theorem Stat.ad {A : Nat → Prop} {ad ad' : Nat → Nat} {U : State} {H : Heap} (h : Stat A ad U H) (e : ∀ k : Nat, 500 ≤ k → ad' k = ad k) : Stat A ad' U H := by
  have e3 : (fun i => ad' (503 + i)) = fun i => ad (503 + i) := by funext i; exact e _ (by omega)
  have e5 : (fun i => ad' (505 + i)) = fun i => ad (505 + i) := by funext i; exact e _ (by omega)
  unfold Stat at h ⊢
  rw [e 500 (by decide), e 501 (by decide), e 502 (by decide), e 503 (by decide), e 504 (by decide), e3, e5]
  exact h
theorem wld_ad {A : Nat → Prop} {ad : Nat → Nat} {ly : List Sh} {cI cZ : ClassId} {s : Sto} (h : va_D A (wld ly cI cZ ad s)) : adOk A ad ly := by
  have g : ∀ i, i < ly.length → ∃ E, (wld ly cI cZ ad s)[i]? = some (ad i, E) := fun i hi => ⟨_, wld_at (List.getElem?_eq_getElem hi)⟩
  refine ⟨fun i j hi hj e => ?_, fun i hi => ?_⟩
  · obtain ⟨E1, h1⟩ := g i hi
    obtain ⟨E2, h2⟩ := g j hj
    exact h.1 i j _ _ h1 h2 e
  · obtain ⟨E1, h1⟩ := g i hi
    exact h.2 i _ h1
theorem N_go {X : Nx} {own : String} {cc : ByteArray} {d mc ms h0 pc : Nat} {ly : List Sh} {ad' : Nat → Nat} {s : Sto} {cells slots : Nat} (C : NOk X own cc d mc ms) {cI cZ : ClassId} (eI : cI = X.2.2.2.2.2.2.2.2.2.2.2.2.2.2.1) (eZ : cZ = X.2.2.2.2.2.2.2.2.2.2.2.2.2.2.2) (ead : ∀ k : Nat, 500 ≤ k → ad' k = X.2.2.2.2.2.2.2.2.2.2.2.2.2.1 k) {M : Mt} {ix c ci N d' : Nat} {args : List Vl} {Q : Sto → Prop} {fs : List (Option Nat)} {T : u_T} (hc : ly[c]? = some (.inr (ci, fs))) (hC : vwCl[ci]? = some (M.1.cls, T, N)) (hM : mtOk M args.length) (hw : wcV own ix M) (hd' : d' < d) (hm : cells ≤ mc ∧ slots ≤ ms) (hdg : decode cc pc = .ok (.invokevirtual ix, 3)) (hcl : ClV ly d' M (.inr c :: args) s Q) (kk : ∀ (s2 : Sto), Q s2 → NG X h0 (pc + 3) [] (wld ly cI cZ ad' s2) cells slots) : NG X h0 pc ((args.reverse ++ [(.inr c : Vl)]).map (cV ad')) (wld ly cI cZ ad' s) cells slots := by
  obtain ⟨p, l, e, R, s0, m, args0, below, meth, cd, Q0, A, D, ad, cI', cZ'⟩ := X
  intro H locs ls hP hD hS hl
  change cI = cI' at eI
  change cZ = cZ' at eZ
  subst eI
  subst eZ
  have had := wld_ad hD
  have hcr := C.2.2.2.2.2.2.2.1
  have hF : ∀ q, A1 ly ad' H.size q → A q := by
    intro q h
    rcases h with ⟨k, hk, rfl⟩ | h
    · exact had.2 k hk
    · exact C.2.2.2.2.2.2.1 q (Nat.le_trans hS.1 h)
  have hrm : (rmd d').frames + 1 ≤ R.frames ∧ 8 + (M.2.2.1 + 11) + (rmd d').locals ≤ R.locals := by
    have h1 := C.2.2.2.2.2.2.2.2.1
    have h2 := hM.1
    show d' + 1 ≤ R.frames ∧ 8 + (M.2.2.1 + 11) + 60 * d' ≤ R.locals
    omega
  have hbl : ∀ args : List Vl, FrameBlind (va_Pc (args.map (cV ad')) (Pre ly D cI cZ ad' H.size s)) := fun args a U g mk q => by
    obtain ⟨q0, q1, qP, qK, qD, qS⟩ := q
    exact ⟨q0, q1, qP, va_K.moved (u := U) (U := U.calling g mk a) (Vm.Alike.refl U.vm) qK, qD, qS.same rfl⟩
  have hpre : ∀ U : State, U.heap = H → s0.WarmedH U.vm → Pre ly D cI cZ ad' H.size s U := fun U hU hW => ⟨by rw [hU], by rw [hU]; exact hP, va_K.moved hW.alike C.2.2.2.2.2.1, ⟨had.1, fun _ _ => trivial⟩, by rw [hU]; exact (C.2.2.2.2.2.2.2.2.2.2.ad ead).warm hW hS.2.1 hF⟩
  refine va_callv (A0 := A) (H0 := s0.heap) (rest := []) (va_runV (As := args.map (cV ad')) (b := ad' c) (Ts := tb) (nL := 1) (C := M.1.cls) (n := args.length) ⟨C.1, C.2.1, C.2.2.1, C.2.2.2.1, C.2.2.2.2.1⟩ (hcl l D cI cZ ad' H.size) (cwV args.length C.2.2.2.2.1 (good_sub (fun w h => ?_)) rfl rfl rfl ⟨rfl, hM.2⟩ hrm) ⟨hbl (.inr c :: args), va_recv C.2.2.2.2.2.1 hP hC (wld_at hc), fun U hU hW => ⟨rfl, hpre U hU hW⟩⟩ rfl (by simp) hl.1 (by simp [cV]) (lv_room (by simp)) hdg ⟨by omega, by omega⟩) hS (fun q _ h => hF q h) hF (fun u t H1 locs1 ht hvm hw hB hz1 hk1 hS1 => ?_)
  · rcases List.mem_append.mp h with h | h
    · simp only [List.mem_cons, List.not_mem_nil, or_false] at h
      rcases h with rfl | rfl | rfl | rfl
      · exact hw.1
      · exact hw.2.1
      · exact hw.2.2.1
      · exact hw.2.2.2.1
    · rcases List.mem_cons.mp h with rfl | h
      · exact hw.2.2.2.2
      · exact h
  have hP1 : va_P D vwCl (wld ly cI cZ ad' u) t.heap := hB
  rw [ht] at hP1
  exact kk u hw H1 locs1 ls hP1 (wld_D had) hS1 hl
theorem NG_to {X : Nx} {h0 pc : Nat} {K K' : List Value} {ws ws' : va_W} {cells slots : Nat} (e : ws = ws') (eK : K = K') (h : NG X h0 pc K' ws' cells slots) : NG X h0 pc K ws cells slots := by
  rw [e, eK]; exact h
abbrev fL (c k : Nat) : Int32 := Int32.ofInt (sL0 c k)
abbrev aL (c : Nat) : Nat → Int32 := fun j => Int32.ofInt (sL0 c j)
