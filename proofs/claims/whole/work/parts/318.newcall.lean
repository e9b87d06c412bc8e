/-! CONSTRUCTORS: one called by another -/
theorem N_call {X : Nx} {own : String} {cc : ByteArray} {d mc ms h0 pc : Nat} {K : List Value} {wr : va_W} {cells slots : Nat} (C : NOk X own cc d mc ms) {M : Mt} {d' mc' ms' ci ix q : Nat} {fs : List Value} {F : ClassId → ClassId → Nat → List Nat → va_W} (hcl : NCl d' mc' ms' M ci fs F) (hd' : d' < d) (hM : mtOk M 0 ∧ M.2.2.1 = 1) (hw : Cond.methodLink own ix M.1 ∈ tb ∧ Cond.instanceMethod M.1 ∈ tb ∧ Cond.initialized M.1.cls ∈ tb ∧ Cond.code M.1 M.2.1 M.2.2.1 M.2.2.2 ∈ tb) (hnm : M.1.name = "<init>") (hrt : M.2.2.2 = none) (hK : (K.map fun v => v.category).sum ≤ 8) (hm : cells + mc' ≤ mc ∧ slots + ms' ≤ ms) (isR : List Nat) (hR : isR.map (fun i => (wr ++ [(q, .inr (ci, fs))])[i]?) = wr.map some) (hnd : va_nd isR = true) (hdis0 : isR.all (fun i => decide (i ≠ wr.length)) = true) (hdg : decode cc pc = .ok (.invokespecial ix, 3)) (kk : ∀ (qs : List Nat) (cI cZ : ClassId), cI = X.2.2.2.2.2.2.2.2.2.2.2.2.2.2.1 → cZ = X.2.2.2.2.2.2.2.2.2.2.2.2.2.2.2 → NG X h0 (pc + 3) K (wr ++ F cI cZ q qs) (cells + mc') (slots + ms')) : NG X h0 pc (.ref q :: K) (wr ++ [(q, .inr (ci, fs))]) cells slots := by
  obtain ⟨p, l, e, R, s0, m, args, below, meth, c, Q, A, D, ad, cI, cZ⟩ := X
  intro H locs ls hP hD hS hl
  have hc1 : [wr.length].map (fun i => (wr ++ [(q, .inr (ci, fs))])[i]?) = ([(q, .inr (ci, fs))] : va_W).map some := by simp
  have hPc := hP.sub (ws' := [(q, .inr (ci, fs))]) [wr.length] (by simp)
  have hDc := hD.sub (ws' := [(q, .inr (ci, fs))]) [wr.length] (by simp [va_nd]) (by simp)
  have hFc := va_free (wc := [(q, .inr (ci, fs))]) hD hS C.2.2.2.2.2.2.1 [wr.length] hc1
  have hdis : ∀ i ∈ isR, i ∉ [wr.length] := fun i hi => by
    have := List.all_eq_true.mp hdis0 i hi
    simpa using this
  have hcr := C.2.2.2.2.2.2.2.1
  have hrm := C.2.2.2.2.2.2.2.2.1
  have hst := C.2.2.2.2.2.2.2.2.2.2
  have good : GoodIn tb (wM M) := good_sub (fun w h => by
    rcases List.mem_cons.mp h with rfl | h
    · exact hw.2.2.2
    · exact h)
  refine va_callv (va_runI (As := []) (rest := K) ⟨C.1, C.2.1, C.2.2.1, C.2.2.2.1, C.2.2.2.2.1⟩ (hcl l D ad cI cZ q H.size) (cwI 0 C.2.2.2.2.1 good (by unfold wM; rw [hrt]) rfl rfl (C.2.2.2.2.1 _ hw.2.2.1) (C.2.2.2.2.1 _ hw.1) (C.2.2.2.2.1 _ hw.2.1) hnm hM.1.2 ?_) ⟨fun a U g mk qq => by
      obtain ⟨q0, q1, qP, qK, qD, qS⟩ := qq
      exact ⟨q0, q1, qP, va_K.moved (u := U) (U := U.calling g mk a) (Vm.Alike.refl U.vm) qK, qD, qS.same rfl⟩, fun U hU hW => ⟨rfl, by rw [hU], by rw [hU]; exact hPc, va_K.moved hW.alike C.2.2.2.2.2.1, hDc.weaken (fun _ _ _ _ => trivial), by rw [hU]; exact hst.warm hW hS.2.1 hFc⟩⟩ rfl rfl hl.1 rfl (lv_room hK) hdg ⟨by omega, by omega⟩) hS (fun q _ h => hFc q h) hFc (fun u t H1 locs1 ht hvm hw1 hB hz1 hk1 hS1 => ?_)
  · have h2 := hM.2
    show d' + 1 ≤ R.frames ∧ 8 + (M.2.2.1 + 11) + 60 * d' ≤ R.locals
    omega
  · obtain ⟨qs, hP1, hD1⟩ := hB
    rw [ht] at hP1
    obtain ⟨hP2, hD2⟩ := va_join (wr := wr) (w1 := F cI cZ q qs) hP hD [wr.length] isR hc1 hR hnd hdis hk1 hFc hP1 hD1
    exact kk qs cI cZ rfl rfl H1 locs1 ls hP2 hD2 hS1 hl
