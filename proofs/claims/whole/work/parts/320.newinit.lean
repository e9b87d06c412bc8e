/-! CONSTRUCTORS: arrays with what they begin with -/
def nLs (l : List Int32) : Nat → Int32 := fun j => l.getD j 0
theorem nLs_app (l : List Int32) (v : Int32) : upd (nLs l) l.length v = nLs (l ++ [v]) := by
  funext j
  by_cases h : j = l.length
  · subst h
    simp [upd, nLs]
  · simp only [upd, if_neg h, nLs]
    by_cases h2 : j < l.length
    · simp [List.getD_eq_getElem?_getD, List.getElem?_append_left h2]
    · simp [List.getD_eq_getElem?_getD, List.getElem?_eq_none (by omega : l.length ≤ j), List.getElem?_eq_none (by simp; omega : (l ++ [v]).length ≤ j)]
theorem N_iast {X : Nx} {own : String} {cc : ByteArray} {d mc ms h0 pc : Nat} {K : List Value} {ws : va_W} {cells slots : Nat} (C : NOk X own cc d mc ms) {cA : ClassId} (ec : cA = X.2.2.2.2.2.2.2.2.2.2.2.2.2.2.1) {N q0 a i : Nat} {f : Nat → Int32} {v w : Int32} (l : List Int32) (he : ws[q0]? = some (a, .inl (cA, N, .inl f))) (hf : f = nLs l) (hi : l.length = i ∧ (w = Int32.ofInt i ∧ i < N ∧ N < 2147483648) ∧ w.toNatClampNeg = i) (hd : decode cc pc = .ok (.iastore, 1)) (kk : NG X h0 (pc + 1) K (ws.set q0 (a, .inl (cA, N, .inl (nLs (l ++ [v]))))) cells slots) : NG X h0 pc (.int v :: .int w :: .ref a :: K) ws cells slots := by
  obtain ⟨p, lc, e, R, s0, m, args, below, meth, c, Q, A, D, ad, cI, cZ⟩ := X
  intro H locs ls hP hD hS hl
  subst hf
  change cA = cI at ec; subst ec
  refine va_iast (D := D) (A := A) (H0 := s0.heap) (tys := tyl cA cZ) (ws := ws) (f := nLs l) C.1 C.2.1 C.2.2.2.2.2.1 hP hD hS q0 0 he rfl ?_ hd (fun H1 locs1 hP1 hD1 hS1 => ?_)
  · rw [hi.2.1.1]; exact oI_in (by omega) (by omega) hi.2.1.2.2
  · rw [hi.2.2, ← hi.1, nLs_app] at hP1 hD1
    exact kk H1 locs1 ls hP1 hD1 hS1 hl
