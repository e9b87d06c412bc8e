/-! THE START: statics and texts -/
abbrev gvn : Cond := Jvm.Cond.and given_1 narrow_1
theorem gv_500 : Cond.arrayOf (Term.static "ByAlphabet" "LEAST_SETTING" "[I") .int ∈ flatC gvn ∧ Cond.eq (.length (Term.static "ByAlphabet" "LEAST_SETTING" "[I")) (.int 7) ∈ flatC gvn ∧ ∀ j : Nat, j < 7 → Cond.eq (.elem (Term.static "ByAlphabet" "LEAST_SETTING" "[I") (.int (Int32.ofNat j))) (.int (Int32.ofInt (stA 500 (j : Int)))) ∈ flatC gvn := by decide +kernel
theorem tw_500 : Cond.laysStatic "ByAlphabet" "LEAST_SETTING" "[I" ∈ lw_tbl := (List.mem_of_getElem? (i := 793) (by decide +kernel))
theorem tw_ini : Cond.initialized "ByAlphabet" ∈ lw_tbl := (List.mem_of_getElem? (i := 113) (by decide +kernel))
theorem st_500 {s : State} {a : Array Value} {A : Nat → Prop} (hts : ∀ w ∈ lw_tbl, w.before a s = true) (hs : ∀ w ∈ flatC gvn, w.before a s = true) (hA : ∀ x : Nat, x < s.heap.size → ¬ A x) : ∃ t : Nat, va_Z "ByAlphabet" "LEAST_SETTING" "[I" (.ref t) A s s.heap ∧ va_T .int t 7 (fun j => .int (Int32.ofInt (stA 500 j))) A s s.heap := by
  obtain ⟨t, h1, h2⟩ := va_Tof (N := 7) (f := fun j => .int (Int32.ofInt (stA 500 j))) (by decide) (hs _ gv_500.1) (va_eqt (hs _ gv_500.2.1)) (fun j hj => va_eqt (hs _ (gv_500.2.2 j hj))) hA
  exact ⟨t, va_Zof (hts _ tw_500) (hts _ tw_ini) h1 hA, h2⟩
theorem gv_501 : Cond.arrayOf (Term.static "ByAlphabet" "GREATEST_SETTING" "[I") .int ∈ flatC gvn ∧ Cond.eq (.length (Term.static "ByAlphabet" "GREATEST_SETTING" "[I")) (.int 7) ∈ flatC gvn ∧ ∀ j : Nat, j < 7 → Cond.eq (.elem (Term.static "ByAlphabet" "GREATEST_SETTING" "[I") (.int (Int32.ofNat j))) (.int (Int32.ofInt (stA 501 (j : Int)))) ∈ flatC gvn := by decide +kernel
theorem tw_501 : Cond.laysStatic "ByAlphabet" "GREATEST_SETTING" "[I" ∈ lw_tbl := (List.mem_of_getElem? (i := 795) (by decide +kernel))
theorem st_501 {s : State} {a : Array Value} {A : Nat → Prop} (hts : ∀ w ∈ lw_tbl, w.before a s = true) (hs : ∀ w ∈ flatC gvn, w.before a s = true) (hA : ∀ x : Nat, x < s.heap.size → ¬ A x) : ∃ t : Nat, va_Z "ByAlphabet" "GREATEST_SETTING" "[I" (.ref t) A s s.heap ∧ va_T .int t 7 (fun j => .int (Int32.ofInt (stA 501 j))) A s s.heap := by
  obtain ⟨t, h1, h2⟩ := va_Tof (N := 7) (f := fun j => .int (Int32.ofInt (stA 501 j))) (by decide) (hs _ gv_501.1) (va_eqt (hs _ gv_501.2.1)) (fun j hj => va_eqt (hs _ (gv_501.2.2 j hj))) hA
  exact ⟨t, va_Zof (hts _ tw_501) (hts _ tw_ini) h1 hA, h2⟩
theorem gv_502 : Cond.arrayOf (Term.static "ByAlphabet" "FIRST_SETTING" "[I") .int ∈ flatC gvn ∧ Cond.eq (.length (Term.static "ByAlphabet" "FIRST_SETTING" "[I")) (.int 7) ∈ flatC gvn ∧ ∀ j : Nat, j < 7 → Cond.eq (.elem (Term.static "ByAlphabet" "FIRST_SETTING" "[I") (.int (Int32.ofNat j))) (.int (Int32.ofInt (stA 502 (j : Int)))) ∈ flatC gvn := by decide +kernel
theorem tw_502 : Cond.laysStatic "ByAlphabet" "FIRST_SETTING" "[I" ∈ lw_tbl := (List.mem_of_getElem? (i := 243) (by decide +kernel))
theorem st_502 {s : State} {a : Array Value} {A : Nat → Prop} (hts : ∀ w ∈ lw_tbl, w.before a s = true) (hs : ∀ w ∈ flatC gvn, w.before a s = true) (hA : ∀ x : Nat, x < s.heap.size → ¬ A x) : ∃ t : Nat, va_Z "ByAlphabet" "FIRST_SETTING" "[I" (.ref t) A s s.heap ∧ va_T .int t 7 (fun j => .int (Int32.ofInt (stA 502 j))) A s s.heap := by
  obtain ⟨t, h1, h2⟩ := va_Tof (N := 7) (f := fun j => .int (Int32.ofInt (stA 502 j))) (by decide) (hs _ gv_502.1) (va_eqt (hs _ gv_502.2.1)) (fun j hj => va_eqt (hs _ (gv_502.2.2 j hj))) hA
  exact ⟨t, va_Zof (hts _ tw_502) (hts _ tw_ini) h1 hA, h2⟩
def tmS (i : Nat) : Term := .string "ByAlphabet$Reader" (if i = 0 then 84 else 92)
theorem gv_s1 : ∀ i : Nat, i < 2 → Cond.exactly (tmS i) "java/lang/String" ∈ flatC gvn ∧ Cond.eq ((tmS i).field "java/lang/String" "coder" "B") (.int 0) ∈ flatC gvn ∧ Cond.arrayOf ((tmS i).field "java/lang/String" "value" "[B") .byte ∈ flatC gvn ∧ Cond.eq ((tmS i).field "java/lang/String" "value" "[B").length (.int (Int32.ofNat ([10, 80].getD i 0))) ∈ flatC gvn := by decide +kernel
theorem gv_s2 : ∀ i : Nat, i < 2 → ∀ j : Nat, j < [10, 80].getD i 0 → Cond.eq (((tmS i).field "java/lang/String" "value" "[B").elem (.int (Int32.ofNat j))) (.int (([bySigns, byWords].getD i []).getD j 0)) ∈ flatC gvn := by decide +kernel
theorem gv_s3 : ∀ i : Nat, i < 2 → ∀ j : Nat, j < 2 → i ≠ j → (Cond.eq (tmS i) (tmS j)).not ∈ flatC gvn ∨ (Cond.eq (tmS j) (tmS i)).not ∈ flatC gvn := by decide +kernel
theorem gv_c : Cond.eq (.static "java/lang/String" "COMPACT_STRINGS" "Z") (.int 1) ∈ flatC gvn ∧ Cond.isRef (.static "jdk/internal/util/Preconditions" "SIOOBE_FORMATTER" "Ljava/util/function/BiFunction;") ∈ flatC gvn := by decide +kernel
theorem tw_s0 : Cond.stringRef "ByAlphabet$Reader" 84 txSigns ∈ lw_tbl := (List.mem_of_getElem? (i := 641) (by decide +kernel))
theorem tw_s1 : Cond.stringRef "ByAlphabet$Reader" 92 txWords ∈ lw_tbl := (List.mem_of_getElem? (i := 586) (by decide +kernel))
theorem tw_n : Cond.fieldLinkNest "ByAlphabet$Land" 85 "ByAlphabet" "FIRST_SETTING" "[I" "ByAlphabet" ∈ lw_tbl := (List.mem_of_getElem? (i := 242) (by decide +kernel))
theorem tw_c : (Cond.laysStatic "java/lang/String" "COMPACT_STRINGS" "Z" ∈ lw_tbl ∧ Cond.initialized "java/lang/String" ∈ lw_tbl) ∧ Cond.laysStatic "jdk/internal/util/Preconditions" "SIOOBE_FORMATTER" "Ljava/util/function/BiFunction;" ∈ lw_tbl ∧ Cond.initialized "jdk/internal/util/Preconditions" ∈ lw_tbl := ⟨⟨(List.mem_of_getElem? (i := 596) (by decide +kernel)), (List.mem_of_getElem? (i := 127) (by decide +kernel))⟩, (List.mem_of_getElem? (i := 612) (by decide +kernel)), (List.mem_of_getElem? (i := 129) (by decide +kernel))⟩
theorem stat_of {s : State} {a : Array Value} {A : Nat → Prop} {b : Nat} (hts : ∀ w ∈ lw_tbl, w.before a s = true) (hgv : gvn.before a s = true) (hA : ∀ x : Nat, x < s.heap.size → ¬ A x) : ∃ ad : Nat → Nat, ad 600 = b ∧ Stat A ad s s.heap := by
  have hs := flat_of_before _ hgv
  obtain ⟨t0, z0, a0⟩ := st_500 hts hs hA
  obtain ⟨t1, z1, a1⟩ := st_501 hts hs hA
  obtain ⟨t2, z2, a2⟩ := st_502 hts hs hA
  obtain ⟨kK, kV, hk, he⟩ := vk_Sof (args := a) (s := s) (N := 2) (tm := tmS) (len := [10, 80]) (byt := [bySigns, byWords]) (A := A) (by decide) (fun i hi => hs _ (gv_s1 i hi).1) (fun i hi => hs _ (gv_s1 i hi).2.1) (fun i hi => hs _ (gv_s1 i hi).2.2.1) (fun i hi => hs _ (gv_s1 i hi).2.2.2) (fun i hi j hj => hs _ (gv_s2 i hi j hj)) (fun i j hi hj h => (gv_s3 i hi j hj h).imp (hs _) (hs _)) hA
  refine ⟨fun k => if k = 500 then t0 else if k = 501 then t1 else if k = 502 then t2 else if k = 503 then kK 0 else if k = 504 then kK 1 else if k = 505 then kV 0 else if k = 506 then kV 1 else b, rfl, ⟨z0, a0⟩, ⟨z1, a1⟩, ⟨z2, a2⟩, va_Nw.of rfl (hts _ tw_n), vk_R.of (hts _ tw_s0) (he 0 (by decide)), vk_R.of (hts _ tw_s1) (he 1 (by decide)), ?_, va_Zof (hts _ tw_c.1.1) (hts _ tw_c.1.2) (va_eqi (hs _ gv_c.1)) hA, va_Zqof (hts _ tw_c.2.1) (hts _ tw_c.2.2) (hs _ gv_c.2) hA⟩
  refine ⟨fun i hi => ?_, fun i j hi hj h => ?_⟩
  · rcases (show i = 0 ∨ i = 1 by omega) with rfl | rfl
    · exact hk.1 0 (by decide)
    · exact hk.1 1 (by decide)
  · have h2 := hk.2 i j hi hj
    rcases (show i = 0 ∨ i = 1 by omega) with rfl | rfl <;> rcases (show j = 0 ∨ j = 1 by omega) with rfl | rfl
    · rfl
    · exact h2 h
    · exact h2 h
    · rfl
