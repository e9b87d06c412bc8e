/-! THE START: both objects made, then the loop -/
theorem L_new {p : Program} {l : Launch} {e : Env} {R : Room} {s : State} {m : MethodId} {args : Array Value} {below : List Frame} {meth : Method} {c : Code} {Q : State → Prop} {A : Nat → Prop} {D : va_G} {ad : Nat → Nat} {cI cZ : ClassId} {own : String} {cc : ByteArray} (hx : p.tables.exec = Jvm.exec) (hb : c.code = cc) (hml : c.maxLocals = 4) (hown : s.vm.findClass own = some m.cls) (htb : ∀ w ∈ tb, w.before args s = true) (hK : va_K D vwCl (tyl cI cZ) s) (hA : ∀ q : Nat, s.heap.size ≤ q → A q) (hSt : Stat A ad s s.heap) {C1 : String} {T : u_T} {N ci ix ix2 pc : Nat} {fs : List Value} (ty : Nat → FieldType) (hty : ∀ k, k < N → parseFieldDescriptor (T k).2.2.1 = some (ty k)) (hin : ∀ w ∈ u_ws C1 T N, w ∈ tb) (hw : Cond.classLink own ix C1 ∈ tb) (hw2 : Cond.instantiable C1 N ∈ tb ∧ Cond.initialized C1 ∈ tb) (hc : vwCl[ci]? = some (C1, T, N)) (hfs : ∀ j, j < N → defaultValue (ty j) = vp_V fs j) {M : Mt} {d' mc' ms' : Nat} {F : ClassId → ClassId → Nat → List Nat → va_W} (hcl : NCl d' mc' ms' M ci fs F) (hM : mtOk M 0 ∧ M.2.2.1 = 1) (hwi : Cond.methodLink own ix2 M.1 ∈ tb ∧ Cond.instanceMethod M.1 ∈ tb ∧ Cond.initialized M.1.cls ∈ tb ∧ Cond.code M.1 M.2.1 M.2.2.1 M.2.2.2 ∈ tb) (hnm : M.1.name = "<init>") (hrt : M.2.2.2 = none) (dec1 : decode cc pc = .ok (.new ix, 3)) (dec2 : decode cc (pc + 3) = .ok (.dup, 1)) (dec3 : decode cc (pc + 4) = .ok (.invokespecial ix2, 3)) {H : Heap} {locs : List Loc} {ls : Array Slot} {cells slots : Nat} {wr : va_W} {lv : List (Nat × Value)} (hroom : (cells + 1 + mc' ≤ R.cells ∧ slots + N + ms' ≤ R.slots) ∧ d' + 1 ≤ R.frames ∧ 60 * d' + 60 ≤ R.locals) (isR : List Nat) (hR : ∀ x : Nat × va_E, isR.map (fun i => (wr ++ [x])[i]?) = wr.map some) (hnd : va_nd isR = true) (hdis0 : isR.all (fun i => decide (i ≠ wr.length)) = true) (hP : va_P D vwCl wr H) (hD : va_D A wr) (hS : va_S A s.heap H locs) (hl : lv_has ls 4 lv) (kk : ∀ (q : Nat) (qs : List Nat) (H1 : Heap) (locs1 : List Loc), va_P D vwCl (wr ++ F cI cZ q qs) H1 → va_D A (wr ++ F cI cZ q qs) → va_S A s.heap H1 locs1 → W p l e R s m args below meth c H1 locs1 (cells + 1 + mc') (slots + N + ms') Q (F0 m (pc + 7) ls [.ref q])) : W p l e R s m args below meth c H locs cells slots Q (F0 m pc ls []) := by
  refine va_new hx hb htb hin ty hty hown (htb _ hw) (htb _ hw2.1) (htb _ hw2.2) hK hP hD hS hA hc hfs (by omega) (by omega) dec1 (fun q H1 hP hD hS => ?_)
  refine lv_dup hx hb dec2 rfl ?_
  generalize H1 = H at hP hS ⊢
  have hc1 : [wr.length].map (fun i => (wr ++ [(q, .inr (ci, fs))])[i]?) = ([(q, .inr (ci, fs))] : va_W).map some := by simp
  have hPc := hP.sub (ws' := [(q, .inr (ci, fs))]) [wr.length] (by simp)
  have hDc := hD.sub (ws' := [(q, .inr (ci, fs))]) [wr.length] (by simp [va_nd]) (by simp)
  have hFc := va_free (wc := [(q, .inr (ci, fs))]) hD hS hA [wr.length] hc1
  have hdis : ∀ i ∈ isR, i ∉ [wr.length] := fun i hi => by
    have := List.all_eq_true.mp hdis0 i hi
    simpa using this
  have good : GoodIn tb (wM M) := good_sub (fun w h => by
    rcases List.mem_cons.mp h with rfl | h
    · exact hwi.2.2.2
    · exact h)
  refine va_callv (va_runI (As := []) (rest := [.ref q]) ⟨hx, hb, hml, hown, htb⟩ (hcl l D ad cI cZ q H.size) (cwI 0 htb good (by unfold wM; rw [hrt]) rfl rfl (htb _ hwi.2.2.1) (htb _ hwi.1) (htb _ hwi.2.1) hnm hM.1.2 ?_) ⟨fun a U g mk qq => by
      obtain ⟨q0, q1, qP, qK, qD, qS⟩ := qq
      exact ⟨q0, q1, qP, va_K.moved (u := U) (U := U.calling g mk a) (Vm.Alike.refl U.vm) qK, qD, qS.same rfl⟩, fun U hU hW => ⟨rfl, by rw [hU], by rw [hU]; exact hPc, va_K.moved hW.alike hK, hDc.weaken (fun _ _ _ _ => trivial), by rw [hU]; exact hSt.warm hW hS.2.1 hFc⟩⟩ rfl rfl hl.1 rfl (lv_room (Nat.le_of_ble_eq_true rfl)) dec3 ⟨by omega, by omega⟩) hS (fun q _ h => hFc q h) hFc (fun u t H1 locs1 ht hvm hw1 hB hz1 hk1 hS1 => ?_)
  · have h2 := hM.2
    show d' + 1 ≤ R.frames ∧ 8 + (M.2.2.1 + 11) + 60 * d' ≤ R.locals
    omega
  · obtain ⟨qs, hP1, hD1⟩ := hB
    rw [ht] at hP1
    obtain ⟨hP2, hD2⟩ := va_join (wr := wr) (w1 := F cI cZ q qs) hP hD [wr.length] isR hc1 (hR _) hnd hdis hk1 hFc hP1 hD1
    exact kk q qs H1 locs1 hP2 hD2 hS1
theorem nF_X11 : NCl 3 74 5563 MX11_init 10 [.null, .null, .null, .int 0, .null, .null, .null, .null, .null, .null] FX11 := n_X11
theorem wN_X11 : Cond.classLink RL 7 RX11 ∈ tb ∧ Cond.instantiable RX11 10 ∈ tb ∧ Cond.initialized RX11 ∈ tb := ⟨List.mem_filter.mpr ⟨List.mem_of_getElem? (i := 134) (by decide +kernel), by decide +kernel⟩, List.mem_filter.mpr ⟨List.mem_of_getElem? (i := 135) (by decide +kernel), by decide +kernel⟩, List.mem_filter.mpr ⟨List.mem_of_getElem? (i := 113) (by decide +kernel), by decide +kernel⟩⟩
set_option maxRecDepth 100000 in
theorem wI_X11 : Cond.methodLink RL 9 MX11_init.1 ∈ tb ∧ Cond.instanceMethod MX11_init.1 ∈ tb ∧ Cond.initialized MX11_init.1.cls ∈ tb ∧ Cond.code MX11_init.1 MX11_init.2.1 MX11_init.2.2.1 MX11_init.2.2.2 ∈ tb := ⟨List.mem_filter.mpr ⟨List.mem_of_getElem? (i := 136) (by decide +kernel), by decide +kernel⟩, List.mem_filter.mpr ⟨List.mem_of_getElem? (i := 137) (by decide +kernel), by decide +kernel⟩, List.mem_filter.mpr ⟨List.mem_of_getElem? (i := 113) (by decide +kernel), by decide +kernel⟩, List.mem_filter.mpr ⟨List.mem_of_getElem? (i := 138) rfl, rfl⟩⟩
theorem nF_X12 : NCl 1 43 6343 MX12_init 11 [.int 0, .int 0, .null, .null, .int 0, .null, .null, .null, .int 0, .int 0, .null, .null, .null, .null, .null, .null, .null, .null, .int 0, .null, .null, .int 0, .int 0, .null, .int 0, .int 0, .int 0, .int 0, .int 0, .null, .int 0, .null, .null, .null, .null, .null, .int 0, .int 0, .null, .int 0, .int 0, .int 0, .int 0, .int 0, .null, .null, .null, .null, .null, .null, .null, .null, .null, .int 0, .int 0, .int 0, .null, .null, .int 0, .int 0, .null, .null, .null, .null, .null, .null, .null, .null, .int 0, .int 0, .int 0, .null] FX12 := n_X12
theorem wN_X12 : Cond.classLink RL 10 RX12 ∈ tb ∧ Cond.instantiable RX12 72 ∈ tb ∧ Cond.initialized RX12 ∈ tb := ⟨List.mem_filter.mpr ⟨List.mem_of_getElem? (i := 1162) (by decide +kernel), by decide +kernel⟩, List.mem_filter.mpr ⟨List.mem_of_getElem? (i := 1163) (by decide +kernel), by decide +kernel⟩, List.mem_filter.mpr ⟨List.mem_of_getElem? (i := 126) (by decide +kernel), by decide +kernel⟩⟩
set_option maxRecDepth 100000 in
theorem wI_X12 : Cond.methodLink RL 12 MX12_init.1 ∈ tb ∧ Cond.instanceMethod MX12_init.1 ∈ tb ∧ Cond.initialized MX12_init.1.cls ∈ tb ∧ Cond.code MX12_init.1 MX12_init.2.1 MX12_init.2.2.1 MX12_init.2.2.2 ∈ tb := ⟨List.mem_filter.mpr ⟨List.mem_of_getElem? (i := 1164) (by decide +kernel), by decide +kernel⟩, List.mem_filter.mpr ⟨List.mem_of_getElem? (i := 1165) (by decide +kernel), by decide +kernel⟩, List.mem_filter.mpr ⟨List.mem_of_getElem? (i := 126) (by decide +kernel), by decide +kernel⟩, List.mem_filter.mpr ⟨List.mem_of_getElem? (i := 1166) rfl, rfl⟩⟩
theorem wK_X0 : Cond.instantiable RX0 11 ∈ tb := List.mem_filter.mpr ⟨List.mem_of_getElem? (i := 429) (by decide +kernel), by decide +kernel⟩
theorem wK_X1 : Cond.instantiable RX1 3 ∈ tb := List.mem_filter.mpr ⟨List.mem_of_getElem? (i := 388) (by decide +kernel), by decide +kernel⟩
theorem wK_X2 : Cond.instantiable RX2 16 ∈ tb := List.mem_filter.mpr ⟨List.mem_of_getElem? (i := 160) (by decide +kernel), by decide +kernel⟩
theorem wK_X3 : Cond.instantiable RX3 7 ∈ tb := List.mem_filter.mpr ⟨List.mem_of_getElem? (i := 472) (by decide +kernel), by decide +kernel⟩
theorem wK_X4 : Cond.instantiable RX4 5 ∈ tb := List.mem_filter.mpr ⟨List.mem_of_getElem? (i := 204) (by decide +kernel), by decide +kernel⟩
theorem wK_X6 : Cond.instantiable RX6 5 ∈ tb := List.mem_filter.mpr ⟨List.mem_of_getElem? (i := 166) (by decide +kernel), by decide +kernel⟩
theorem wK_X7 : Cond.instantiable RX7 5 ∈ tb := List.mem_filter.mpr ⟨List.mem_of_getElem? (i := 362) (by decide +kernel), by decide +kernel⟩
theorem wK_X8 : Cond.instantiable RX8 6 ∈ tb := List.mem_filter.mpr ⟨List.mem_of_getElem? (i := 332) (by decide +kernel), by decide +kernel⟩
theorem wK_X9 : Cond.instantiable RX9 2 ∈ tb := List.mem_filter.mpr ⟨List.mem_of_getElem? (i := 143) (by decide +kernel), by decide +kernel⟩
theorem wK_X10 : Cond.instantiable RX10 5 ∈ tb := List.mem_filter.mpr ⟨List.mem_of_getElem? (i := 404) (by decide +kernel), by decide +kernel⟩
theorem wK_X11 : Cond.instantiable RX11 10 ∈ tb := List.mem_filter.mpr ⟨List.mem_of_getElem? (i := 135) (by decide +kernel), by decide +kernel⟩
theorem wK_X12 : Cond.instantiable RX12 72 ∈ tb := List.mem_filter.mpr ⟨List.mem_of_getElem? (i := 1163) (by decide +kernel), by decide +kernel⟩
theorem law_K {s : State} {a : Array Value} (htb : ∀ w ∈ tb, w.before a s = true) : ∃ (D : va_G) (cI cZ : ClassId), va_K D vwCl (tyl cI cZ) s := by
  obtain ⟨c0, i0, h0⟩ := u_known (C := RX0) (T := TX0) (N := 11) (n := 11) htb in_X0 (htb _ wK_X0)
  obtain ⟨c1, i1, h1⟩ := u_known (C := RX1) (T := TX1) (N := 3) (n := 3) htb in_X1 (htb _ wK_X1)
  obtain ⟨c2, i2, h2⟩ := u_known (C := RX2) (T := TX2) (N := 16) (n := 16) htb in_X2 (htb _ wK_X2)
  obtain ⟨c3, i3, h3⟩ := u_known (C := RX3) (T := TX3) (N := 7) (n := 7) htb in_X3 (htb _ wK_X3)
  obtain ⟨c4, i4, h4⟩ := u_known (C := RX4) (T := TX4) (N := 5) (n := 5) htb in_X4 (htb _ wK_X4)
  obtain ⟨c5, i5, h5⟩ := u_known (C := RX6) (T := TX6) (N := 5) (n := 5) htb in_X6 (htb _ wK_X6)
  obtain ⟨c6, i6, h6⟩ := u_known (C := RX7) (T := TX7) (N := 5) (n := 5) htb in_X7 (htb _ wK_X7)
  obtain ⟨c7, i7, h7⟩ := u_known (C := RX8) (T := TX8) (N := 6) (n := 6) htb in_X8 (htb _ wK_X8)
  obtain ⟨c8, i8, h8⟩ := u_known (C := RX9) (T := TX9) (N := 2) (n := 2) htb in_X9 (htb _ wK_X9)
  obtain ⟨c9, i9, h9⟩ := u_known (C := RX10) (T := TX10) (N := 5) (n := 5) htb in_X10 (htb _ wK_X10)
  obtain ⟨c10, i10, h10⟩ := u_known (C := RX11) (T := TX11) (N := 10) (n := 10) htb in_X11 (htb _ wK_X11)
  obtain ⟨c11, i11, h11⟩ := u_known (C := RX12) (T := TX12) (N := 72) (n := 72) htb in_X12 (htb _ wK_X12)
  obtain ⟨cI, kI, pI, e1, e2, e3⟩ := Cond.arrayClass_spec (htb _ wAI)
  obtain ⟨cZ, kZ, pZ, f1, f2, f3⟩ := Cond.arrayClass_spec (htb _ wAZ)
  refine ⟨(fun k => [c0, c1, c2, c3, c4, c5, c6, c7, c8, c9, c10, c11].getD k c0, fun k => [i0, i1, i2, i3, i4, i5, i6, i7, i8, i9, i10, i11].getD k i0), cI, cZ, fun k q hq => ?_, fun k q hq => ?_⟩
  · match k, hq with
    | 0, hq => cases hq; exact h0
    | 1, hq => cases hq; exact h1
    | 2, hq => cases hq; exact h2
    | 3, hq => cases hq; exact h3
    | 4, hq => cases hq; exact h4
    | 5, hq => cases hq; exact h5
    | 6, hq => cases hq; exact h6
    | 7, hq => cases hq; exact h7
    | 8, hq => cases hq; exact h8
    | 9, hq => cases hq; exact h9
    | 10, hq => cases hq; exact h10
    | 11, hq => cases hq; exact h11
    | k + 12, hq => simp [vwCl] at hq
  · match k, hq with
    | 0, hq => cases hq; exact ⟨fun n z => ⟨fun k h => (by cases h), kI, e2, pI, e3⟩, e1⟩
    | 1, hq => cases hq; exact ⟨fun n z => ⟨fun k h => (by cases h), kZ, f2, pZ, f3⟩, f1⟩
    | k + 2, hq => simp [tyl] at hq
set_option maxHeartbeats 4000000 in
set_option maxRecDepth 100000 in
theorem whole_start {p : Program} {e : Env} {s : State} {m : MethodId} {below : List Frame} {meth : Method} {c : Code} (l : Launch) {b L : Nat} {xs : Nat → Int32} (hL : L ≤ 3072) (C0 : lw_At p s m meth c b L xs) : W p l e room_1 s m #[Value.ref b] below meth c s.heap [] 0 0 (lw_Z below #[Value.ref b] s) (entryFrame m ([Value.ref b] : List Value).toArray 4) := by
  obtain ⟨hx, hb, hr, hml, hown, hts, hX, hbl, hlocks, hgv⟩ := id C0
  have htb : ∀ w ∈ tb, w.before #[Value.ref b] s = true := fun w h => hts w (List.mem_filter.mp h).1
  have hA : ∀ q : Nat, s.heap.size ≤ q → (fun q : Nat => s.heap.size ≤ q) q := fun _ h => h
  obtain ⟨ad, e600, hSt⟩ := stat_of (b := b) (A := fun q : Nat => s.heap.size ≤ q) hts hgv (fun x h => Nat.not_le.mpr h)
  obtain ⟨D, cI, cZ, hK⟩ := law_K htb
  have hS : va_S (fun q : Nat => s.heap.size ≤ q) s.heap s.heap [] := va_S.rf
  have hP : va_P D vwCl [] s.heap := fun k q h => by simp at h
  have hD : va_D (fun q : Nat => s.heap.size ≤ q) [] := ⟨fun i j p q h => by simp at h, fun k q h => by simp at h⟩
  have hl := lv_entry ([.ref b]) (n := 4) (Nat.le_of_ble_eq_true rfl)
  rw [lg_entry_eq]
  generalize (lg_sl ([.ref b]) ++ List.replicate (4 - (lg_sl ([.ref b])).length) Slot.unset).toArray = ls at hl ⊢
  have hl : lv_has ls 4 [(0, .ref b)] := hl
  refine L_new (own := RL) (cc := cL_law) (pc := 0) (wr := []) hx hb hml hown htb hK hA hSt tyX11 tyX11_ok in_X11 wN_X11.1 wN_X11.2 rfl (by decide) nF_X11 mo_X11_init wI_X11 rfl rfl dL_law_0 dL_law_3 dL_law_4 (by decide) [] (fun _ => rfl) rfl rfl hP hD hS hl (fun q0 qs H locs hP hD hS => ?_)
  refine lv_astore_n (lv' := [(1, .ref q0), (0, .ref b)]) hx hb dL_law_7 rfl hl (by decide) rfl (fun ls hl => ?_)
  refine L_new (own := RL) (cc := cL_law) (pc := 8) (wr := FX11 cI cZ q0 qs) hx hb hml hown htb hK hA hSt tyX12 tyX12_ok in_X12 wN_X12.1 wN_X12.2 rfl (by decide) nF_X12 mo_X12_init wI_X12 rfl rfl dL_law_8 dL_law_11 dL_law_12 (by decide) (List.range 75) (fun _ => rfl) (by decide) rfl hP hD hS hl (fun q1 rs H locs hP hD hS => ?_)
  refine lv_astore_n (lv' := [(2, .ref q1), (1, .ref q0), (0, .ref b)]) hx hb dL_law_15 rfl hl (by decide) rfl (fun ls hl => ?_)
  refine lv_iconst (v := 0) hx hb dL_law_16 (by decide) ?_
  refine lv_istore_n (lv' := [(3, .int 0), (2, .ref q1), (1, .ref q0), (0, .ref b)]) hx hb dL_law_17 rfl hl (by decide) rfl (fun ls hl => ?_)
  obtain ⟨ad', e1, e2, e3⟩ : ∃ ad' : Nat → Nat, (∀ k, k < 75 → ad' k = (q0 :: qs).getD k 0) ∧ (∀ k, k < 44 → ad' (75 + k) = (q1 :: rs).getD k 0) ∧ ∀ k, 500 ≤ k → ad' k = ad k :=
    ⟨fun k => if k < 75 then (q0 :: qs).getD k 0 else if k < 119 then (q1 :: rs).getD (k - 75) 0 else ad k, fun k h => if_pos h, fun k h => by
      show (if 75 + k < 75 then _ else if 75 + k < 119 then (q1 :: rs).getD (75 + k - 75) 0 else ad (75 + k)) = _
      rw [if_neg (by omega), if_pos (by omega), Nat.add_sub_cancel_left], fun k h => by
      show (if k < 75 then _ else if k < 119 then _ else ad k) = _
      rw [if_neg (by omega), if_neg (by omega)]⟩
  have hW := fresh_eq (cI := cI) (cZ := cZ) e1 e2
  rw [← hW] at hP hD
  have had := wld_ad hD
  have h0 : ad' 0 = q0 := e1 0 (by decide)
  have h75 : ad' 75 = q1 := e2 0 (by decide)
  have h600 : ad' 600 = b := (e3 600 (by decide)).trans e600
  let X : Cx := (p, l, e, room_1, s, m, #[Value.ref b], below, meth, c, lw_Z below #[Value.ref b] s, 0 + 1 + 74 + 1 + 43, 0 + 10 + 5563 + 72 + 6343, 4, (fun q : Nat => s.heap.size ≤ q), D, ad', cI, cZ)
  have C : Ok LY X RL cL_law 4 200 := ⟨hx, hb, ⟨hml, rfl⟩, hown, htb, hK, had, hA, ⟨by decide, by decide⟩, ⟨by decide, by decide⟩, hSt.ad e3⟩
  have S : SC X L xs := by
    show va_X (ad' 600) L xs s s.heap ∧ ad' 600 < s.heap.size ∧ ¬ (s.heap.size ≤ ad' 600)
    rw [h600]
    exact ⟨hX, hbl, Nat.not_le.mpr hbl⟩
  have fin : ∀ (i : Int) (s' : Sto), G LY X 1097 [rv 600, rv 0, rv 75, iv i] [] s' := by
    intro i s' H locs ls hP hS hl
    refine lv_iconst (v := 1) hx hb dL_law_1097 (by decide) ?_
    refine va_forget (fun q hq => hS.2.2 q hq) ?_
    exact W.widen (k := 600000) (n := 7302250) (by decide) (by decide) (lw_ret hx hb hr hlocks dL_law_1098)
  refine law_loop C S (by omega) fin (L + 1) 0 S0 (by omega) (by decide) inv_S0 H locs ls hP hS ⟨hl.1, hl.2.1, fun i v hi => ?_⟩
  match i, hi with
  | 0, hi => cases hi; exact (hl.2.2 (0, .ref b) (by simp)).trans (by show _ = some (Slot.val (.ref (ad' 600))); rw [h600])
  | 1, hi => cases hi; exact (hl.2.2 (1, .ref q0) (by simp)).trans (by show _ = some (Slot.val (.ref (ad' 0))); rw [h0])
  | 2, hi => cases hi; exact (hl.2.2 (2, .ref q1) (by simp)).trans (by show _ = some (Slot.val (.ref (ad' 75))); rw [h75])
  | 3, hi => cases hi; exact (hl.2.2 (3, .int 0) (by simp)).trans rfl
  | i + 4, hi => simp at hi
