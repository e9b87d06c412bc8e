/-! CONSTRUCTORS, one by one -/
theorem wAI : Cond.arrayClass .int ∈ tb := List.mem_filter.mpr ⟨List.mem_of_getElem? (i := 158) (by decide +kernel), by decide +kernel⟩
theorem wAZ : Cond.arrayClass .boolean ∈ tb := List.mem_filter.mpr ⟨List.mem_of_getElem? (i := 470) (by decide +kernel), by decide +kernel⟩
theorem wOB : Cond.instanceMethod Lib.objectInit ∈ tb ∧ Cond.code Lib.objectInit ⟨#[0xb1]⟩ 1 none ∈ tb := ⟨List.mem_filter.mpr ⟨List.mem_of_getElem? (i := 140) (by decide +kernel), by decide +kernel⟩, List.mem_filter.mpr ⟨List.mem_of_getElem? (i := 141) (by decide +kernel), by decide +kernel⟩⟩
theorem wo_X9 : Cond.methodLink RX9 3 Lib.objectInit ∈ tb := List.mem_filter.mpr ⟨List.mem_of_getElem? (i := 147) (by decide +kernel), by decide +kernel⟩
theorem wg_X9_9 : Cond.fieldLink RX9 9 (TX9 0).1 (TX9 0).2.1 (TX9 0).2.2.1 ∈ tb := List.mem_filter.mpr ⟨List.mem_of_getElem? (i := 148) (by decide +kernel), by decide +kernel⟩
theorem wg_X9_15 : Cond.fieldLink RX9 15 (TX9 1).1 (TX9 1).2.1 (TX9 1).2.2.1 ∈ tb := List.mem_filter.mpr ⟨List.mem_of_getElem? (i := 150) (by decide +kernel), by decide +kernel⟩
abbrev MX9_init : Mt := (yX9_init, cX9_init, 1, none)
theorem mo_X9_init : mtOk MX9_init 0 ∧ MX9_init.2.2.1 = 1 := ⟨⟨by decide, by decide +kernel, by decide +kernel, by decide +kernel⟩, rfl⟩
theorem n_X9 : NCl 1 1 400 MX9_init 8 [.null, .int 0] (fun cI cZ h qs => [(h, .inr (8, [.ref (qs.getD 0 0), .int 0])), ((qs.getD 0 0), .inl (cI, 400, .inl nI0))]) := by
  refine NCl.intro (by decide) rfl rfl rfl (fun X h0 cI cZ eI eZ C r => ?_)
  refine N_this C dX9_init_0 ?_
  refine N_obj C (by decide) wo_X9 wOB dX9_init_1 ?_
  refine N_this C dX9_init_4 ?_
  refine N_sipush C (v := 400) (by decide) dX9_init_5 ?_
  refine N_newI C wAI (N := 400) (by decide) (by decide) (by decide) dX9_init_8 (fun q1 c1 e1 => ?_)
  have g1 : cI = c1 := eI.trans e1.symm
  subst g1
  show NG X h0 10 [.ref q1, .ref h0] [(h0, .inr (8, [.null, .int 0])), (q1, .inl (cI, 400, .inl nI0))] 1 400
  refine N_putF C (T := TX9) (N := 2) (ci := 8) (k := 0) (q0 := 0) tyX9 tyX9_ok nmX9 in_X9 rfl rfl (by decide) wg_X9_9 rfl rfl (tyX9_ok 0 (by decide)) rfl rfl (Nat.le_of_ble_eq_true rfl) dX9_init_10 ?_
  show NG X h0 13 [] [(h0, .inr (8, [.ref q1, .int 0])), (q1, .inl (cI, 400, .inl nI0))] 1 400
  refine N_this C dX9_init_13 ?_
  refine N_iconst C (v := 0) (by decide) dX9_init_14 ?_
  refine N_putI C (T := TX9) (N := 2) (ci := 8) (k := 1) (q0 := 0) tyX9 tyX9_ok nmX9 in_X9 rfl rfl (by decide) wg_X9_15 rfl (tyX9_ok 1 (by decide)) rfl rfl (Nat.le_of_ble_eq_true rfl) dX9_init_15 ?_
  show NG X h0 18 [] [(h0, .inr (8, [.ref q1, .int 0])), (q1, .inl (cI, 400, .inl nI0))] 1 400
  exact r 18 1 400 [q1] dX9_init_18 (by decide) (by decide)
theorem wo_X6 : Cond.methodLink RX6 3 Lib.objectInit ∈ tb := List.mem_filter.mpr ⟨List.mem_of_getElem? (i := 170) (by decide +kernel), by decide +kernel⟩
theorem wg_X6_9 : Cond.fieldLink RX6 9 (TX6 0).1 (TX6 0).2.1 (TX6 0).2.2.1 ∈ tb := List.mem_filter.mpr ⟨List.mem_of_getElem? (i := 171) (by decide +kernel), by decide +kernel⟩
theorem wg_X6_15 : Cond.fieldLink RX6 15 (TX6 1).1 (TX6 1).2.1 (TX6 1).2.2.1 ∈ tb := List.mem_filter.mpr ⟨List.mem_of_getElem? (i := 177) (by decide +kernel), by decide +kernel⟩
theorem wg_X6_19 : Cond.fieldLink RX6 19 (TX6 2).1 (TX6 2).2.1 (TX6 2).2.2.1 ∈ tb := List.mem_filter.mpr ⟨List.mem_of_getElem? (i := 181) (by decide +kernel), by decide +kernel⟩
theorem wg_X6_22 : Cond.fieldLink RX6 22 (TX6 3).1 (TX6 3).2.1 (TX6 3).2.2.1 ∈ tb := List.mem_filter.mpr ⟨List.mem_of_getElem? (i := 184) (by decide +kernel), by decide +kernel⟩
theorem wg_X6_25 : Cond.fieldLink RX6 25 (TX6 4).1 (TX6 4).2.1 (TX6 4).2.2.1 ∈ tb := List.mem_filter.mpr ⟨List.mem_of_getElem? (i := 188) (by decide +kernel), by decide +kernel⟩
abbrev MX6_init : Mt := (yX6_init, cX6_init, 1, none)
theorem mo_X6_init : mtOk MX6_init 0 ∧ MX6_init.2.2.1 = 1 := ⟨⟨by decide, by decide +kernel, by decide +kernel, by decide +kernel⟩, rfl⟩
theorem n_X6 : NCl 1 4 80 MX6_init 5 [.int 0, .null, .null, .null, .null] (fun cI cZ h qs => [(h, .inr (5, [.int 0, .ref (qs.getD 0 0), .ref (qs.getD 1 0), .ref (qs.getD 2 0), .ref (qs.getD 3 0)])), ((qs.getD 0 0), .inl (cI, 20, .inl nI0)), ((qs.getD 1 0), .inl (cI, 20, .inl nI0)), ((qs.getD 2 0), .inl (cI, 20, .inl nI0)), ((qs.getD 3 0), .inl (cI, 20, .inl nI0))]) := by
  refine NCl.intro (by decide) rfl rfl rfl (fun X h0 cI cZ eI eZ C r => ?_)
  refine N_this C dX6_init_0 ?_
  refine N_obj C (by decide) wo_X6 wOB dX6_init_1 ?_
  refine N_this C dX6_init_4 ?_
  refine N_iconst C (v := 0) (by decide) dX6_init_5 ?_
  refine N_putI C (T := TX6) (N := 5) (ci := 5) (k := 0) (q0 := 0) tyX6 tyX6_ok nmX6 in_X6 rfl rfl (by decide) wg_X6_9 rfl (tyX6_ok 0 (by decide)) rfl rfl (Nat.le_of_ble_eq_true rfl) dX6_init_6 ?_
  show NG X h0 9 [] [(h0, .inr (5, [.int 0, .null, .null, .null, .null]))] 0 0
  refine N_this C dX6_init_9 ?_
  refine N_bipush C (v := 20) (by decide) dX6_init_10 ?_
  refine N_newI C wAI (N := 20) (by decide) (by decide) (by decide) dX6_init_12 (fun q1 c1 e1 => ?_)
  have g1 : cI = c1 := eI.trans e1.symm
  subst g1
  show NG X h0 14 [.ref q1, .ref h0] [(h0, .inr (5, [.int 0, .null, .null, .null, .null])), (q1, .inl (cI, 20, .inl nI0))] 1 20
  refine N_putF C (T := TX6) (N := 5) (ci := 5) (k := 1) (q0 := 0) tyX6 tyX6_ok nmX6 in_X6 rfl rfl (by decide) wg_X6_15 rfl rfl (tyX6_ok 1 (by decide)) rfl rfl (Nat.le_of_ble_eq_true rfl) dX6_init_14 ?_
  show NG X h0 17 [] [(h0, .inr (5, [.int 0, .ref q1, .null, .null, .null])), (q1, .inl (cI, 20, .inl nI0))] 1 20
  refine N_this C dX6_init_17 ?_
  refine N_bipush C (v := 20) (by decide) dX6_init_18 ?_
  refine N_newI C wAI (N := 20) (by decide) (by decide) (by decide) dX6_init_20 (fun q2 c2 e2 => ?_)
  have g2 : cI = c2 := eI.trans e2.symm
  subst g2
  show NG X h0 22 [.ref q2, .ref h0] [(h0, .inr (5, [.int 0, .ref q1, .null, .null, .null])), (q1, .inl (cI, 20, .inl nI0)), (q2, .inl (cI, 20, .inl nI0))] 2 40
  refine N_putF C (T := TX6) (N := 5) (ci := 5) (k := 2) (q0 := 0) tyX6 tyX6_ok nmX6 in_X6 rfl rfl (by decide) wg_X6_19 rfl rfl (tyX6_ok 2 (by decide)) rfl rfl (Nat.le_of_ble_eq_true rfl) dX6_init_22 ?_
  show NG X h0 25 [] [(h0, .inr (5, [.int 0, .ref q1, .ref q2, .null, .null])), (q1, .inl (cI, 20, .inl nI0)), (q2, .inl (cI, 20, .inl nI0))] 2 40
  refine N_this C dX6_init_25 ?_
  refine N_bipush C (v := 20) (by decide) dX6_init_26 ?_
  refine N_newI C wAI (N := 20) (by decide) (by decide) (by decide) dX6_init_28 (fun q3 c3 e3 => ?_)
  have g3 : cI = c3 := eI.trans e3.symm
  subst g3
  show NG X h0 30 [.ref q3, .ref h0] [(h0, .inr (5, [.int 0, .ref q1, .ref q2, .null, .null])), (q1, .inl (cI, 20, .inl nI0)), (q2, .inl (cI, 20, .inl nI0)), (q3, .inl (cI, 20, .inl nI0))] 3 60
  refine N_putF C (T := TX6) (N := 5) (ci := 5) (k := 3) (q0 := 0) tyX6 tyX6_ok nmX6 in_X6 rfl rfl (by decide) wg_X6_22 rfl rfl (tyX6_ok 3 (by decide)) rfl rfl (Nat.le_of_ble_eq_true rfl) dX6_init_30 ?_
  show NG X h0 33 [] [(h0, .inr (5, [.int 0, .ref q1, .ref q2, .ref q3, .null])), (q1, .inl (cI, 20, .inl nI0)), (q2, .inl (cI, 20, .inl nI0)), (q3, .inl (cI, 20, .inl nI0))] 3 60
  refine N_this C dX6_init_33 ?_
  refine N_bipush C (v := 20) (by decide) dX6_init_34 ?_
  refine N_newI C wAI (N := 20) (by decide) (by decide) (by decide) dX6_init_36 (fun q4 c4 e4 => ?_)
  have g4 : cI = c4 := eI.trans e4.symm
  subst g4
  show NG X h0 38 [.ref q4, .ref h0] [(h0, .inr (5, [.int 0, .ref q1, .ref q2, .ref q3, .null])), (q1, .inl (cI, 20, .inl nI0)), (q2, .inl (cI, 20, .inl nI0)), (q3, .inl (cI, 20, .inl nI0)), (q4, .inl (cI, 20, .inl nI0))] 4 80
  refine N_putF C (T := TX6) (N := 5) (ci := 5) (k := 4) (q0 := 0) tyX6 tyX6_ok nmX6 in_X6 rfl rfl (by decide) wg_X6_25 rfl rfl (tyX6_ok 4 (by decide)) rfl rfl (Nat.le_of_ble_eq_true rfl) dX6_init_38 ?_
  show NG X h0 41 [] [(h0, .inr (5, [.int 0, .ref q1, .ref q2, .ref q3, .ref q4])), (q1, .inl (cI, 20, .inl nI0)), (q2, .inl (cI, 20, .inl nI0)), (q3, .inl (cI, 20, .inl nI0)), (q4, .inl (cI, 20, .inl nI0))] 4 80
  exact r 41 4 80 [q1, q2, q3, q4] dX6_init_41 (by decide) (by decide)
theorem wo_X4 : Cond.methodLink RX4 3 Lib.objectInit ∈ tb := List.mem_filter.mpr ⟨List.mem_of_getElem? (i := 208) (by decide +kernel), by decide +kernel⟩
theorem wg_X4_9 : Cond.fieldLink RX4 9 (TX4 0).1 (TX4 0).2.1 (TX4 0).2.2.1 ∈ tb := List.mem_filter.mpr ⟨List.mem_of_getElem? (i := 209) (by decide +kernel), by decide +kernel⟩
theorem wg_X4_15 : Cond.fieldLink RX4 15 (TX4 1).1 (TX4 1).2.1 (TX4 1).2.2.1 ∈ tb := List.mem_filter.mpr ⟨List.mem_of_getElem? (i := 213) (by decide +kernel), by decide +kernel⟩
theorem wg_X4_18 : Cond.fieldLink RX4 18 (TX4 2).1 (TX4 2).2.1 (TX4 2).2.2.1 ∈ tb := List.mem_filter.mpr ⟨List.mem_of_getElem? (i := 214) (by decide +kernel), by decide +kernel⟩
theorem wg_X4_22 : Cond.fieldLink RX4 22 (TX4 3).1 (TX4 3).2.1 (TX4 3).2.2.1 ∈ tb := List.mem_filter.mpr ⟨List.mem_of_getElem? (i := 216) (by decide +kernel), by decide +kernel⟩
theorem wg_X4_25 : Cond.fieldLink RX4 25 (TX4 4).1 (TX4 4).2.1 (TX4 4).2.2.1 ∈ tb := List.mem_filter.mpr ⟨List.mem_of_getElem? (i := 218) (by decide +kernel), by decide +kernel⟩
abbrev MX4_init : Mt := (yX4_init, cX4_init, 1, none)
theorem mo_X4_init : mtOk MX4_init 0 ∧ MX4_init.2.2.1 = 1 := ⟨⟨by decide, by decide +kernel, by decide +kernel, by decide +kernel⟩, rfl⟩
theorem n_X4 : NCl 1 3 432 MX4_init 4 [.int 0, .int 0, .null, .null, .null] (fun cI cZ h qs => [(h, .inr (4, [.int 0, .int 0, .ref (qs.getD 0 0), .ref (qs.getD 1 0), .ref (qs.getD 2 0)])), ((qs.getD 0 0), .inl (cI, 16, .inl nI0)), ((qs.getD 1 0), .inl (cI, 16, .inl nI0)), ((qs.getD 2 0), .inl (cI, 400, .inl nI0))]) := by
  refine NCl.intro (by decide) rfl rfl rfl (fun X h0 cI cZ eI eZ C r => ?_)
  refine N_this C dX4_init_0 ?_
  refine N_obj C (by decide) wo_X4 wOB dX4_init_1 ?_
  refine N_this C dX4_init_4 ?_
  refine N_iconst C (v := 0) (by decide) dX4_init_5 ?_
  refine N_putI C (T := TX4) (N := 5) (ci := 4) (k := 0) (q0 := 0) tyX4 tyX4_ok nmX4 in_X4 rfl rfl (by decide) wg_X4_9 rfl (tyX4_ok 0 (by decide)) rfl rfl (Nat.le_of_ble_eq_true rfl) dX4_init_6 ?_
  show NG X h0 9 [] [(h0, .inr (4, [.int 0, .int 0, .null, .null, .null]))] 0 0
  refine N_this C dX4_init_9 ?_
  refine N_iconst C (v := 0) (by decide) dX4_init_10 ?_
  refine N_putI C (T := TX4) (N := 5) (ci := 4) (k := 1) (q0 := 0) tyX4 tyX4_ok nmX4 in_X4 rfl rfl (by decide) wg_X4_15 rfl (tyX4_ok 1 (by decide)) rfl rfl (Nat.le_of_ble_eq_true rfl) dX4_init_11 ?_
  show NG X h0 14 [] [(h0, .inr (4, [.int 0, .int 0, .null, .null, .null]))] 0 0
  refine N_this C dX4_init_14 ?_
  refine N_bipush C (v := 16) (by decide) dX4_init_15 ?_
  refine N_newI C wAI (N := 16) (by decide) (by decide) (by decide) dX4_init_17 (fun q1 c1 e1 => ?_)
  have g1 : cI = c1 := eI.trans e1.symm
  subst g1
  show NG X h0 19 [.ref q1, .ref h0] [(h0, .inr (4, [.int 0, .int 0, .null, .null, .null])), (q1, .inl (cI, 16, .inl nI0))] 1 16
  refine N_putF C (T := TX4) (N := 5) (ci := 4) (k := 2) (q0 := 0) tyX4 tyX4_ok nmX4 in_X4 rfl rfl (by decide) wg_X4_18 rfl rfl (tyX4_ok 2 (by decide)) rfl rfl (Nat.le_of_ble_eq_true rfl) dX4_init_19 ?_
  show NG X h0 22 [] [(h0, .inr (4, [.int 0, .int 0, .ref q1, .null, .null])), (q1, .inl (cI, 16, .inl nI0))] 1 16
  refine N_this C dX4_init_22 ?_
  refine N_bipush C (v := 16) (by decide) dX4_init_23 ?_
  refine N_newI C wAI (N := 16) (by decide) (by decide) (by decide) dX4_init_25 (fun q2 c2 e2 => ?_)
  have g2 : cI = c2 := eI.trans e2.symm
  subst g2
  show NG X h0 27 [.ref q2, .ref h0] [(h0, .inr (4, [.int 0, .int 0, .ref q1, .null, .null])), (q1, .inl (cI, 16, .inl nI0)), (q2, .inl (cI, 16, .inl nI0))] 2 32
  refine N_putF C (T := TX4) (N := 5) (ci := 4) (k := 3) (q0 := 0) tyX4 tyX4_ok nmX4 in_X4 rfl rfl (by decide) wg_X4_22 rfl rfl (tyX4_ok 3 (by decide)) rfl rfl (Nat.le_of_ble_eq_true rfl) dX4_init_27 ?_
  show NG X h0 30 [] [(h0, .inr (4, [.int 0, .int 0, .ref q1, .ref q2, .null])), (q1, .inl (cI, 16, .inl nI0)), (q2, .inl (cI, 16, .inl nI0))] 2 32
  refine N_this C dX4_init_30 ?_
  refine N_sipush C (v := 400) (by decide) dX4_init_31 ?_
  refine N_newI C wAI (N := 400) (by decide) (by decide) (by decide) dX4_init_34 (fun q3 c3 e3 => ?_)
  have g3 : cI = c3 := eI.trans e3.symm
  subst g3
  show NG X h0 36 [.ref q3, .ref h0] [(h0, .inr (4, [.int 0, .int 0, .ref q1, .ref q2, .null])), (q1, .inl (cI, 16, .inl nI0)), (q2, .inl (cI, 16, .inl nI0)), (q3, .inl (cI, 400, .inl nI0))] 3 432
  refine N_putF C (T := TX4) (N := 5) (ci := 4) (k := 4) (q0 := 0) tyX4 tyX4_ok nmX4 in_X4 rfl rfl (by decide) wg_X4_25 rfl rfl (tyX4_ok 4 (by decide)) rfl rfl (Nat.le_of_ble_eq_true rfl) dX4_init_36 ?_
  show NG X h0 39 [] [(h0, .inr (4, [.int 0, .int 0, .ref q1, .ref q2, .ref q3])), (q1, .inl (cI, 16, .inl nI0)), (q2, .inl (cI, 16, .inl nI0)), (q3, .inl (cI, 400, .inl nI0))] 3 432
  exact r 39 3 432 [q1, q2, q3] dX4_init_39 (by decide) (by decide)
theorem wo_X7 : Cond.methodLink RX7 3 Lib.objectInit ∈ tb := List.mem_filter.mpr ⟨List.mem_of_getElem? (i := 366) (by decide +kernel), by decide +kernel⟩
theorem wg_X7_9 : Cond.fieldLink RX7 9 (TX7 0).1 (TX7 0).2.1 (TX7 0).2.2.1 ∈ tb := List.mem_filter.mpr ⟨List.mem_of_getElem? (i := 367) (by decide +kernel), by decide +kernel⟩
theorem wg_X7_15 : Cond.fieldLink RX7 15 (TX7 1).1 (TX7 1).2.1 (TX7 1).2.2.1 ∈ tb := List.mem_filter.mpr ⟨List.mem_of_getElem? (i := 368) (by decide +kernel), by decide +kernel⟩
theorem wg_X7_18 : Cond.fieldLink RX7 18 (TX7 2).1 (TX7 2).2.1 (TX7 2).2.2.1 ∈ tb := List.mem_filter.mpr ⟨List.mem_of_getElem? (i := 370) (by decide +kernel), by decide +kernel⟩
theorem wg_X7_21 : Cond.fieldLink RX7 21 (TX7 3).1 (TX7 3).2.1 (TX7 3).2.2.1 ∈ tb := List.mem_filter.mpr ⟨List.mem_of_getElem? (i := 372) (by decide +kernel), by decide +kernel⟩
theorem wg_X7_24 : Cond.fieldLink RX7 24 (TX7 4).1 (TX7 4).2.1 (TX7 4).2.2.1 ∈ tb := List.mem_filter.mpr ⟨List.mem_of_getElem? (i := 375) (by decide +kernel), by decide +kernel⟩
abbrev MX7_init : Mt := (yX7_init, cX7_init, 1, none)
theorem mo_X7_init : mtOk MX7_init 0 ∧ MX7_init.2.2.1 = 1 := ⟨⟨by decide, by decide +kernel, by decide +kernel, by decide +kernel⟩, rfl⟩
theorem n_X7 : NCl 1 5 106 MX7_init 6 [.null, .null, .null, .null, .null] (fun cI cZ h qs => [(h, .inr (6, [.ref (qs.getD 0 0), .ref (qs.getD 1 0), .ref (qs.getD 2 0), .ref (qs.getD 3 0), .ref (qs.getD 4 0)])), ((qs.getD 0 0), .inl (cI, 26, .inl nI0)), ((qs.getD 1 0), .inl (cI, 20, .inl nI0)), ((qs.getD 2 0), .inl (cI, 20, .inl nI0)), ((qs.getD 3 0), .inl (cI, 20, .inl nI0)), ((qs.getD 4 0), .inl (cI, 20, .inl nI0))]) := by
  refine NCl.intro (by decide) rfl rfl rfl (fun X h0 cI cZ eI eZ C r => ?_)
  refine N_this C dX7_init_0 ?_
  refine N_obj C (by decide) wo_X7 wOB dX7_init_1 ?_
  refine N_this C dX7_init_4 ?_
  refine N_bipush C (v := 26) (by decide) dX7_init_5 ?_
  refine N_newI C wAI (N := 26) (by decide) (by decide) (by decide) dX7_init_7 (fun q1 c1 e1 => ?_)
  have g1 : cI = c1 := eI.trans e1.symm
  subst g1
  show NG X h0 9 [.ref q1, .ref h0] [(h0, .inr (6, [.null, .null, .null, .null, .null])), (q1, .inl (cI, 26, .inl nI0))] 1 26
  refine N_putF C (T := TX7) (N := 5) (ci := 6) (k := 0) (q0 := 0) tyX7 tyX7_ok nmX7 in_X7 rfl rfl (by decide) wg_X7_9 rfl rfl (tyX7_ok 0 (by decide)) rfl rfl (Nat.le_of_ble_eq_true rfl) dX7_init_9 ?_
  show NG X h0 12 [] [(h0, .inr (6, [.ref q1, .null, .null, .null, .null])), (q1, .inl (cI, 26, .inl nI0))] 1 26
  refine N_this C dX7_init_12 ?_
  refine N_bipush C (v := 20) (by decide) dX7_init_13 ?_
  refine N_newI C wAI (N := 20) (by decide) (by decide) (by decide) dX7_init_15 (fun q2 c2 e2 => ?_)
  have g2 : cI = c2 := eI.trans e2.symm
  subst g2
  show NG X h0 17 [.ref q2, .ref h0] [(h0, .inr (6, [.ref q1, .null, .null, .null, .null])), (q1, .inl (cI, 26, .inl nI0)), (q2, .inl (cI, 20, .inl nI0))] 2 46
  refine N_putF C (T := TX7) (N := 5) (ci := 6) (k := 1) (q0 := 0) tyX7 tyX7_ok nmX7 in_X7 rfl rfl (by decide) wg_X7_15 rfl rfl (tyX7_ok 1 (by decide)) rfl rfl (Nat.le_of_ble_eq_true rfl) dX7_init_17 ?_
  show NG X h0 20 [] [(h0, .inr (6, [.ref q1, .ref q2, .null, .null, .null])), (q1, .inl (cI, 26, .inl nI0)), (q2, .inl (cI, 20, .inl nI0))] 2 46
  refine N_this C dX7_init_20 ?_
  refine N_bipush C (v := 20) (by decide) dX7_init_21 ?_
  refine N_newI C wAI (N := 20) (by decide) (by decide) (by decide) dX7_init_23 (fun q3 c3 e3 => ?_)
  have g3 : cI = c3 := eI.trans e3.symm
  subst g3
  show NG X h0 25 [.ref q3, .ref h0] [(h0, .inr (6, [.ref q1, .ref q2, .null, .null, .null])), (q1, .inl (cI, 26, .inl nI0)), (q2, .inl (cI, 20, .inl nI0)), (q3, .inl (cI, 20, .inl nI0))] 3 66
  refine N_putF C (T := TX7) (N := 5) (ci := 6) (k := 2) (q0 := 0) tyX7 tyX7_ok nmX7 in_X7 rfl rfl (by decide) wg_X7_18 rfl rfl (tyX7_ok 2 (by decide)) rfl rfl (Nat.le_of_ble_eq_true rfl) dX7_init_25 ?_
  show NG X h0 28 [] [(h0, .inr (6, [.ref q1, .ref q2, .ref q3, .null, .null])), (q1, .inl (cI, 26, .inl nI0)), (q2, .inl (cI, 20, .inl nI0)), (q3, .inl (cI, 20, .inl nI0))] 3 66
  refine N_this C dX7_init_28 ?_
  refine N_bipush C (v := 20) (by decide) dX7_init_29 ?_
  refine N_newI C wAI (N := 20) (by decide) (by decide) (by decide) dX7_init_31 (fun q4 c4 e4 => ?_)
  have g4 : cI = c4 := eI.trans e4.symm
  subst g4
  show NG X h0 33 [.ref q4, .ref h0] [(h0, .inr (6, [.ref q1, .ref q2, .ref q3, .null, .null])), (q1, .inl (cI, 26, .inl nI0)), (q2, .inl (cI, 20, .inl nI0)), (q3, .inl (cI, 20, .inl nI0)), (q4, .inl (cI, 20, .inl nI0))] 4 86
  refine N_putF C (T := TX7) (N := 5) (ci := 6) (k := 3) (q0 := 0) tyX7 tyX7_ok nmX7 in_X7 rfl rfl (by decide) wg_X7_21 rfl rfl (tyX7_ok 3 (by decide)) rfl rfl (Nat.le_of_ble_eq_true rfl) dX7_init_33 ?_
  show NG X h0 36 [] [(h0, .inr (6, [.ref q1, .ref q2, .ref q3, .ref q4, .null])), (q1, .inl (cI, 26, .inl nI0)), (q2, .inl (cI, 20, .inl nI0)), (q3, .inl (cI, 20, .inl nI0)), (q4, .inl (cI, 20, .inl nI0))] 4 86
  refine N_this C dX7_init_36 ?_
  refine N_bipush C (v := 20) (by decide) dX7_init_37 ?_
  refine N_newI C wAI (N := 20) (by decide) (by decide) (by decide) dX7_init_39 (fun q5 c5 e5 => ?_)
  have g5 : cI = c5 := eI.trans e5.symm
  subst g5
  show NG X h0 41 [.ref q5, .ref h0] [(h0, .inr (6, [.ref q1, .ref q2, .ref q3, .ref q4, .null])), (q1, .inl (cI, 26, .inl nI0)), (q2, .inl (cI, 20, .inl nI0)), (q3, .inl (cI, 20, .inl nI0)), (q4, .inl (cI, 20, .inl nI0)), (q5, .inl (cI, 20, .inl nI0))] 5 106
  refine N_putF C (T := TX7) (N := 5) (ci := 6) (k := 4) (q0 := 0) tyX7 tyX7_ok nmX7 in_X7 rfl rfl (by decide) wg_X7_24 rfl rfl (tyX7_ok 4 (by decide)) rfl rfl (Nat.le_of_ble_eq_true rfl) dX7_init_41 ?_
  show NG X h0 44 [] [(h0, .inr (6, [.ref q1, .ref q2, .ref q3, .ref q4, .ref q5])), (q1, .inl (cI, 26, .inl nI0)), (q2, .inl (cI, 20, .inl nI0)), (q3, .inl (cI, 20, .inl nI0)), (q4, .inl (cI, 20, .inl nI0)), (q5, .inl (cI, 20, .inl nI0))] 5 106
  exact r 44 5 106 [q1, q2, q3, q4, q5] dX7_init_44 (by decide) (by decide)
theorem wo_X1 : Cond.methodLink RX1 3 Lib.objectInit ∈ tb := List.mem_filter.mpr ⟨List.mem_of_getElem? (i := 392) (by decide +kernel), by decide +kernel⟩
theorem wg_X1_9 : Cond.fieldLink RX1 9 (TX1 0).1 (TX1 0).2.1 (TX1 0).2.2.1 ∈ tb := List.mem_filter.mpr ⟨List.mem_of_getElem? (i := 393) (by decide +kernel), by decide +kernel⟩
theorem wg_X1_15 : Cond.fieldLink RX1 15 (TX1 1).1 (TX1 1).2.1 (TX1 1).2.2.1 ∈ tb := List.mem_filter.mpr ⟨List.mem_of_getElem? (i := 394) (by decide +kernel), by decide +kernel⟩
theorem wg_X1_18 : Cond.fieldLink RX1 18 (TX1 2).1 (TX1 2).2.1 (TX1 2).2.2.1 ∈ tb := List.mem_filter.mpr ⟨List.mem_of_getElem? (i := 395) (by decide +kernel), by decide +kernel⟩
abbrev MX1_init : Mt := (yX1_init, cX1_init, 1, none)
theorem mo_X1_init : mtOk MX1_init 0 ∧ MX1_init.2.2.1 = 1 := ⟨⟨by decide, by decide +kernel, by decide +kernel, by decide +kernel⟩, rfl⟩
theorem n_X1 : NCl 1 3 49 MX1_init 1 [.null, .null, .null] (fun cI cZ h qs => [(h, .inr (1, [.ref (qs.getD 0 0), .ref (qs.getD 1 0), .ref (qs.getD 2 0)])), ((qs.getD 0 0), .inl (cI, 10, .inl nI0)), ((qs.getD 1 0), .inl (cI, 32, .inl nI0)), ((qs.getD 2 0), .inl (cI, 7, .inl nI0))]) := by
  refine NCl.intro (by decide) rfl rfl rfl (fun X h0 cI cZ eI eZ C r => ?_)
  refine N_this C dX1_init_0 ?_
  refine N_obj C (by decide) wo_X1 wOB dX1_init_1 ?_
  refine N_this C dX1_init_4 ?_
  refine N_bipush C (v := 10) (by decide) dX1_init_5 ?_
  refine N_newI C wAI (N := 10) (by decide) (by decide) (by decide) dX1_init_7 (fun q1 c1 e1 => ?_)
  have g1 : cI = c1 := eI.trans e1.symm
  subst g1
  show NG X h0 9 [.ref q1, .ref h0] [(h0, .inr (1, [.null, .null, .null])), (q1, .inl (cI, 10, .inl nI0))] 1 10
  refine N_putF C (T := TX1) (N := 3) (ci := 1) (k := 0) (q0 := 0) tyX1 tyX1_ok nmX1 in_X1 rfl rfl (by decide) wg_X1_9 rfl rfl (tyX1_ok 0 (by decide)) rfl rfl (Nat.le_of_ble_eq_true rfl) dX1_init_9 ?_
  show NG X h0 12 [] [(h0, .inr (1, [.ref q1, .null, .null])), (q1, .inl (cI, 10, .inl nI0))] 1 10
  refine N_this C dX1_init_12 ?_
  refine N_bipush C (v := 32) (by decide) dX1_init_13 ?_
  refine N_newI C wAI (N := 32) (by decide) (by decide) (by decide) dX1_init_15 (fun q2 c2 e2 => ?_)
  have g2 : cI = c2 := eI.trans e2.symm
  subst g2
  show NG X h0 17 [.ref q2, .ref h0] [(h0, .inr (1, [.ref q1, .null, .null])), (q1, .inl (cI, 10, .inl nI0)), (q2, .inl (cI, 32, .inl nI0))] 2 42
  refine N_putF C (T := TX1) (N := 3) (ci := 1) (k := 1) (q0 := 0) tyX1 tyX1_ok nmX1 in_X1 rfl rfl (by decide) wg_X1_15 rfl rfl (tyX1_ok 1 (by decide)) rfl rfl (Nat.le_of_ble_eq_true rfl) dX1_init_17 ?_
  show NG X h0 20 [] [(h0, .inr (1, [.ref q1, .ref q2, .null])), (q1, .inl (cI, 10, .inl nI0)), (q2, .inl (cI, 32, .inl nI0))] 2 42
  refine N_this C dX1_init_20 ?_
  refine N_bipush C (v := 7) (by decide) dX1_init_21 ?_
  refine N_newI C wAI (N := 7) (by decide) (by decide) (by decide) dX1_init_23 (fun q3 c3 e3 => ?_)
  have g3 : cI = c3 := eI.trans e3.symm
  subst g3
  show NG X h0 25 [.ref q3, .ref h0] [(h0, .inr (1, [.ref q1, .ref q2, .null])), (q1, .inl (cI, 10, .inl nI0)), (q2, .inl (cI, 32, .inl nI0)), (q3, .inl (cI, 7, .inl nI0))] 3 49
  refine N_putF C (T := TX1) (N := 3) (ci := 1) (k := 2) (q0 := 0) tyX1 tyX1_ok nmX1 in_X1 rfl rfl (by decide) wg_X1_18 rfl rfl (tyX1_ok 2 (by decide)) rfl rfl (Nat.le_of_ble_eq_true rfl) dX1_init_25 ?_
  show NG X h0 28 [] [(h0, .inr (1, [.ref q1, .ref q2, .ref q3])), (q1, .inl (cI, 10, .inl nI0)), (q2, .inl (cI, 32, .inl nI0)), (q3, .inl (cI, 7, .inl nI0))] 3 49
  exact r 28 3 49 [q1, q2, q3] dX1_init_28 (by decide) (by decide)
theorem wo_X10 : Cond.methodLink RX10 3 Lib.objectInit ∈ tb := List.mem_filter.mpr ⟨List.mem_of_getElem? (i := 408) (by decide +kernel), by decide +kernel⟩
theorem wg_X10_9 : Cond.fieldLink RX10 9 (TX10 0).1 (TX10 0).2.1 (TX10 0).2.2.1 ∈ tb := List.mem_filter.mpr ⟨List.mem_of_getElem? (i := 409) (by decide +kernel), by decide +kernel⟩
theorem wg_X10_15 : Cond.fieldLink RX10 15 (TX10 1).1 (TX10 1).2.1 (TX10 1).2.2.1 ∈ tb := List.mem_filter.mpr ⟨List.mem_of_getElem? (i := 410) (by decide +kernel), by decide +kernel⟩
theorem wg_X10_18 : Cond.fieldLink RX10 18 (TX10 2).1 (TX10 2).2.1 (TX10 2).2.2.1 ∈ tb := List.mem_filter.mpr ⟨List.mem_of_getElem? (i := 411) (by decide +kernel), by decide +kernel⟩
theorem wg_X10_22 : Cond.fieldLink RX10 22 (TX10 3).1 (TX10 3).2.1 (TX10 3).2.2.1 ∈ tb := List.mem_filter.mpr ⟨List.mem_of_getElem? (i := 413) (by decide +kernel), by decide +kernel⟩
theorem wg_X10_25 : Cond.fieldLink RX10 25 (TX10 4).1 (TX10 4).2.1 (TX10 4).2.2.1 ∈ tb := List.mem_filter.mpr ⟨List.mem_of_getElem? (i := 415) (by decide +kernel), by decide +kernel⟩
abbrev MX10_init : Mt := (yX10_init, cX10_init, 1, none)
theorem mo_X10_init : mtOk MX10_init 0 ∧ MX10_init.2.2.1 = 1 := ⟨⟨by decide, by decide +kernel, by decide +kernel, by decide +kernel⟩, rfl⟩
theorem n_X10 : NCl 1 2 820 MX10_init 9 [.null, .null, .int 0, .int 0, .int 0] (fun cI cZ h qs => [(h, .inr (9, [.ref (qs.getD 0 0), .ref (qs.getD 1 0), .int (-1), .int 0, .int 0])), ((qs.getD 0 0), .inl (cI, 20, .inl nI0)), ((qs.getD 1 0), .inl (cI, 800, .inl nI0))]) := by
  refine NCl.intro (by decide) rfl rfl rfl (fun X h0 cI cZ eI eZ C r => ?_)
  refine N_this C dX10_init_0 ?_
  refine N_obj C (by decide) wo_X10 wOB dX10_init_1 ?_
  refine N_this C dX10_init_4 ?_
  refine N_bipush C (v := 20) (by decide) dX10_init_5 ?_
  refine N_newI C wAI (N := 20) (by decide) (by decide) (by decide) dX10_init_7 (fun q1 c1 e1 => ?_)
  have g1 : cI = c1 := eI.trans e1.symm
  subst g1
  show NG X h0 9 [.ref q1, .ref h0] [(h0, .inr (9, [.null, .null, .int 0, .int 0, .int 0])), (q1, .inl (cI, 20, .inl nI0))] 1 20
  refine N_putF C (T := TX10) (N := 5) (ci := 9) (k := 0) (q0 := 0) tyX10 tyX10_ok nmX10 in_X10 rfl rfl (by decide) wg_X10_9 rfl rfl (tyX10_ok 0 (by decide)) rfl rfl (Nat.le_of_ble_eq_true rfl) dX10_init_9 ?_
  show NG X h0 12 [] [(h0, .inr (9, [.ref q1, .null, .int 0, .int 0, .int 0])), (q1, .inl (cI, 20, .inl nI0))] 1 20
  refine N_this C dX10_init_12 ?_
  refine N_sipush C (v := 800) (by decide) dX10_init_13 ?_
  refine N_newI C wAI (N := 800) (by decide) (by decide) (by decide) dX10_init_16 (fun q2 c2 e2 => ?_)
  have g2 : cI = c2 := eI.trans e2.symm
  subst g2
  show NG X h0 18 [.ref q2, .ref h0] [(h0, .inr (9, [.ref q1, .null, .int 0, .int 0, .int 0])), (q1, .inl (cI, 20, .inl nI0)), (q2, .inl (cI, 800, .inl nI0))] 2 820
  refine N_putF C (T := TX10) (N := 5) (ci := 9) (k := 1) (q0 := 0) tyX10 tyX10_ok nmX10 in_X10 rfl rfl (by decide) wg_X10_15 rfl rfl (tyX10_ok 1 (by decide)) rfl rfl (Nat.le_of_ble_eq_true rfl) dX10_init_18 ?_
  show NG X h0 21 [] [(h0, .inr (9, [.ref q1, .ref q2, .int 0, .int 0, .int 0])), (q1, .inl (cI, 20, .inl nI0)), (q2, .inl (cI, 800, .inl nI0))] 2 820
  refine N_this C dX10_init_21 ?_
  refine N_iconst C (v := (-1)) (by decide) dX10_init_22 ?_
  refine N_putI C (T := TX10) (N := 5) (ci := 9) (k := 2) (q0 := 0) tyX10 tyX10_ok nmX10 in_X10 rfl rfl (by decide) wg_X10_18 rfl (tyX10_ok 2 (by decide)) rfl rfl (Nat.le_of_ble_eq_true rfl) dX10_init_23 ?_
  show NG X h0 26 [] [(h0, .inr (9, [.ref q1, .ref q2, .int (-1), .int 0, .int 0])), (q1, .inl (cI, 20, .inl nI0)), (q2, .inl (cI, 800, .inl nI0))] 2 820
  refine N_this C dX10_init_26 ?_
  refine N_iconst C (v := 0) (by decide) dX10_init_27 ?_
  refine N_putI C (T := TX10) (N := 5) (ci := 9) (k := 3) (q0 := 0) tyX10 tyX10_ok nmX10 in_X10 rfl rfl (by decide) wg_X10_22 rfl (tyX10_ok 3 (by decide)) rfl rfl (Nat.le_of_ble_eq_true rfl) dX10_init_28 ?_
  show NG X h0 31 [] [(h0, .inr (9, [.ref q1, .ref q2, .int (-1), .int 0, .int 0])), (q1, .inl (cI, 20, .inl nI0)), (q2, .inl (cI, 800, .inl nI0))] 2 820
  refine N_this C dX10_init_31 ?_
  refine N_iconst C (v := 0) (by decide) dX10_init_32 ?_
  refine N_putI C (T := TX10) (N := 5) (ci := 9) (k := 4) (q0 := 0) tyX10 tyX10_ok nmX10 in_X10 rfl rfl (by decide) wg_X10_25 rfl (tyX10_ok 4 (by decide)) rfl rfl (Nat.le_of_ble_eq_true rfl) dX10_init_33 ?_
  show NG X h0 36 [] [(h0, .inr (9, [.ref q1, .ref q2, .int (-1), .int 0, .int 0])), (q1, .inl (cI, 20, .inl nI0)), (q2, .inl (cI, 800, .inl nI0))] 2 820
  exact r 36 2 820 [q1, q2] dX10_init_36 (by decide) (by decide)
theorem wo_X0 : Cond.methodLink RX0 3 Lib.objectInit ∈ tb := List.mem_filter.mpr ⟨List.mem_of_getElem? (i := 433) (by decide +kernel), by decide +kernel⟩
theorem wg_X0_9 : Cond.fieldLink RX0 9 (TX0 0).1 (TX0 0).2.1 (TX0 0).2.2.1 ∈ tb := List.mem_filter.mpr ⟨List.mem_of_getElem? (i := 434) (by decide +kernel), by decide +kernel⟩
theorem wg_X0_15 : Cond.fieldLink RX0 15 (TX0 1).1 (TX0 1).2.1 (TX0 1).2.2.1 ∈ tb := List.mem_filter.mpr ⟨List.mem_of_getElem? (i := 435) (by decide +kernel), by decide +kernel⟩
theorem wg_X0_19 : Cond.fieldLink RX0 19 (TX0 2).1 (TX0 2).2.1 (TX0 2).2.2.1 ∈ tb := List.mem_filter.mpr ⟨List.mem_of_getElem? (i := 436) (by decide +kernel), by decide +kernel⟩
theorem wg_X0_22 : Cond.fieldLink RX0 22 (TX0 3).1 (TX0 3).2.1 (TX0 3).2.2.1 ∈ tb := List.mem_filter.mpr ⟨List.mem_of_getElem? (i := 437) (by decide +kernel), by decide +kernel⟩
theorem wg_X0_25 : Cond.fieldLink RX0 25 (TX0 4).1 (TX0 4).2.1 (TX0 4).2.2.1 ∈ tb := List.mem_filter.mpr ⟨List.mem_of_getElem? (i := 438) (by decide +kernel), by decide +kernel⟩
theorem wg_X0_28 : Cond.fieldLink RX0 28 (TX0 5).1 (TX0 5).2.1 (TX0 5).2.2.1 ∈ tb := List.mem_filter.mpr ⟨List.mem_of_getElem? (i := 439) (by decide +kernel), by decide +kernel⟩
theorem wg_X0_31 : Cond.fieldLink RX0 31 (TX0 6).1 (TX0 6).2.1 (TX0 6).2.2.1 ∈ tb := List.mem_filter.mpr ⟨List.mem_of_getElem? (i := 440) (by decide +kernel), by decide +kernel⟩
theorem wg_X0_34 : Cond.fieldLink RX0 34 (TX0 7).1 (TX0 7).2.1 (TX0 7).2.2.1 ∈ tb := List.mem_filter.mpr ⟨List.mem_of_getElem? (i := 441) (by decide +kernel), by decide +kernel⟩
theorem wg_X0_37 : Cond.fieldLink RX0 37 (TX0 8).1 (TX0 8).2.1 (TX0 8).2.2.1 ∈ tb := List.mem_filter.mpr ⟨List.mem_of_getElem? (i := 442) (by decide +kernel), by decide +kernel⟩
theorem wg_X0_40 : Cond.fieldLink RX0 40 (TX0 9).1 (TX0 9).2.1 (TX0 9).2.2.1 ∈ tb := List.mem_filter.mpr ⟨List.mem_of_getElem? (i := 443) (by decide +kernel), by decide +kernel⟩
theorem wg_X0_44 : Cond.fieldLink RX0 44 (TX0 10).1 (TX0 10).2.1 (TX0 10).2.2.1 ∈ tb := List.mem_filter.mpr ⟨List.mem_of_getElem? (i := 445) (by decide +kernel), by decide +kernel⟩
abbrev MX0_init : Mt := (yX0_init, cX0_init, 1, none)
theorem mo_X0_init : mtOk MX0_init 0 ∧ MX0_init.2.2.1 = 1 := ⟨⟨by decide, by decide +kernel, by decide +kernel, by decide +kernel⟩, rfl⟩
theorem n_X0 : NCl 1 9 1568 MX0_init 0 [.null, .null, .null, .null, .null, .null, .null, .null, .null, .int 0, .int 0] (fun cI cZ h qs => [(h, .inr (0, [.ref (qs.getD 0 0), .ref (qs.getD 1 0), .ref (qs.getD 2 0), .ref (qs.getD 3 0), .ref (qs.getD 4 0), .ref (qs.getD 5 0), .ref (qs.getD 6 0), .ref (qs.getD 7 0), .ref (qs.getD 8 0), .int (-1), .int (-1)])), ((qs.getD 0 0), .inl (cI, 64, .inl nI0)), ((qs.getD 1 0), .inl (cZ, 64, .inl nI0)), ((qs.getD 2 0), .inl (cI, 256, .inl nI0)), ((qs.getD 3 0), .inl (cI, 256, .inl nI0)), ((qs.getD 4 0), .inl (cI, 256, .inl nI0)), ((qs.getD 5 0), .inl (cI, 256, .inl nI0)), ((qs.getD 6 0), .inl (cI, 256, .inl nI0)), ((qs.getD 7 0), .inl (cI, 96, .inl nI0)), ((qs.getD 8 0), .inl (cI, 64, .inl nI0))]) := by
  refine NCl.intro (by decide) rfl rfl rfl (fun X h0 cI cZ eI eZ C r => ?_)
  refine N_this C dX0_init_0 ?_
  refine N_obj C (by decide) wo_X0 wOB dX0_init_1 ?_
  refine N_this C dX0_init_4 ?_
  refine N_bipush C (v := 64) (by decide) dX0_init_5 ?_
  refine N_newI C wAI (N := 64) (by decide) (by decide) (by decide) dX0_init_7 (fun q1 c1 e1 => ?_)
  have g1 : cI = c1 := eI.trans e1.symm
  subst g1
  show NG X h0 9 [.ref q1, .ref h0] [(h0, .inr (0, [.null, .null, .null, .null, .null, .null, .null, .null, .null, .int 0, .int 0])), (q1, .inl (cI, 64, .inl nI0))] 1 64
  refine N_putF C (T := TX0) (N := 11) (ci := 0) (k := 0) (q0 := 0) tyX0 tyX0_ok nmX0 in_X0 rfl rfl (by decide) wg_X0_9 rfl rfl (tyX0_ok 0 (by decide)) rfl rfl (Nat.le_of_ble_eq_true rfl) dX0_init_9 ?_
  show NG X h0 12 [] [(h0, .inr (0, [.ref q1, .null, .null, .null, .null, .null, .null, .null, .null, .int 0, .int 0])), (q1, .inl (cI, 64, .inl nI0))] 1 64
  refine N_this C dX0_init_12 ?_
  refine N_bipush C (v := 64) (by decide) dX0_init_13 ?_
  refine N_newZ C wAZ (N := 64) (by decide) (by decide) (by decide) dX0_init_15 (fun q2 c2 e2 => ?_)
  have g2 : cZ = c2 := eZ.trans e2.symm
  subst g2
  show NG X h0 17 [.ref q2, .ref h0] [(h0, .inr (0, [.ref q1, .null, .null, .null, .null, .null, .null, .null, .null, .int 0, .int 0])), (q1, .inl (cI, 64, .inl nI0)), (q2, .inl (cZ, 64, .inl nI0))] 2 128
  refine N_putF C (T := TX0) (N := 11) (ci := 0) (k := 1) (q0 := 0) tyX0 tyX0_ok nmX0 in_X0 rfl rfl (by decide) wg_X0_15 rfl rfl (tyX0_ok 1 (by decide)) rfl rfl (Nat.le_of_ble_eq_true rfl) dX0_init_17 ?_
  show NG X h0 20 [] [(h0, .inr (0, [.ref q1, .ref q2, .null, .null, .null, .null, .null, .null, .null, .int 0, .int 0])), (q1, .inl (cI, 64, .inl nI0)), (q2, .inl (cZ, 64, .inl nI0))] 2 128
  refine N_this C dX0_init_20 ?_
  refine N_sipush C (v := 256) (by decide) dX0_init_21 ?_
  refine N_newI C wAI (N := 256) (by decide) (by decide) (by decide) dX0_init_24 (fun q3 c3 e3 => ?_)
  have g3 : cI = c3 := eI.trans e3.symm
  subst g3
  show NG X h0 26 [.ref q3, .ref h0] [(h0, .inr (0, [.ref q1, .ref q2, .null, .null, .null, .null, .null, .null, .null, .int 0, .int 0])), (q1, .inl (cI, 64, .inl nI0)), (q2, .inl (cZ, 64, .inl nI0)), (q3, .inl (cI, 256, .inl nI0))] 3 384
  refine N_putF C (T := TX0) (N := 11) (ci := 0) (k := 2) (q0 := 0) tyX0 tyX0_ok nmX0 in_X0 rfl rfl (by decide) wg_X0_19 rfl rfl (tyX0_ok 2 (by decide)) rfl rfl (Nat.le_of_ble_eq_true rfl) dX0_init_26 ?_
  show NG X h0 29 [] [(h0, .inr (0, [.ref q1, .ref q2, .ref q3, .null, .null, .null, .null, .null, .null, .int 0, .int 0])), (q1, .inl (cI, 64, .inl nI0)), (q2, .inl (cZ, 64, .inl nI0)), (q3, .inl (cI, 256, .inl nI0))] 3 384
  refine N_this C dX0_init_29 ?_
  refine N_sipush C (v := 256) (by decide) dX0_init_30 ?_
  refine N_newI C wAI (N := 256) (by decide) (by decide) (by decide) dX0_init_33 (fun q4 c4 e4 => ?_)
  have g4 : cI = c4 := eI.trans e4.symm
  subst g4
  show NG X h0 35 [.ref q4, .ref h0] [(h0, .inr (0, [.ref q1, .ref q2, .ref q3, .null, .null, .null, .null, .null, .null, .int 0, .int 0])), (q1, .inl (cI, 64, .inl nI0)), (q2, .inl (cZ, 64, .inl nI0)), (q3, .inl (cI, 256, .inl nI0)), (q4, .inl (cI, 256, .inl nI0))] 4 640
  refine N_putF C (T := TX0) (N := 11) (ci := 0) (k := 3) (q0 := 0) tyX0 tyX0_ok nmX0 in_X0 rfl rfl (by decide) wg_X0_22 rfl rfl (tyX0_ok 3 (by decide)) rfl rfl (Nat.le_of_ble_eq_true rfl) dX0_init_35 ?_
  show NG X h0 38 [] [(h0, .inr (0, [.ref q1, .ref q2, .ref q3, .ref q4, .null, .null, .null, .null, .null, .int 0, .int 0])), (q1, .inl (cI, 64, .inl nI0)), (q2, .inl (cZ, 64, .inl nI0)), (q3, .inl (cI, 256, .inl nI0)), (q4, .inl (cI, 256, .inl nI0))] 4 640
  refine N_this C dX0_init_38 ?_
  refine N_sipush C (v := 256) (by decide) dX0_init_39 ?_
  refine N_newI C wAI (N := 256) (by decide) (by decide) (by decide) dX0_init_42 (fun q5 c5 e5 => ?_)
  have g5 : cI = c5 := eI.trans e5.symm
  subst g5
  show NG X h0 44 [.ref q5, .ref h0] [(h0, .inr (0, [.ref q1, .ref q2, .ref q3, .ref q4, .null, .null, .null, .null, .null, .int 0, .int 0])), (q1, .inl (cI, 64, .inl nI0)), (q2, .inl (cZ, 64, .inl nI0)), (q3, .inl (cI, 256, .inl nI0)), (q4, .inl (cI, 256, .inl nI0)), (q5, .inl (cI, 256, .inl nI0))] 5 896
  refine N_putF C (T := TX0) (N := 11) (ci := 0) (k := 4) (q0 := 0) tyX0 tyX0_ok nmX0 in_X0 rfl rfl (by decide) wg_X0_25 rfl rfl (tyX0_ok 4 (by decide)) rfl rfl (Nat.le_of_ble_eq_true rfl) dX0_init_44 ?_
  show NG X h0 47 [] [(h0, .inr (0, [.ref q1, .ref q2, .ref q3, .ref q4, .ref q5, .null, .null, .null, .null, .int 0, .int 0])), (q1, .inl (cI, 64, .inl nI0)), (q2, .inl (cZ, 64, .inl nI0)), (q3, .inl (cI, 256, .inl nI0)), (q4, .inl (cI, 256, .inl nI0)), (q5, .inl (cI, 256, .inl nI0))] 5 896
  refine N_this C dX0_init_47 ?_
  refine N_sipush C (v := 256) (by decide) dX0_init_48 ?_
  refine N_newI C wAI (N := 256) (by decide) (by decide) (by decide) dX0_init_51 (fun q6 c6 e6 => ?_)
  have g6 : cI = c6 := eI.trans e6.symm
  subst g6
  show NG X h0 53 [.ref q6, .ref h0] [(h0, .inr (0, [.ref q1, .ref q2, .ref q3, .ref q4, .ref q5, .null, .null, .null, .null, .int 0, .int 0])), (q1, .inl (cI, 64, .inl nI0)), (q2, .inl (cZ, 64, .inl nI0)), (q3, .inl (cI, 256, .inl nI0)), (q4, .inl (cI, 256, .inl nI0)), (q5, .inl (cI, 256, .inl nI0)), (q6, .inl (cI, 256, .inl nI0))] 6 1152
  refine N_putF C (T := TX0) (N := 11) (ci := 0) (k := 5) (q0 := 0) tyX0 tyX0_ok nmX0 in_X0 rfl rfl (by decide) wg_X0_28 rfl rfl (tyX0_ok 5 (by decide)) rfl rfl (Nat.le_of_ble_eq_true rfl) dX0_init_53 ?_
  show NG X h0 56 [] [(h0, .inr (0, [.ref q1, .ref q2, .ref q3, .ref q4, .ref q5, .ref q6, .null, .null, .null, .int 0, .int 0])), (q1, .inl (cI, 64, .inl nI0)), (q2, .inl (cZ, 64, .inl nI0)), (q3, .inl (cI, 256, .inl nI0)), (q4, .inl (cI, 256, .inl nI0)), (q5, .inl (cI, 256, .inl nI0)), (q6, .inl (cI, 256, .inl nI0))] 6 1152
  refine N_this C dX0_init_56 ?_
  refine N_sipush C (v := 256) (by decide) dX0_init_57 ?_
  refine N_newI C wAI (N := 256) (by decide) (by decide) (by decide) dX0_init_60 (fun q7 c7 e7 => ?_)
  have g7 : cI = c7 := eI.trans e7.symm
  subst g7
  show NG X h0 62 [.ref q7, .ref h0] [(h0, .inr (0, [.ref q1, .ref q2, .ref q3, .ref q4, .ref q5, .ref q6, .null, .null, .null, .int 0, .int 0])), (q1, .inl (cI, 64, .inl nI0)), (q2, .inl (cZ, 64, .inl nI0)), (q3, .inl (cI, 256, .inl nI0)), (q4, .inl (cI, 256, .inl nI0)), (q5, .inl (cI, 256, .inl nI0)), (q6, .inl (cI, 256, .inl nI0)), (q7, .inl (cI, 256, .inl nI0))] 7 1408
  refine N_putF C (T := TX0) (N := 11) (ci := 0) (k := 6) (q0 := 0) tyX0 tyX0_ok nmX0 in_X0 rfl rfl (by decide) wg_X0_31 rfl rfl (tyX0_ok 6 (by decide)) rfl rfl (Nat.le_of_ble_eq_true rfl) dX0_init_62 ?_
  show NG X h0 65 [] [(h0, .inr (0, [.ref q1, .ref q2, .ref q3, .ref q4, .ref q5, .ref q6, .ref q7, .null, .null, .int 0, .int 0])), (q1, .inl (cI, 64, .inl nI0)), (q2, .inl (cZ, 64, .inl nI0)), (q3, .inl (cI, 256, .inl nI0)), (q4, .inl (cI, 256, .inl nI0)), (q5, .inl (cI, 256, .inl nI0)), (q6, .inl (cI, 256, .inl nI0)), (q7, .inl (cI, 256, .inl nI0))] 7 1408
  refine N_this C dX0_init_65 ?_
  refine N_bipush C (v := 96) (by decide) dX0_init_66 ?_
  refine N_newI C wAI (N := 96) (by decide) (by decide) (by decide) dX0_init_68 (fun q8 c8 e8 => ?_)
  have g8 : cI = c8 := eI.trans e8.symm
  subst g8
  show NG X h0 70 [.ref q8, .ref h0] [(h0, .inr (0, [.ref q1, .ref q2, .ref q3, .ref q4, .ref q5, .ref q6, .ref q7, .null, .null, .int 0, .int 0])), (q1, .inl (cI, 64, .inl nI0)), (q2, .inl (cZ, 64, .inl nI0)), (q3, .inl (cI, 256, .inl nI0)), (q4, .inl (cI, 256, .inl nI0)), (q5, .inl (cI, 256, .inl nI0)), (q6, .inl (cI, 256, .inl nI0)), (q7, .inl (cI, 256, .inl nI0)), (q8, .inl (cI, 96, .inl nI0))] 8 1504
  refine N_putF C (T := TX0) (N := 11) (ci := 0) (k := 7) (q0 := 0) tyX0 tyX0_ok nmX0 in_X0 rfl rfl (by decide) wg_X0_34 rfl rfl (tyX0_ok 7 (by decide)) rfl rfl (Nat.le_of_ble_eq_true rfl) dX0_init_70 ?_
  show NG X h0 73 [] [(h0, .inr (0, [.ref q1, .ref q2, .ref q3, .ref q4, .ref q5, .ref q6, .ref q7, .ref q8, .null, .int 0, .int 0])), (q1, .inl (cI, 64, .inl nI0)), (q2, .inl (cZ, 64, .inl nI0)), (q3, .inl (cI, 256, .inl nI0)), (q4, .inl (cI, 256, .inl nI0)), (q5, .inl (cI, 256, .inl nI0)), (q6, .inl (cI, 256, .inl nI0)), (q7, .inl (cI, 256, .inl nI0)), (q8, .inl (cI, 96, .inl nI0))] 8 1504
  refine N_this C dX0_init_73 ?_
  refine N_bipush C (v := 64) (by decide) dX0_init_74 ?_
  refine N_newI C wAI (N := 64) (by decide) (by decide) (by decide) dX0_init_76 (fun q9 c9 e9 => ?_)
  have g9 : cI = c9 := eI.trans e9.symm
  subst g9
  show NG X h0 78 [.ref q9, .ref h0] [(h0, .inr (0, [.ref q1, .ref q2, .ref q3, .ref q4, .ref q5, .ref q6, .ref q7, .ref q8, .null, .int 0, .int 0])), (q1, .inl (cI, 64, .inl nI0)), (q2, .inl (cZ, 64, .inl nI0)), (q3, .inl (cI, 256, .inl nI0)), (q4, .inl (cI, 256, .inl nI0)), (q5, .inl (cI, 256, .inl nI0)), (q6, .inl (cI, 256, .inl nI0)), (q7, .inl (cI, 256, .inl nI0)), (q8, .inl (cI, 96, .inl nI0)), (q9, .inl (cI, 64, .inl nI0))] 9 1568
  refine N_putF C (T := TX0) (N := 11) (ci := 0) (k := 8) (q0 := 0) tyX0 tyX0_ok nmX0 in_X0 rfl rfl (by decide) wg_X0_37 rfl rfl (tyX0_ok 8 (by decide)) rfl rfl (Nat.le_of_ble_eq_true rfl) dX0_init_78 ?_
  show NG X h0 81 [] [(h0, .inr (0, [.ref q1, .ref q2, .ref q3, .ref q4, .ref q5, .ref q6, .ref q7, .ref q8, .ref q9, .int 0, .int 0])), (q1, .inl (cI, 64, .inl nI0)), (q2, .inl (cZ, 64, .inl nI0)), (q3, .inl (cI, 256, .inl nI0)), (q4, .inl (cI, 256, .inl nI0)), (q5, .inl (cI, 256, .inl nI0)), (q6, .inl (cI, 256, .inl nI0)), (q7, .inl (cI, 256, .inl nI0)), (q8, .inl (cI, 96, .inl nI0)), (q9, .inl (cI, 64, .inl nI0))] 9 1568
  refine N_this C dX0_init_81 ?_
  refine N_iconst C (v := (-1)) (by decide) dX0_init_82 ?_
  refine N_putI C (T := TX0) (N := 11) (ci := 0) (k := 9) (q0 := 0) tyX0 tyX0_ok nmX0 in_X0 rfl rfl (by decide) wg_X0_40 rfl (tyX0_ok 9 (by decide)) rfl rfl (Nat.le_of_ble_eq_true rfl) dX0_init_83 ?_
  show NG X h0 86 [] [(h0, .inr (0, [.ref q1, .ref q2, .ref q3, .ref q4, .ref q5, .ref q6, .ref q7, .ref q8, .ref q9, .int (-1), .int 0])), (q1, .inl (cI, 64, .inl nI0)), (q2, .inl (cZ, 64, .inl nI0)), (q3, .inl (cI, 256, .inl nI0)), (q4, .inl (cI, 256, .inl nI0)), (q5, .inl (cI, 256, .inl nI0)), (q6, .inl (cI, 256, .inl nI0)), (q7, .inl (cI, 256, .inl nI0)), (q8, .inl (cI, 96, .inl nI0)), (q9, .inl (cI, 64, .inl nI0))] 9 1568
  refine N_this C dX0_init_86 ?_
  refine N_iconst C (v := (-1)) (by decide) dX0_init_87 ?_
  refine N_putI C (T := TX0) (N := 11) (ci := 0) (k := 10) (q0 := 0) tyX0 tyX0_ok nmX0 in_X0 rfl rfl (by decide) wg_X0_44 rfl (tyX0_ok 10 (by decide)) rfl rfl (Nat.le_of_ble_eq_true rfl) dX0_init_88 ?_
  show NG X h0 91 [] [(h0, .inr (0, [.ref q1, .ref q2, .ref q3, .ref q4, .ref q5, .ref q6, .ref q7, .ref q8, .ref q9, .int (-1), .int (-1)])), (q1, .inl (cI, 64, .inl nI0)), (q2, .inl (cZ, 64, .inl nI0)), (q3, .inl (cI, 256, .inl nI0)), (q4, .inl (cI, 256, .inl nI0)), (q5, .inl (cI, 256, .inl nI0)), (q6, .inl (cI, 256, .inl nI0)), (q7, .inl (cI, 256, .inl nI0)), (q8, .inl (cI, 96, .inl nI0)), (q9, .inl (cI, 64, .inl nI0))] 9 1568
  exact r 91 9 1568 [q1, q2, q3, q4, q5, q6, q7, q8, q9] dX0_init_91 (by decide) (by decide)
theorem wo_X3 : Cond.methodLink RX3 3 Lib.objectInit ∈ tb := List.mem_filter.mpr ⟨List.mem_of_getElem? (i := 476) (by decide +kernel), by decide +kernel⟩
theorem wg_X3_9 : Cond.fieldLink RX3 9 (TX3 0).1 (TX3 0).2.1 (TX3 0).2.2.1 ∈ tb := List.mem_filter.mpr ⟨List.mem_of_getElem? (i := 477) (by decide +kernel), by decide +kernel⟩
theorem wg_X3_15 : Cond.fieldLink RX3 15 (TX3 1).1 (TX3 1).2.1 (TX3 1).2.2.1 ∈ tb := List.mem_filter.mpr ⟨List.mem_of_getElem? (i := 478) (by decide +kernel), by decide +kernel⟩
theorem wg_X3_18 : Cond.fieldLink RX3 18 (TX3 2).1 (TX3 2).2.1 (TX3 2).2.2.1 ∈ tb := List.mem_filter.mpr ⟨List.mem_of_getElem? (i := 479) (by decide +kernel), by decide +kernel⟩
theorem wg_X3_21 : Cond.fieldLink RX3 21 (TX3 3).1 (TX3 3).2.1 (TX3 3).2.2.1 ∈ tb := List.mem_filter.mpr ⟨List.mem_of_getElem? (i := 480) (by decide +kernel), by decide +kernel⟩
theorem wg_X3_24 : Cond.fieldLink RX3 24 (TX3 4).1 (TX3 4).2.1 (TX3 4).2.2.1 ∈ tb := List.mem_filter.mpr ⟨List.mem_of_getElem? (i := 481) (by decide +kernel), by decide +kernel⟩
theorem wg_X3_27 : Cond.fieldLink RX3 27 (TX3 5).1 (TX3 5).2.1 (TX3 5).2.2.1 ∈ tb := List.mem_filter.mpr ⟨List.mem_of_getElem? (i := 482) (by decide +kernel), by decide +kernel⟩
theorem wg_X3_31 : Cond.fieldLink RX3 31 (TX3 6).1 (TX3 6).2.1 (TX3 6).2.2.1 ∈ tb := List.mem_filter.mpr ⟨List.mem_of_getElem? (i := 484) (by decide +kernel), by decide +kernel⟩
abbrev MX3_init : Mt := (yX3_init, cX3_init, 1, none)
theorem mo_X3_init : mtOk MX3_init 0 ∧ MX3_init.2.2.1 = 1 := ⟨⟨by decide, by decide +kernel, by decide +kernel, by decide +kernel⟩, rfl⟩
theorem n_X3 : NCl 1 5 88 MX3_init 3 [.null, .null, .null, .null, .null, .int 0, .int 0] (fun cI cZ h qs => [(h, .inr (3, [.ref (qs.getD 0 0), .ref (qs.getD 1 0), .ref (qs.getD 2 0), .ref (qs.getD 3 0), .ref (qs.getD 4 0), .int (-1), .int 0])), ((qs.getD 0 0), .inl (cI, 20, .inl nI0)), ((qs.getD 1 0), .inl (cI, 20, .inl nI0)), ((qs.getD 2 0), .inl (cI, 8, .inl nI0)), ((qs.getD 3 0), .inl (cI, 20, .inl nI0)), ((qs.getD 4 0), .inl (cI, 20, .inl nI0))]) := by
  refine NCl.intro (by decide) rfl rfl rfl (fun X h0 cI cZ eI eZ C r => ?_)
  refine N_this C dX3_init_0 ?_
  refine N_obj C (by decide) wo_X3 wOB dX3_init_1 ?_
  refine N_this C dX3_init_4 ?_
  refine N_bipush C (v := 20) (by decide) dX3_init_5 ?_
  refine N_newI C wAI (N := 20) (by decide) (by decide) (by decide) dX3_init_7 (fun q1 c1 e1 => ?_)
  have g1 : cI = c1 := eI.trans e1.symm
  subst g1
  show NG X h0 9 [.ref q1, .ref h0] [(h0, .inr (3, [.null, .null, .null, .null, .null, .int 0, .int 0])), (q1, .inl (cI, 20, .inl nI0))] 1 20
  refine N_putF C (T := TX3) (N := 7) (ci := 3) (k := 0) (q0 := 0) tyX3 tyX3_ok nmX3 in_X3 rfl rfl (by decide) wg_X3_9 rfl rfl (tyX3_ok 0 (by decide)) rfl rfl (Nat.le_of_ble_eq_true rfl) dX3_init_9 ?_
  show NG X h0 12 [] [(h0, .inr (3, [.ref q1, .null, .null, .null, .null, .int 0, .int 0])), (q1, .inl (cI, 20, .inl nI0))] 1 20
  refine N_this C dX3_init_12 ?_
  refine N_bipush C (v := 20) (by decide) dX3_init_13 ?_
  refine N_newI C wAI (N := 20) (by decide) (by decide) (by decide) dX3_init_15 (fun q2 c2 e2 => ?_)
  have g2 : cI = c2 := eI.trans e2.symm
  subst g2
  show NG X h0 17 [.ref q2, .ref h0] [(h0, .inr (3, [.ref q1, .null, .null, .null, .null, .int 0, .int 0])), (q1, .inl (cI, 20, .inl nI0)), (q2, .inl (cI, 20, .inl nI0))] 2 40
  refine N_putF C (T := TX3) (N := 7) (ci := 3) (k := 1) (q0 := 0) tyX3 tyX3_ok nmX3 in_X3 rfl rfl (by decide) wg_X3_15 rfl rfl (tyX3_ok 1 (by decide)) rfl rfl (Nat.le_of_ble_eq_true rfl) dX3_init_17 ?_
  show NG X h0 20 [] [(h0, .inr (3, [.ref q1, .ref q2, .null, .null, .null, .int 0, .int 0])), (q1, .inl (cI, 20, .inl nI0)), (q2, .inl (cI, 20, .inl nI0))] 2 40
  refine N_this C dX3_init_20 ?_
  refine N_bipush C (v := 8) (by decide) dX3_init_21 ?_
  refine N_newI C wAI (N := 8) (by decide) (by decide) (by decide) dX3_init_23 (fun q3 c3 e3 => ?_)
  have g3 : cI = c3 := eI.trans e3.symm
  subst g3
  show NG X h0 25 [.ref q3, .ref h0] [(h0, .inr (3, [.ref q1, .ref q2, .null, .null, .null, .int 0, .int 0])), (q1, .inl (cI, 20, .inl nI0)), (q2, .inl (cI, 20, .inl nI0)), (q3, .inl (cI, 8, .inl nI0))] 3 48
  refine N_putF C (T := TX3) (N := 7) (ci := 3) (k := 2) (q0 := 0) tyX3 tyX3_ok nmX3 in_X3 rfl rfl (by decide) wg_X3_18 rfl rfl (tyX3_ok 2 (by decide)) rfl rfl (Nat.le_of_ble_eq_true rfl) dX3_init_25 ?_
  show NG X h0 28 [] [(h0, .inr (3, [.ref q1, .ref q2, .ref q3, .null, .null, .int 0, .int 0])), (q1, .inl (cI, 20, .inl nI0)), (q2, .inl (cI, 20, .inl nI0)), (q3, .inl (cI, 8, .inl nI0))] 3 48
  refine N_this C dX3_init_28 ?_
  refine N_bipush C (v := 20) (by decide) dX3_init_29 ?_
  refine N_newI C wAI (N := 20) (by decide) (by decide) (by decide) dX3_init_31 (fun q4 c4 e4 => ?_)
  have g4 : cI = c4 := eI.trans e4.symm
  subst g4
  show NG X h0 33 [.ref q4, .ref h0] [(h0, .inr (3, [.ref q1, .ref q2, .ref q3, .null, .null, .int 0, .int 0])), (q1, .inl (cI, 20, .inl nI0)), (q2, .inl (cI, 20, .inl nI0)), (q3, .inl (cI, 8, .inl nI0)), (q4, .inl (cI, 20, .inl nI0))] 4 68
  refine N_putF C (T := TX3) (N := 7) (ci := 3) (k := 3) (q0 := 0) tyX3 tyX3_ok nmX3 in_X3 rfl rfl (by decide) wg_X3_21 rfl rfl (tyX3_ok 3 (by decide)) rfl rfl (Nat.le_of_ble_eq_true rfl) dX3_init_33 ?_
  show NG X h0 36 [] [(h0, .inr (3, [.ref q1, .ref q2, .ref q3, .ref q4, .null, .int 0, .int 0])), (q1, .inl (cI, 20, .inl nI0)), (q2, .inl (cI, 20, .inl nI0)), (q3, .inl (cI, 8, .inl nI0)), (q4, .inl (cI, 20, .inl nI0))] 4 68
  refine N_this C dX3_init_36 ?_
  refine N_bipush C (v := 20) (by decide) dX3_init_37 ?_
  refine N_newI C wAI (N := 20) (by decide) (by decide) (by decide) dX3_init_39 (fun q5 c5 e5 => ?_)
  have g5 : cI = c5 := eI.trans e5.symm
  subst g5
  show NG X h0 41 [.ref q5, .ref h0] [(h0, .inr (3, [.ref q1, .ref q2, .ref q3, .ref q4, .null, .int 0, .int 0])), (q1, .inl (cI, 20, .inl nI0)), (q2, .inl (cI, 20, .inl nI0)), (q3, .inl (cI, 8, .inl nI0)), (q4, .inl (cI, 20, .inl nI0)), (q5, .inl (cI, 20, .inl nI0))] 5 88
  refine N_putF C (T := TX3) (N := 7) (ci := 3) (k := 4) (q0 := 0) tyX3 tyX3_ok nmX3 in_X3 rfl rfl (by decide) wg_X3_24 rfl rfl (tyX3_ok 4 (by decide)) rfl rfl (Nat.le_of_ble_eq_true rfl) dX3_init_41 ?_
  show NG X h0 44 [] [(h0, .inr (3, [.ref q1, .ref q2, .ref q3, .ref q4, .ref q5, .int 0, .int 0])), (q1, .inl (cI, 20, .inl nI0)), (q2, .inl (cI, 20, .inl nI0)), (q3, .inl (cI, 8, .inl nI0)), (q4, .inl (cI, 20, .inl nI0)), (q5, .inl (cI, 20, .inl nI0))] 5 88
  refine N_this C dX3_init_44 ?_
  refine N_iconst C (v := (-1)) (by decide) dX3_init_45 ?_
  refine N_putI C (T := TX3) (N := 7) (ci := 3) (k := 5) (q0 := 0) tyX3 tyX3_ok nmX3 in_X3 rfl rfl (by decide) wg_X3_27 rfl (tyX3_ok 5 (by decide)) rfl rfl (Nat.le_of_ble_eq_true rfl) dX3_init_46 ?_
  show NG X h0 49 [] [(h0, .inr (3, [.ref q1, .ref q2, .ref q3, .ref q4, .ref q5, .int (-1), .int 0])), (q1, .inl (cI, 20, .inl nI0)), (q2, .inl (cI, 20, .inl nI0)), (q3, .inl (cI, 8, .inl nI0)), (q4, .inl (cI, 20, .inl nI0)), (q5, .inl (cI, 20, .inl nI0))] 5 88
  refine N_this C dX3_init_49 ?_
  refine N_iconst C (v := 0) (by decide) dX3_init_50 ?_
  refine N_putI C (T := TX3) (N := 7) (ci := 3) (k := 6) (q0 := 0) tyX3 tyX3_ok nmX3 in_X3 rfl rfl (by decide) wg_X3_31 rfl (tyX3_ok 6 (by decide)) rfl rfl (Nat.le_of_ble_eq_true rfl) dX3_init_51 ?_
  show NG X h0 54 [] [(h0, .inr (3, [.ref q1, .ref q2, .ref q3, .ref q4, .ref q5, .int (-1), .int 0])), (q1, .inl (cI, 20, .inl nI0)), (q2, .inl (cI, 20, .inl nI0)), (q3, .inl (cI, 8, .inl nI0)), (q4, .inl (cI, 20, .inl nI0)), (q5, .inl (cI, 20, .inl nI0))] 5 88
  exact r 54 5 88 [q1, q2, q3, q4, q5] dX3_init_54 (by decide) (by decide)
theorem wo_X8 : Cond.methodLink RX8 3 Lib.objectInit ∈ tb := List.mem_filter.mpr ⟨List.mem_of_getElem? (i := 336) (by decide +kernel), by decide +kernel⟩
theorem wg_X8_9 : Cond.fieldLink RX8 9 (TX8 0).1 (TX8 0).2.1 (TX8 0).2.2.1 ∈ tb := List.mem_filter.mpr ⟨List.mem_of_getElem? (i := 339) (by decide +kernel), by decide +kernel⟩
theorem wg_X8_15 : Cond.fieldLink RX8 15 (TX8 1).1 (TX8 1).2.1 (TX8 1).2.2.1 ∈ tb := List.mem_filter.mpr ⟨List.mem_of_getElem? (i := 340) (by decide +kernel), by decide +kernel⟩
theorem wn_X8_18_23 : Cond.classLink RX8 18 RX4 ∈ tb ∧ Cond.instantiable RX4 5 ∈ tb ∧ Cond.initialized RX4 ∈ tb := ⟨List.mem_filter.mpr ⟨List.mem_of_getElem? (i := 337) (by decide +kernel), by decide +kernel⟩, List.mem_filter.mpr ⟨List.mem_of_getElem? (i := 204) (by decide +kernel), by decide +kernel⟩, List.mem_filter.mpr ⟨List.mem_of_getElem? (i := 117) (by decide +kernel), by decide +kernel⟩⟩
theorem wi_X8_20 : Cond.methodLink RX8 20 MX4_init.1 ∈ tb ∧ Cond.instanceMethod MX4_init.1 ∈ tb ∧ Cond.initialized MX4_init.1.cls ∈ tb ∧ Cond.code MX4_init.1 MX4_init.2.1 MX4_init.2.2.1 MX4_init.2.2.2 ∈ tb := ⟨List.mem_filter.mpr ⟨List.mem_of_getElem? (i := 338) (by decide +kernel), by decide +kernel⟩, List.mem_filter.mpr ⟨List.mem_of_getElem? (i := 206) (by decide +kernel), by decide +kernel⟩, List.mem_filter.mpr ⟨List.mem_of_getElem? (i := 117) (by decide +kernel), by decide +kernel⟩, List.mem_filter.mpr ⟨List.mem_of_getElem? (i := 207) (by decide +kernel), by decide +kernel⟩⟩
theorem wg_X8_21 : Cond.fieldLink RX8 21 (TX8 2).1 (TX8 2).2.1 (TX8 2).2.2.1 ∈ tb := List.mem_filter.mpr ⟨List.mem_of_getElem? (i := 341) (by decide +kernel), by decide +kernel⟩
theorem wg_X8_25 : Cond.fieldLink RX8 25 (TX8 3).1 (TX8 3).2.1 (TX8 3).2.2.1 ∈ tb := List.mem_filter.mpr ⟨List.mem_of_getElem? (i := 343) (by decide +kernel), by decide +kernel⟩
theorem wg_X8_29 : Cond.fieldLink RX8 29 (TX8 4).1 (TX8 4).2.1 (TX8 4).2.2.1 ∈ tb := List.mem_filter.mpr ⟨List.mem_of_getElem? (i := 344) (by decide +kernel), by decide +kernel⟩
theorem wg_X8_32 : Cond.fieldLink RX8 32 (TX8 5).1 (TX8 5).2.1 (TX8 5).2.2.1 ∈ tb := List.mem_filter.mpr ⟨List.mem_of_getElem? (i := 346) (by decide +kernel), by decide +kernel⟩
abbrev MX8_init : Mt := (yX8_init, cX8_init, 1, none)
theorem mo_X8_init : mtOk MX8_init 0 ∧ MX8_init.2.2.1 = 1 := ⟨⟨by decide, by decide +kernel, by decide +kernel, by decide +kernel⟩, rfl⟩
theorem n_X8 : NCl 2 6 1239 MX8_init 7 [.null, .null, .null, .int 0, .int 0, .int 0] (fun cI cZ h qs => [(h, .inr (7, [.ref (qs.getD 0 0), .ref (qs.getD 1 0), .ref (qs.getD 2 0), .int 0, .int 0, .int (-1)])), ((qs.getD 0 0), .inl (cI, 401, .inl nI0)), ((qs.getD 1 0), .inl (cI, 401, .inl nI0)), ((qs.getD 2 0), .inr (4, [.int 0, .int 0, .ref (qs.getD 3 0), .ref (qs.getD 4 0), .ref (qs.getD 5 0)])), ((qs.getD 3 0), .inl (cI, 16, .inl nI0)), ((qs.getD 4 0), .inl (cI, 16, .inl nI0)), ((qs.getD 5 0), .inl (cI, 400, .inl nI0))]) := by
  refine NCl.intro (by decide) rfl rfl rfl (fun X h0 cI cZ eI eZ C r => ?_)
  refine N_this C dX8_init_0 ?_
  refine N_obj C (by decide) wo_X8 wOB dX8_init_1 ?_
  refine N_this C dX8_init_4 ?_
  refine N_sipush C (v := 401) (by decide) dX8_init_5 ?_
  refine N_newI C wAI (N := 401) (by decide) (by decide) (by decide) dX8_init_8 (fun q1 c1 e1 => ?_)
  have g1 : cI = c1 := eI.trans e1.symm
  subst g1
  show NG X h0 10 [.ref q1, .ref h0] [(h0, .inr (7, [.null, .null, .null, .int 0, .int 0, .int 0])), (q1, .inl (cI, 401, .inl nI0))] 1 401
  refine N_putF C (T := TX8) (N := 6) (ci := 7) (k := 0) (q0 := 0) tyX8 tyX8_ok nmX8 in_X8 rfl rfl (by decide) wg_X8_9 rfl rfl (tyX8_ok 0 (by decide)) rfl rfl (Nat.le_of_ble_eq_true rfl) dX8_init_10 ?_
  show NG X h0 13 [] [(h0, .inr (7, [.ref q1, .null, .null, .int 0, .int 0, .int 0])), (q1, .inl (cI, 401, .inl nI0))] 1 401
  refine N_this C dX8_init_13 ?_
  refine N_sipush C (v := 401) (by decide) dX8_init_14 ?_
  refine N_newI C wAI (N := 401) (by decide) (by decide) (by decide) dX8_init_17 (fun q2 c2 e2 => ?_)
  have g2 : cI = c2 := eI.trans e2.symm
  subst g2
  show NG X h0 19 [.ref q2, .ref h0] [(h0, .inr (7, [.ref q1, .null, .null, .int 0, .int 0, .int 0])), (q1, .inl (cI, 401, .inl nI0)), (q2, .inl (cI, 401, .inl nI0))] 2 802
  refine N_putF C (T := TX8) (N := 6) (ci := 7) (k := 1) (q0 := 0) tyX8 tyX8_ok nmX8 in_X8 rfl rfl (by decide) wg_X8_15 rfl rfl (tyX8_ok 1 (by decide)) rfl rfl (Nat.le_of_ble_eq_true rfl) dX8_init_19 ?_
  show NG X h0 22 [] [(h0, .inr (7, [.ref q1, .ref q2, .null, .int 0, .int 0, .int 0])), (q1, .inl (cI, 401, .inl nI0)), (q2, .inl (cI, 401, .inl nI0))] 2 802
  refine N_this C dX8_init_22 ?_
  refine N_new C (ci := 4) (fs := [.int 0, .int 0, .null, .null, .null]) (T := TX4) (N := 5) tyX4 tyX4_ok in_X4 wn_X8_18_23.1 wn_X8_18_23.2 rfl (by decide) (by decide) dX8_init_23 (fun q3 => ?_)
  refine N_dup C rfl dX8_init_26 ?_
  refine N_call C n_X4 (by decide) mo_X4_init wi_X8_20 rfl rfl (Nat.le_of_ble_eq_true rfl) (by decide) [0, 1, 2] rfl (by decide) rfl dX8_init_27 (fun Q4 c4 z4 e4 f4 => ?_)
  have g4 : cI = c4 := eI.trans e4.symm
  have k4 : cZ = z4 := eZ.trans f4.symm
  subst g4
  subst k4
  show NG X h0 30 [.ref q3, .ref h0] [(h0, .inr (7, [.ref q1, .ref q2, .null, .int 0, .int 0, .int 0])), (q1, .inl (cI, 401, .inl nI0)), (q2, .inl (cI, 401, .inl nI0)), (q3, .inr (4, [.int 0, .int 0, .ref (Q4.getD 0 0), .ref (Q4.getD 1 0), .ref (Q4.getD 2 0)])), ((Q4.getD 0 0), .inl (cI, 16, .inl nI0)), ((Q4.getD 1 0), .inl (cI, 16, .inl nI0)), ((Q4.getD 2 0), .inl (cI, 400, .inl nI0))] 6 1239
  refine N_putF C (T := TX8) (N := 6) (ci := 7) (k := 2) (q0 := 0) tyX8 tyX8_ok nmX8 in_X8 rfl rfl (by decide) wg_X8_21 rfl rfl (tyX8_ok 2 (by decide)) rfl rfl (Nat.le_of_ble_eq_true rfl) dX8_init_30 ?_
  show NG X h0 33 [] [(h0, .inr (7, [.ref q1, .ref q2, .ref q3, .int 0, .int 0, .int 0])), (q1, .inl (cI, 401, .inl nI0)), (q2, .inl (cI, 401, .inl nI0)), (q3, .inr (4, [.int 0, .int 0, .ref (Q4.getD 0 0), .ref (Q4.getD 1 0), .ref (Q4.getD 2 0)])), ((Q4.getD 0 0), .inl (cI, 16, .inl nI0)), ((Q4.getD 1 0), .inl (cI, 16, .inl nI0)), ((Q4.getD 2 0), .inl (cI, 400, .inl nI0))] 6 1239
  refine N_this C dX8_init_33 ?_
  refine N_iconst C (v := 0) (by decide) dX8_init_34 ?_
  refine N_putI C (T := TX8) (N := 6) (ci := 7) (k := 3) (q0 := 0) tyX8 tyX8_ok nmX8 in_X8 rfl rfl (by decide) wg_X8_25 rfl (tyX8_ok 3 (by decide)) rfl rfl (Nat.le_of_ble_eq_true rfl) dX8_init_35 ?_
  show NG X h0 38 [] [(h0, .inr (7, [.ref q1, .ref q2, .ref q3, .int 0, .int 0, .int 0])), (q1, .inl (cI, 401, .inl nI0)), (q2, .inl (cI, 401, .inl nI0)), (q3, .inr (4, [.int 0, .int 0, .ref (Q4.getD 0 0), .ref (Q4.getD 1 0), .ref (Q4.getD 2 0)])), ((Q4.getD 0 0), .inl (cI, 16, .inl nI0)), ((Q4.getD 1 0), .inl (cI, 16, .inl nI0)), ((Q4.getD 2 0), .inl (cI, 400, .inl nI0))] 6 1239
  refine N_this C dX8_init_38 ?_
  refine N_iconst C (v := 0) (by decide) dX8_init_39 ?_
  refine N_putI C (T := TX8) (N := 6) (ci := 7) (k := 4) (q0 := 0) tyX8 tyX8_ok nmX8 in_X8 rfl rfl (by decide) wg_X8_29 rfl (tyX8_ok 4 (by decide)) rfl rfl (Nat.le_of_ble_eq_true rfl) dX8_init_40 ?_
  show NG X h0 43 [] [(h0, .inr (7, [.ref q1, .ref q2, .ref q3, .int 0, .int 0, .int 0])), (q1, .inl (cI, 401, .inl nI0)), (q2, .inl (cI, 401, .inl nI0)), (q3, .inr (4, [.int 0, .int 0, .ref (Q4.getD 0 0), .ref (Q4.getD 1 0), .ref (Q4.getD 2 0)])), ((Q4.getD 0 0), .inl (cI, 16, .inl nI0)), ((Q4.getD 1 0), .inl (cI, 16, .inl nI0)), ((Q4.getD 2 0), .inl (cI, 400, .inl nI0))] 6 1239
  refine N_this C dX8_init_43 ?_
  refine N_iconst C (v := (-1)) (by decide) dX8_init_44 ?_
  refine N_putI C (T := TX8) (N := 6) (ci := 7) (k := 5) (q0 := 0) tyX8 tyX8_ok nmX8 in_X8 rfl rfl (by decide) wg_X8_32 rfl (tyX8_ok 5 (by decide)) rfl rfl (Nat.le_of_ble_eq_true rfl) dX8_init_45 ?_
  show NG X h0 48 [] [(h0, .inr (7, [.ref q1, .ref q2, .ref q3, .int 0, .int 0, .int (-1)])), (q1, .inl (cI, 401, .inl nI0)), (q2, .inl (cI, 401, .inl nI0)), (q3, .inr (4, [.int 0, .int 0, .ref (Q4.getD 0 0), .ref (Q4.getD 1 0), .ref (Q4.getD 2 0)])), ((Q4.getD 0 0), .inl (cI, 16, .inl nI0)), ((Q4.getD 1 0), .inl (cI, 16, .inl nI0)), ((Q4.getD 2 0), .inl (cI, 400, .inl nI0))] 6 1239
  exact r 48 6 1239 [q1, q2, q3, (Q4.getD 0 0), (Q4.getD 1 0), (Q4.getD 2 0)] dX8_init_48 (by decide) (by decide)
