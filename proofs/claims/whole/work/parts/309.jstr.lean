/-! TEXTS of the class: contracts -/
/-- a method that returns a byte or a char: what it returns fits -/
theorem ClI.introN {ly : List Sh} {d : Nat} {M : Mt} {args : List Vl} {s : Sto} {Q : Int → Sto → Prop} (ty : FieldType) (F : Int → Prop) (hF : ∀ a : Int, F a → narrow ty (.int (Int32.ofInt a)) = .int (Int32.ofInt a)) (hcat : ty ≠ .long ∧ ty ≠ .double) (hy : plainName M.1.cls = true) (hret : M.2.2.2 = (some ty)) (hlen : args.length ≤ M.2.2.1) (body : ∀ X : Cx, Ok ly X M.1.cls M.2.1 M.2.2.1 d → (∀ (pc : Nat) (L : List (Option Vl)) (a : Int) (s : Sto), decode M.2.1 pc = .ok (.ireturn, 1) → F a → Q a s → G ly X pc L [.inl a] s) → G ly X 0 (args.map some ++ List.replicate (M.2.2.1 - args.length) none) [] s) : ClI ly d M args s Q := by
  intro l D cI cZ ad sz
  refine Met.ofW (cc := M.2.1) (maxL := M.2.2.1) (ret := M.2.2.2) hy rfl ?_
  intro p e s0 m args0 below meth c s₁ B hml hv
  obtain ⟨rfl, hsz, hP, hK, had, hSt⟩ := hv
  have hx := B.exec
  have hb := B.bytes
  have hr := B.returns
  have hlocks := B.notSynchronized
  have hts := atoms_spec (ws := wM M) B.pre
  have hown : s0.vm.findClass M.1.cls = some m.cls := findClass_of_methodNamed B.named
  subst hsz
  rw [lg_entry_eq]
  refine body (p, l, e, (headSpec (wM M) (rmd d)).room, s0, m, (args.map (cV ad)).toArray, below, meth, c, _, 0, 0, M.2.2.1, A1 ly ad s0.heap.size, D, ad, cI, cZ) ⟨hx, hb, ⟨hml, rfl⟩, hown, fun w hw => hts w (List.mem_cons_of_mem _ hw), hK, ⟨had.1, fun i hi => Or.inl ⟨i, hi, rfl⟩⟩, fun q h => Or.inr h, ⟨Nat.le_refl _, Nat.le_refl _⟩, ⟨Nat.le_refl _, Nat.le_refl _⟩, hSt⟩ ?_ s0.heap [] _ hP va_S.rf (lh_none (lh_entry hlen))
  intro pc L a s' hd ha hq H locs ls hP hS hl
  exact W.zret (ty := ty) hx hb (hr.trans hret) (hF a ha) (fun t ht hW => ⟨⟨Int32.ofInt a, s', rfl, ⟨a, rfl, hq⟩, by show va_P _ _ _ t.heap; rw [ht]; exact hP⟩, hS.F ht⟩) hS.2.2 hd hlocks
theorem fit_byte {a : Int} (h : a = 0) : narrow .byte (.int (Int32.ofInt a)) = .int (Int32.ofInt a) := by
  rw [h]; rfl
theorem fit_all : ∀ a : Fin 256, narrow .char (.int (Int32.ofInt (a.val : Int))) = .int (Int32.ofInt (a.val : Int)) := by decide +kernel
theorem fit_char {a : Int} (h : 0 ≤ a ∧ a < 256) : narrow .char (.int (Int32.ofInt a)) = .int (Int32.ofInt a) := by
  have := fit_all ⟨a.toNat, by omega⟩
  simp only [Int.toNat_of_nonneg h.1] at this
  exact this
theorem t_J0_coder {q : Nat} {s : Sto} (hq : q = 503 ∨ q = 504) : ClI LY 0 MJ0_coder_7d493 [.inr q] s (fun r s' => s' = s ∧ r = 0) := by
  refine ClI.introN .byte (fun a => a = 0) (fun a h => fit_byte h) (by decide) (by decide) rfl (Nat.le_of_ble_eq_true rfl) (fun X C r => ?_)
  refine G_gsZ C dJ0_coder_7d493_0 ?_
  refine G_if_eq (tgt := 13) C dJ0_coder_7d493_3 (by decide) (by decide) (fun z => absurd z (by decide)) (fun _ => ?_)
  refine G_aload_n C dJ0_coder_7d493_6 rfl ?_
  refine G_gfC C hq dJ0_coder_7d493_7 ?_
  refine G_goto (tgt := 14) C dJ0_coder_7d493_10 (by decide) ?_
  exact r _ _ _ _ dJ0_coder_7d493_14 rfl ⟨rfl, rfl⟩
theorem t_J0_isLatin1 {q : Nat} {s : Sto} (hq : q = 503 ∨ q = 504) : ClI LY 0 MJ0_isLatin1_aae02 [.inr q] s (fun r s' => s' = s ∧ r = 1) := by
  refine ClI.introZ (by decide) rfl (Nat.le_of_ble_eq_true rfl) (fun X C r => ?_)
  refine G_gsZ C dJ0_isLatin1_aae02_0 ?_
  refine G_if_eq (tgt := 17) C dJ0_isLatin1_aae02_3 (by decide) (by decide) (fun z => absurd z (by decide)) (fun _ => ?_)
  refine G_aload_n C dJ0_isLatin1_aae02_6 rfl ?_
  refine G_gfC C hq dJ0_isLatin1_aae02_7 ?_
  refine G_if_ne (tgt := 17) C dJ0_isLatin1_aae02_10 (by decide) (by decide) (fun z => absurd rfl z) (fun _ => ?_)
  refine G_iconst C dJ0_isLatin1_aae02_13 ?_
  refine G_goto (tgt := 18) C dJ0_isLatin1_aae02_14 (by decide) ?_
  exact r _ _ _ _ dJ0_isLatin1_aae02_18 (Or.inr rfl) ⟨rfl, rfl⟩
theorem t_J0_length {q : Nat} {s : Sto} (hq : q = 503 ∨ q = 504) : ClI LY 1 MJ0_length_8abf5 [.inr q] s (fun r s' => s' = s ∧ r = nJ q) := by
  refine ClI.intro (by decide) rfl (Nat.le_of_ble_eq_true rfl) (fun X C r => ?_)
  refine G_aload_n C dJ0_length_8abf5_0 rfl ?_
  refine G_gfV C hq dJ0_length_8abf5_1 ?_
  refine G_tlen C hq dJ0_length_8abf5_4 ?_
  refine G_aload_n C dJ0_length_8abf5_5 rfl ?_
  refine G_callTI (K := [.inl (nJ q)]) (args := []) (q := q) C hq rfl (Nat.le_of_ble_eq_true rfl) mo_J0_coder_7d493 wc_J0_335 rfl dJ0_length_8abf5_6 ⟨0, _, by decide, t_J0_coder hq, fun _ _ h => h⟩ (fun r1 s1 h => ?_)
  rw [h.1, h.2]
  refine G_ishr C dJ0_length_8abf5_9 ?_
  have e : xshr (nJ q) 0 = nJ q := by rcases hq with rfl | rfl <;> decide
  rw [e]
  exact r _ _ _ _ dJ0_length_8abf5_10 ⟨rfl, rfl⟩
/-! the check of an index -/
theorem met_ck {i n : Int} {s : Sto} (h : 0 ≤ i ∧ i < n) (hn : rg n) (v : Value) (hv : v.category = 1) (l : Launch) (D : va_G) (cI cZ : ClassId) (ad : Nat → Nat) (sz : Nat) : Met l MJ3_checkIndex_8e157.1 (wM MJ3_checkIndex_8e157) (rmd 0) (va_Pc [.int (Int32.ofInt i), .int (Int32.ofInt n), v] (Pre LY D cI cZ ad sz s)) (va_Qi (fun (r : Int32) (u : Sto) => ∃ a : Int, r = Int32.ofInt a ∧ u = s) (Pst LY D cI cZ ad) (A1 LY ad sz)) 0 0 (A1 LY ad sz) := by
  refine Met.ofW (cc := MJ3_checkIndex_8e157.2.1) (maxL := MJ3_checkIndex_8e157.2.2.1) (ret := MJ3_checkIndex_8e157.2.2.2) (by decide) rfl ?_
  intro p e s0 m args0 below meth c s₁ B hml hv'
  obtain ⟨rfl, hsz, hP, hK, had, hSt⟩ := hv'
  have hx := B.exec
  have hb := B.bytes
  have hr := B.returns
  have hlocks := B.notSynchronized
  have hts := atoms_spec (ws := wM MJ3_checkIndex_8e157) B.pre
  have hown : s0.vm.findClass MJ3_checkIndex_8e157.1.cls = some m.cls := findClass_of_methodNamed B.named
  subst hsz
  rw [lg_entry_eq]
  have lhx : lh ad ((lg_sl [.int (Int32.ofInt i), .int (Int32.ofInt n), v] ++ List.replicate (3 - (lg_sl [.int (Int32.ofInt i), .int (Int32.ofInt n), v]).length) Slot.unset).toArray) 3 [iv i, iv n, none] := by
    have e0 : lg_sl [.int (Int32.ofInt i), .int (Int32.ofInt n), v] = [Slot.val (.int (Int32.ofInt i)), Slot.val (.int (Int32.ofInt n)), Slot.val v] := by
      have e1 : ∀ w : Value, w.category = 1 → ∀ l : List Value, lg_sl (w :: l) = Slot.val w :: lg_sl l := fun w hw l => by
        show (if w.category = 2 then _ else _) ++ lg_sl l = _
        rw [if_neg (by rw [hw]; decide)]
        rfl
      rw [e1 _ rfl, e1 _ rfl, e1 _ hv]
      rfl
    have h1 := lv_entry [.int (Int32.ofInt i), .int (Int32.ofInt n), v] (n := 3) (by rw [e0]; exact Nat.le_refl 3)
    refine ⟨h1.1, h1.2.1, fun j w hj => ?_⟩
    rw [e0]
    match j, hj with
    | 0, hj => cases hj; rfl
    | 1, hj => cases hj; rfl
    | 2, hj => cases hj
    | j + 3, hj => cases hj
  have body : ∀ X : Cx, Ok LY X MJ3_checkIndex_8e157.1.cls MJ3_checkIndex_8e157.2.1 3 0 → RetI LY X MJ3_checkIndex_8e157.2.1 (fun _ u => u = s) → G LY X 0 [iv i, iv n, none] [] s := fun X C r => by
    refine G_iload_n C dJ3_checkIndex_8e157_0 rfl ?_
    refine G_if_lt (tgt := 9) C dJ3_checkIndex_8e157_1 (by decide) ⟨by omega, by omega⟩ (fun z => absurd z (by omega)) (fun _ => ?_)
    refine G_iload_n C dJ3_checkIndex_8e157_4 rfl ?_
    refine G_iload_n C dJ3_checkIndex_8e157_5 rfl ?_
    refine G_icmp_lt (tgt := 16) C dJ3_checkIndex_8e157_6 (by decide) ⟨⟨by omega, by omega⟩, hn⟩ (fun _ => ?_) (fun z => absurd z (by omega))
    refine G_iload_n C dJ3_checkIndex_8e157_16 rfl ?_
    exact r _ _ _ _ dJ3_checkIndex_8e157_17 rfl
  refine body (p, l, e, (headSpec (wM MJ3_checkIndex_8e157) (rmd 0)).room, s0, m, ([.int (Int32.ofInt i), .int (Int32.ofInt n), v] : List Value).toArray, below, meth, c, _, 0, 0, 3, A1 LY ad s0.heap.size, D, ad, cI, cZ) ⟨hx, hb, ⟨hml, rfl⟩, hown, fun w hw => hts w (List.mem_cons_of_mem _ hw), hK, ⟨had.1, fun i hi => Or.inl ⟨i, hi, rfl⟩⟩, fun q h => Or.inr h, ⟨Nat.le_refl _, Nat.le_refl _⟩, ⟨Nat.le_refl _, Nat.le_refl _⟩, hSt⟩ ?_ s0.heap [] _ hP va_S.rf lhx
  intro pc L a s' hd hq H locs ls hP hS hl
  exact W.zret (ty := .int) hx hb hr rfl (fun t ht hW => ⟨⟨Int32.ofInt a, s', rfl, ⟨a, rfl, hq⟩, by show va_P _ _ _ t.heap; rw [ht]; exact hP⟩, hS.F ht⟩) hS.2.2 hd hlocks
section CK
variable {X : Cx} {cc : ByteArray} {n d pc : Nat} {L : List (Option Vl)} {s : Sto}
theorem G_ck (C : Ok LY X RJ0 cc n d) {i b : Int} (h : 0 ≤ i ∧ i < b) (hb : rg b) (hd1 : 1 ≤ d) (hd : decode cc pc = .ok (.getstatic 1053, 3)) (hdg : decode cc (pc + 3) = .ok (.invokestatic 1059, 3)) (kk : ∀ a : Int, G LY X (pc + 6) L [.inl a] s) : G LY X pc L [.inl b, .inl i] s := by
  obtain ⟨p, l, e, R, s0, m, args0, below, meth, cd, Q0, cells, slots, nL, A, D, ad, cI, cZ⟩ := X
  intro H locs ls hP hS hl
  have hzq := C.2.2.2.2.2.2.2.2.2.2.2.2.2.2.2.2.2.2
  have main : ∀ v : Value, v.category = 1 → va_Z "jdk/internal/util/Preconditions" "SIOOBE_FORMATTER" "Ljava/util/function/BiFunction;" v A s0 s0.heap → W p l e R s0 m args0 below meth cd H locs cells slots Q0 (F0 m pc ls (([.inl b, .inl i] : List Vl).map (cV ad))) := fun v hv hz => by
    refine va_gets C.1 C.2.1 hz hS C.2.2.2.1 (C.2.2.2.2.1 _ wf_J0_1053) (fun _ h => h) hd ?_
    have hF : ∀ q, A1 LY ad H.size q → A q := by
      intro q h
      rcases h with ⟨k, hk, rfl⟩ | h
      · exact C.2.2.2.2.2.2.1.2 k hk
      · exact C.2.2.2.2.2.2.2.1 q (Nat.le_trans hS.1 h)
    have hrm : (rmd 0).frames + 1 ≤ R.frames ∧ 8 + (MJ3_checkIndex_8e157.2.2.1 + 11) + (rmd 0).locals ≤ R.locals := by
      have h1 := C.2.2.2.2.2.2.2.2.2.1
      show 0 + 1 ≤ R.frames ∧ 8 + (3 + 11) + 60 * 0 ≤ R.locals
      omega
    have hbl : FrameBlind (va_Pc [.int (Int32.ofInt i), .int (Int32.ofInt b), v] (Pre LY D cI cZ ad H.size s)) := fun a U g mk q => by
      obtain ⟨q0, q1, qP, qK, qD, qS⟩ := q
      exact ⟨q0, q1, qP, va_K.moved (u := U) (U := U.calling g mk a) (Vm.Alike.refl U.vm) qK, qD, qS.same rfl⟩
    have hpre : ∀ U : State, U.heap = H → s0.WarmedH U.vm → Pre LY D cI cZ ad H.size s U := fun U hU hW => ⟨by rw [hU], by rw [hU]; exact hP, va_K.moved hW.alike C.2.2.2.2.2.1, ⟨C.2.2.2.2.2.2.1.1, fun _ _ => trivial⟩, by rw [hU]; exact C.2.2.2.2.2.2.2.2.2.2.warm hW hS.2.1 hF⟩
    have hsum : 2 * (F0 m (pc + 3) ls (v :: ([.inl b, .inl i] : List Vl).map (cV ad))).monitorRoom + ((([] : List Value)).map fun v => v.category).sum ≤ 8 := lv_room (by decide)
    refine va_calli (A0 := A) (H0 := s0.heap) (rest := []) (va_runS (As := [.int (Int32.ofInt i), .int (Int32.ofInt b), v]) (Ts := tb) (nL := nL) (n := 3) ⟨C.1, C.2.1, C.2.2.1.1, C.2.2.2.1, C.2.2.2.2.1⟩ (met_ck (s := s) h hb v hv l D cI cZ ad H.size) (va_cwS 3 C.2.2.2.2.1 (good_sub (fun w h => ?_)) rfl rfl rfl mo_J3_checkIndex_8e157.2 hrm) ⟨hbl, fun U hU hW => ⟨rfl, hpre U hU hW⟩⟩ rfl rfl hl.1 rfl hsum hdg C.2.2.2.2.2.2.2.2.1) hS (fun q _ h => hF q h) hF (fun r u t H1 locs1 ht hvm hw hB hz1 hk1 hS1 => ?_)
    · have hw := wc_J0_1059
      rcases List.mem_append.mp h with h | h
      · simp only [List.mem_cons, List.not_mem_nil, or_false] at h
        rcases h with rfl | rfl | rfl
        · exact hw.1
        · exact hw.2.1
        · exact hw.2.2.1
      · rcases List.mem_cons.mp h with rfl | h
        · exact hw.2.2.2
        · exact h
    obtain ⟨a, rfl, hq⟩ := hw
    have hP1 : va_P D vwCl (wld LY cI cZ ad u) t.heap := hB
    rw [ht, hq] at hP1
    exact kk a H1 locs1 ls hP1 hS1 hl
  rcases hzq with hz | ⟨t, hz⟩
  · exact main .null rfl hz
  · exact main (.ref t) rfl hz
end CK
theorem t_J0_checkIndex {i b : Int} {s : Sto} (h : 0 ≤ i ∧ i < b) (hb : rg b) : ClV LY 1 MJ0_checkIndex_df160 [.inl i, .inl b] s (fun s' => s' = s) := by
  refine ClV.intro (by decide) rfl (Nat.le_of_ble_eq_true rfl) (fun X C r => ?_)
  refine G_iload_n C dJ0_checkIndex_df160_0 rfl ?_
  refine G_iload_n C dJ0_checkIndex_df160_1 rfl ?_
  refine G_ck C h hb (by decide) dJ0_checkIndex_df160_2 dJ0_checkIndex_df160_5 (fun a => ?_)
  refine G_pop C dJ0_checkIndex_df160_8 ?_
  exact r _ _ _ dJ0_checkIndex_df160_9 rfl
theorem bJ_bd {q : Nat} {i : Int} (hq : q = 503 ∨ q = 504) (hi : 0 ≤ i ∧ i < nJ q) : 0 ≤ bJ q i ∧ bJ q i < 128 ∧ xi2c (xand (bJ q i) 255) = bJ q i := by
  have a : ∀ k : Fin 10, 0 ≤ bJ 503 (k.val : Int) ∧ bJ 503 (k.val : Int) < 128 ∧ xi2c (xand (bJ 503 (k.val : Int)) 255) = bJ 503 (k.val : Int) := by decide +kernel
  have b : ∀ k : Fin 80, 0 ≤ bJ 504 (k.val : Int) ∧ bJ 504 (k.val : Int) < 128 ∧ xi2c (xand (bJ 504 (k.val : Int)) 255) = bJ 504 (k.val : Int) := by decide +kernel
  rcases hq with rfl | rfl
  · have hi' : 0 ≤ i ∧ i < 10 := hi
    have := a ⟨i.toNat, by omega⟩
    simp only [Int.toNat_of_nonneg hi'.1] at this
    exact this
  · have hi' : 0 ≤ i ∧ i < 80 := hi
    have := b ⟨i.toNat, by omega⟩
    simp only [Int.toNat_of_nonneg hi'.1] at this
    exact this
theorem nJ_bd {q : Nat} (hq : q = 503 ∨ q = 504) : rg (nJ q) ∧ 0 < nJ q := by rcases hq with rfl | rfl <;> decide
theorem t_J1_charAt {q : Nat} {i : Int} {s : Sto} (hq : q = 503 ∨ q = 504) (hi : 0 ≤ i ∧ i < nJ q) : ClI LY 2 MJ1_charAt_3b067 [.inr (q + 2), .inl i] s (fun r s' => s' = s ∧ r = bJ q i) := by
  have bb := bJ_bd hq hi
  refine ClI.introN .char (fun a => 0 ≤ a ∧ a < 256) (fun a h => fit_char h) (by decide) (by decide) rfl (Nat.le_of_ble_eq_true rfl) (fun X C r => ?_)
  refine G_iload_n C dJ1_charAt_3b067_0 rfl ?_
  refine G_aload_n C dJ1_charAt_3b067_1 rfl ?_
  refine G_tlen C hq dJ1_charAt_3b067_2 ?_
  refine G_callSV (K := []) (args := [.inl i, .inl (nJ q)]) C (Nat.le_of_ble_eq_true rfl) mo_J0_checkIndex_df160 wc_J1_9 rfl dJ1_charAt_3b067_3 ⟨1, _, by decide, t_J0_checkIndex hi (nJ_bd hq).1, fun _ h => h⟩ (fun s1 h => ?_)
  rw [h]
  refine G_aload_n C dJ1_charAt_3b067_6 rfl ?_
  refine G_iload_n C dJ1_charAt_3b067_7 rfl ?_
  refine G_tb C hq hi dJ1_charAt_3b067_8 ?_
  refine G_sipush C dJ1_charAt_3b067_9 (by decide) ?_
  refine G_iand C dJ1_charAt_3b067_12 ?_
  refine G_i2c C dJ1_charAt_3b067_13 ?_
  rw [bb.2.2]
  exact r _ _ _ _ dJ1_charAt_3b067_14 ⟨by omega, by omega⟩ ⟨rfl, rfl⟩
theorem t_J0_charAt {q : Nat} {i : Int} {s : Sto} (hq : q = 503 ∨ q = 504) (hi : 0 ≤ i ∧ i < nJ q) : ClI LY 3 MJ0_charAt_5068e [.inr q, .inl i] s (fun r s' => s' = s ∧ r = bJ q i) := by
  have bb := bJ_bd hq hi
  refine ClI.introN .char (fun a => 0 ≤ a ∧ a < 256) (fun a h => fit_char h) (by decide) (by decide) rfl (Nat.le_of_ble_eq_true rfl) (fun X C r => ?_)
  refine G_aload_n C dJ0_charAt_5068e_0 rfl ?_
  refine G_callTI (K := []) (args := []) (q := q) C hq rfl (Nat.le_of_ble_eq_true rfl) mo_J0_isLatin1_aae02 wc_J0_492 rfl dJ0_charAt_5068e_1 ⟨0, _, by decide, t_J0_isLatin1 hq, fun _ _ h => h⟩ (fun r1 s1 h => ?_)
  rw [h.1, h.2]
  refine G_if_eq (tgt := 16) C dJ0_charAt_5068e_4 (by decide) (by decide) (fun z => absurd z (by decide)) (fun _ => ?_)
  refine G_aload_n C dJ0_charAt_5068e_7 rfl ?_
  refine G_gfV C hq dJ0_charAt_5068e_8 ?_
  refine G_iload_n C dJ0_charAt_5068e_11 rfl ?_
  refine G_callSI (K := []) (args := [.inr (q + 2), .inl i]) C (Nat.le_of_ble_eq_true rfl) mo_J1_charAt_3b067 wc_J0_495 rfl dJ0_charAt_5068e_12 ⟨2, _, by decide, t_J1_charAt hq hi, fun _ _ h => h⟩ (fun r2 s2 h2 => ?_)
  rw [h2.1, h2.2]
  exact r _ _ _ _ dJ0_charAt_5068e_15 ⟨by omega, by omega⟩ ⟨rfl, rfl⟩
