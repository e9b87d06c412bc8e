/-! ENGINE 4: further rows -/
section ROWS4
variable {ly : List Sh} {X : Cx} {own : String} {cc : ByteArray} {n d pc : Nat} {L L' : List (Option Vl)} {K K' : List Vl} {s : Sto}
theorem G_drop {i : Nat} (h : L.set i none = L') (k : G ly X pc L' K s) : G ly X pc L K s := by
  refine G_weak (fun j v hj => ?_) k
  rw [← h] at hj
  by_cases hi : i = j
  · subst hi
    by_cases hl : i < L.length
    · rw [List.getElem?_set_self hl] at hj; cases hj
    · rw [List.getElem?_eq_none (by simpa using hl)] at hj; cases hj
  · rw [List.getElem?_set_ne hi] at hj
    exact hj
theorem G_tabl (C : Ok ly X own cc n d) {a dflt lo hi : Int} {offs : Array Int} {len : Nat} (hd : decode cc pc = .ok (.tableswitch dflt lo hi offs, len)) (h : rg a) (hn : 0 ≤ (pc : Int) + dflt) (hs : ((hi - lo + 1).toNat = offs.size) ∧ offs.toList.all (fun off => decide (0 ≤ (pc : Int) + off)) = true) (ko : (a < lo ∨ hi < a) → G ly X ((pc : Int) + dflt).toNat L K s) (ki : ∀ j : Nat, j < offs.size → a = lo + j → G ly X ((pc : Int) + offs.getD j 0).toNat L K s) : G ly X pc L (.inl a :: K) s := by
  refine G_tab C hd h (fun tgt q e => ?_) (fun off tgt h1 h2 h3 e => ?_) hn ⟨by omega, hs.2⟩
  · have := ko q
    rw [show ((pc : Int) + dflt).toNat = tgt by omega] at this
    exact this
  · have hlt := (Array.getElem?_eq_some_iff.mp h3).1
    have := ki (a - lo).toNat hlt (by omega)
    have e2 : offs.getD (a - lo).toNat 0 = off := by
      rw [Array.getD_eq_getD_getElem?, h3]; rfl
    rw [e2, show ((pc : Int) + off).toNat = tgt by omega] at this
    exact this
theorem G_look (C : Ok ly X own cc n d) {a dflt : Int} {ps : Array (Int × Int)} {len : Nat} (hd : decode cc pc = .ok (.lookupswitch dflt ps, len)) (hp : (ps.toList.zip (ps.toList.drop 1)).all (fun (a, next) => a.1 < next.1) = true) (h : rg a) (hs : decide (0 ≤ (pc : Int) + dflt) = true ∧ ps.toList.all (fun q => decide (0 ≤ (pc : Int) + q.2)) = true) (kk : ∀ (off : Int) (tgt : Nat), Op.lookupswitch.offset ps.toList dflt a = off → (pc : Int) + off = (tgt : Int) → G ly X tgt L K s) : G ly X pc L (.inl a :: K) s := by
  obtain ⟨p, l, e, R, s0, m, args0, below, meth, cd, Q0, cells, slots, nL, A, D, ad, cI, cZ⟩ := X
  intro H locs ls hP hS hl
  have hc : (Int32.ofInt a).toInt = a := oI_toInt h
  have hpos : 0 ≤ (pc : Int) + Op.lookupswitch.offset ps.toList dflt a := by
    have h1 : ∀ l : List (Int × Int), l.all (fun q => decide (0 ≤ (pc : Int) + q.2)) = true → 0 ≤ (pc : Int) + Op.lookupswitch.offset l dflt a := by
      intro l
      induction l with
      | nil => intro _; simpa [Op.lookupswitch.offset] using hs.1
      | cons q l ih =>
        intro hl
        simp only [List.all_cons, Bool.and_eq_true, decide_eq_true_eq] at hl
        have ih2 := ih (by simpa using hl.2)
        simp only [Op.lookupswitch.offset] at ih2 ⊢
        first
          | (split <;> first | exact hl.1 | exact ih2)
          | (simp only [List.find?_cons]; split <;> first | exact hl.1 | exact ih2)
    exact h1 _ hs.2
  exact lv_lookup (off := Op.lookupswitch.offset ps.toList dflt a) (tgt := ((pc : Int) + Op.lookupswitch.offset ps.toList dflt a).toNat) C.1 C.2.1 hd hp (by rw [hc]) (by omega) (kk _ _ rfl (by omega) H locs ls hP hS hl)
theorem G_getsF (C : Ok ly X "ByAlphabet$Land" cc n d) (hd : decode cc pc = .ok (.getstatic 85, 3)) (kk : G ly X (pc + 3) L (.inr 502 :: K) s) : G ly X pc L K s := by
  obtain ⟨p, l, e, R, s0, m, args0, below, meth, cd, Q0, cells, slots, nL, A, D, ad, cI, cZ⟩ := X
  intro H locs ls hP hS hl
  exact va_getsN C.1 C.2.1 C.2.2.2.2.2.2.2.2.2.2.2.2.1.1 hS C.2.2.2.1 (va_Nw.use rfl C.2.2.2.2.2.2.2.2.2.2.2.2.2.1) (fun _ h => h) hd (kk H locs ls hP hS hl)
theorem G_ldcS503 (C : Ok ly X "ByAlphabet$Reader" cc n d) (hd : decode cc pc = .ok (.ldc 84, 2)) (kk : G ly X (pc + 2) L (.inr 503 :: K) s) : G ly X pc L K s := by
  obtain ⟨p, l, e, R, s0, m, args0, below, meth, cd, Q0, cells, slots, nL, A, D, ad, cI, cZ⟩ := X
  intro H locs ls hP hS hl
  exact va_ldcS C.1 C.2.1 C.2.2.2.1 C.2.2.2.2.2.2.2.2.2.2.2.2.2.2.1 hd (kk H locs ls hP hS hl)
theorem G_ldcS504 (C : Ok ly X "ByAlphabet$Reader" cc n d) (hd : decode cc pc = .ok (.ldc 92, 2)) (kk : G ly X (pc + 2) L (.inr 504 :: K) s) : G ly X pc L K s := by
  obtain ⟨p, l, e, R, s0, m, args0, below, meth, cd, Q0, cells, slots, nL, A, D, ad, cI, cZ⟩ := X
  intro H locs ls hP hS hl
  exact va_ldcS C.1 C.2.1 C.2.2.2.1 C.2.2.2.2.2.2.2.2.2.2.2.2.2.2.2.1 hd (kk H locs ls hP hS hl)
/-- the first settings, copied over a row -/
def cpyF (s : Sto) (dst : Nat) : Sto := fun c i => if c = dst ∧ 0 ≤ i ∧ i < 7 then stA 502 i else s c i
theorem wE_cpyF {cI cZ : ClassId} {ad : Nat → Nat} {dst N : Nat} : wE cI cZ ad (cpyF s dst) dst (.inl (N, false)) = .inl (cI, N, .inl (va_cpy (fun j => Int32.ofInt (stA 502 j)) (fun j => Int32.ofInt (s dst j)) 0 0 7)) := by
  show Sum.inl (_, N, Sum.inl _) = Sum.inl (_, N, Sum.inl _)
  congr 4
  funext j
  by_cases h : 0 ≤ j ∧ j < 0 + 7
  · simp only [va_cpy, if_pos h]
    have e : cpyF s dst dst j = stA 502 j := by
      unfold cpyF
      exact if_pos ⟨rfl, by omega, by omega⟩
    rw [e]
    congr 2
    omega
  · simp only [va_cpy, if_neg h]
    have e : cpyF s dst dst j = s dst j := by
      unfold cpyF
      exact if_neg (fun q => h ⟨by omega, by omega⟩)
    rw [e]
end ROWS4
section CALLT
variable {ly : List Sh} {X : Cx} {own : String} {cc : ByteArray} {n d pc : Nat} {L : List (Option Vl)} {K K' : List Vl} {s : Sto}
theorem G_callTI (C : Ok ly X own cc n d) {M : Mt} {ix q : Nat} {args : List Vl} {P : Int → Sto → Prop} (hq : q = 503 ∨ q = 504) (hC : M.1.cls = "java/lang/String") (hK : K.length ≤ 8) (hM : mtOk M args.length) (hw : wcV own ix M) (hK' : K' = args.reverse ++ .inr q :: K) (hdg : decode cc pc = .ok (.invokevirtual ix, 3)) (hcall : CallI ly d M (.inr q :: args) s P) (kk : ∀ (a : Int) (s2 : Sto), P a s2 → G ly X (pc + 3) L (.inl a :: K) s2) : G ly X pc L K' s := by
  obtain ⟨p, l, e, R, s0, m, args0, below, meth, cd, Q0, cells, slots, nL, A, D, ad, cI, cZ⟩ := X
  intro H locs ls hP hS hl
  obtain ⟨d', Q, hd', hcl, hQP⟩ := hcall
  have hF : ∀ q, A1 ly ad H.size q → A q := by
    intro q h
    rcases h with ⟨k, hk, rfl⟩ | h
    · exact C.2.2.2.2.2.2.1.2 k hk
    · exact C.2.2.2.2.2.2.2.1 q (Nat.le_trans hS.1 h)
  have hrm : (rmd d').frames + 1 ≤ R.frames ∧ 8 + (M.2.2.1 + 11) + (rmd d').locals ≤ R.locals := by
    have h1 := C.2.2.2.2.2.2.2.2.2.1
    have h2 := hM.1
    show d' + 1 ≤ R.frames ∧ 8 + (M.2.2.1 + 11) + 60 * d' ≤ R.locals
    omega
  have hbl : ∀ args : List Vl, FrameBlind (va_Pc (args.map (cV ad)) (Pre ly D cI cZ ad H.size s)) := fun args a U g mk q => by
    obtain ⟨q0, q1, qP, qK, qD, qS⟩ := q
    exact ⟨q0, q1, qP, va_K.moved (u := U) (U := U.calling g mk a) (Vm.Alike.refl U.vm) qK, qD, qS.same rfl⟩
  have hpre : ∀ U : State, U.heap = H → s0.WarmedH U.vm → Pre ly D cI cZ ad H.size s U := fun U hU hW => ⟨by rw [hU], by rw [hU]; exact hP, va_K.moved hW.alike C.2.2.2.2.2.1, ⟨C.2.2.2.2.2.2.1.1, fun _ _ => trivial⟩, by rw [hU]; exact C.2.2.2.2.2.2.2.2.2.2.warm hW hS.2.1 hF⟩
  have hrec : ∃ cellB : Cell, H[ad q]? = some cellB ∧ cellB.vm.isStatics = false ∧ s0.vm.findClass M.1.cls = some cellB.cls := by
    have hk := C.2.2.2.2.2.2.2.2.2.2.2.2.2.2.2.2.1
    rw [hC]
    rcases hq with rfl | rfl
    · exact vk_recv (i := 0) hk (by decide) hS
    · exact vk_recv (i := 1) hk (by decide) hS
  have hsum : 2 * (F0 m pc ls (K'.map (cV ad))).monitorRoom + ((K.map (cV ad)).map fun v => v.category).sum ≤ 8 := lv_room (by rw [K_cat]; exact hK)
  refine va_calli (A0 := A) (H0 := s0.heap) (rest := K.map (cV ad)) (va_runV (As := args.map (cV ad)) (b := ad q) (Ts := tb) (nL := nL) (C := M.1.cls) (n := args.length) ⟨C.1, C.2.1, C.2.2.1.1, C.2.2.2.1, C.2.2.2.2.1⟩ (hcl l D cI cZ ad H.size) (cwV args.length C.2.2.2.2.1 (good_sub (fun w h => ?_)) rfl rfl rfl ⟨rfl, hM.2⟩ hrm) ⟨hbl (.inr q :: args), hrec, fun U hU hW => ⟨rfl, hpre U hU hW⟩⟩ rfl (by simp) hl.1 (by rw [hK']; simp [cV]) hsum hdg C.2.2.2.2.2.2.2.2.1) hS (fun q _ h => hF q h) hF (fun r u t H1 locs1 ht hvm hw hB hz1 hk1 hS1 => ?_)
  · rcases List.mem_append.mp h with h | h
    · simp only [List.mem_cons, List.not_mem_nil, or_false] at h
      rcases h with rfl | rfl | rfl | rfl
      · exact hw.1
      · exact hw.2.1
      · exact hw.2.2.1
      · exact hw.2.2.2.1
    · rcases List.mem_cons.mp h with rfl | h
      · exact hw.2.2.2.2
      · exact h
  obtain ⟨a, rfl, hq⟩ := hw
  have hP1 : va_P D vwCl (wld ly cI cZ ad u) t.heap := hB
  rw [ht] at hP1
  exact kk a u (hQP a u hq) H1 locs1 ls hP1 hS1 hl
end CALLT
def LY : List Sh := [.inr (10, [some 1, some 3, some 21, none, some 39, some 46, some 52, some 56, some 59, some 69]), .inr (8, [some 2, none]), .inl (400, false), .inr (2, [none, none, none, none, some 4, some 5, some 10, some 11, some 12, none, some 13, none, some 14, some 15, some 16, some 17]), .inl (7, false), .inr (5, [none, some 6, some 7, some 8, some 9]), .inl (20, false), .inl (20, false), .inl (20, false), .inl (20, false), .inl (24, false), .inl (6, false), .inl (6, false), .inl (10, false), .inl (12, false), .inl (12, false), .inl (12, false), .inr (4, [none, none, some 18, some 19, some 20]), .inl (16, false), .inl (16, false), .inl (400, false), .inr (2, [none, none, none, none, some 22, some 23, some 28, some 29, some 30, none, some 31, none, some 32, some 33, some 34, some 35]), .inl (7, false), .inr (5, [none, some 24, some 25, some 26, some 27]), .inl (20, false), .inl (20, false), .inl (20, false), .inl (20, false), .inl (24, false), .inl (6, false), .inl (6, false), .inl (10, false), .inl (12, false), .inl (12, false), .inl (12, false), .inr (4, [none, none, some 36, some 37, some 38]), .inl (16, false), .inl (16, false), .inl (400, false), .inr (7, [some 40, some 41, some 42, none, none, none]), .inl (401, false), .inl (401, false), .inr (4, [none, none, some 43, some 44, some 45]), .inl (16, false), .inl (16, false), .inl (400, false), .inr (6, [some 47, some 48, some 49, some 50, some 51]), .inl (26, false), .inl (20, false), .inl (20, false), .inl (20, false), .inl (20, false), .inr (1, [some 53, some 54, some 55]), .inl (10, false), .inl (32, false), .inl (7, false), .inr (9, [some 57, some 58, none, none, none]), .inl (20, false), .inl (800, false), .inr (0, [some 60, some 61, some 62, some 63, some 64, some 65, some 66, some 67, some 68, none, none]), .inl (64, false), .inl (64, true), .inl (256, false), .inl (256, false), .inl (256, false), .inl (256, false), .inl (256, false), .inl (96, false), .inl (64, false), .inr (3, [some 70, some 71, some 72, some 73, some 74, none, none]), .inl (20, false), .inl (20, false), .inl (8, false), .inl (20, false), .inl (20, false), .inr (11, [none, none, some 76, some 77, none, some 78, some 79, some 80, none, none, some 81, some 82, some 83, some 84, some 85, some 86, some 87, some 88, none, some 89, some 90, none, none, some 91, none, none, none, none, none, some 92, none, some 93, some 94, some 95, some 96, some 97, none, none, some 98, none, none, none, none, none, some 99, some 100, some 101, some 102, some 103, some 104, some 105, some 106, some 107, none, none, none, some 108, some 109, none, none, some 110, some 111, some 112, some 113, some 114, some 115, some 116, some 117, none, none, none, some 118]), .inl (51, false), .inl (306, false), .inl (20, false), .inl (20, false), .inl (20, false), .inl (168, false), .inl (7, false), .inl (6, false), .inl (6, false), .inl (6, false), .inl (6, false), .inl (6, false), .inl (6, false), .inl (12, false), .inl (12, false), .inl (400, false), .inl (81, false), .inl (32, false), .inl (32, false), .inl (32, false), .inl (800, false), .inl (800, false), .inl (40, false), .inl (10, false), .inl (420, false), .inl (8, false), .inl (20, false), .inl (20, false), .inl (7, false), .inl (7, false), .inl (6, false), .inl (820, false), .inl (20, false), .inl (20, false), .inl (64, false), .inl (8, false), .inl (256, false), .inl (8, false), .inl (20, false), .inl (20, false), .inl (20, false), .inl (20, false), .inl (1700, false)]
theorem ly_0 : LY[0]? = some (.inr (10, [some 1, some 3, some 21, none, some 39, some 46, some 52, some 56, some 59, some 69])) := rfl
theorem ly_1 : LY[1]? = some (.inr (8, [some 2, none])) := rfl
theorem ly_2 : LY[2]? = some (.inl (400, false)) := rfl
theorem ly_3 : LY[3]? = some (.inr (2, [none, none, none, none, some 4, some 5, some 10, some 11, some 12, none, some 13, none, some 14, some 15, some 16, some 17])) := rfl
theorem ly_4 : LY[4]? = some (.inl (7, false)) := rfl
theorem ly_5 : LY[5]? = some (.inr (5, [none, some 6, some 7, some 8, some 9])) := rfl
theorem ly_6 : LY[6]? = some (.inl (20, false)) := rfl
theorem ly_7 : LY[7]? = some (.inl (20, false)) := rfl
theorem ly_8 : LY[8]? = some (.inl (20, false)) := rfl
theorem ly_9 : LY[9]? = some (.inl (20, false)) := rfl
theorem ly_10 : LY[10]? = some (.inl (24, false)) := rfl
theorem ly_11 : LY[11]? = some (.inl (6, false)) := rfl
theorem ly_12 : LY[12]? = some (.inl (6, false)) := rfl
theorem ly_13 : LY[13]? = some (.inl (10, false)) := rfl
theorem ly_14 : LY[14]? = some (.inl (12, false)) := rfl
theorem ly_15 : LY[15]? = some (.inl (12, false)) := rfl
theorem ly_16 : LY[16]? = some (.inl (12, false)) := rfl
theorem ly_17 : LY[17]? = some (.inr (4, [none, none, some 18, some 19, some 20])) := rfl
theorem ly_18 : LY[18]? = some (.inl (16, false)) := rfl
theorem ly_19 : LY[19]? = some (.inl (16, false)) := rfl
theorem ly_20 : LY[20]? = some (.inl (400, false)) := rfl
theorem ly_21 : LY[21]? = some (.inr (2, [none, none, none, none, some 22, some 23, some 28, some 29, some 30, none, some 31, none, some 32, some 33, some 34, some 35])) := rfl
theorem ly_22 : LY[22]? = some (.inl (7, false)) := rfl
theorem ly_23 : LY[23]? = some (.inr (5, [none, some 24, some 25, some 26, some 27])) := rfl
theorem ly_24 : LY[24]? = some (.inl (20, false)) := rfl
theorem ly_25 : LY[25]? = some (.inl (20, false)) := rfl
theorem ly_26 : LY[26]? = some (.inl (20, false)) := rfl
theorem ly_27 : LY[27]? = some (.inl (20, false)) := rfl
theorem ly_28 : LY[28]? = some (.inl (24, false)) := rfl
theorem ly_29 : LY[29]? = some (.inl (6, false)) := rfl
theorem ly_30 : LY[30]? = some (.inl (6, false)) := rfl
theorem ly_31 : LY[31]? = some (.inl (10, false)) := rfl
theorem ly_32 : LY[32]? = some (.inl (12, false)) := rfl
theorem ly_33 : LY[33]? = some (.inl (12, false)) := rfl
theorem ly_34 : LY[34]? = some (.inl (12, false)) := rfl
theorem ly_35 : LY[35]? = some (.inr (4, [none, none, some 36, some 37, some 38])) := rfl
theorem ly_36 : LY[36]? = some (.inl (16, false)) := rfl
theorem ly_37 : LY[37]? = some (.inl (16, false)) := rfl
theorem ly_38 : LY[38]? = some (.inl (400, false)) := rfl
theorem ly_39 : LY[39]? = some (.inr (7, [some 40, some 41, some 42, none, none, none])) := rfl
theorem ly_40 : LY[40]? = some (.inl (401, false)) := rfl
theorem ly_41 : LY[41]? = some (.inl (401, false)) := rfl
theorem ly_42 : LY[42]? = some (.inr (4, [none, none, some 43, some 44, some 45])) := rfl
theorem ly_43 : LY[43]? = some (.inl (16, false)) := rfl
theorem ly_44 : LY[44]? = some (.inl (16, false)) := rfl
theorem ly_45 : LY[45]? = some (.inl (400, false)) := rfl
theorem ly_46 : LY[46]? = some (.inr (6, [some 47, some 48, some 49, some 50, some 51])) := rfl
theorem ly_47 : LY[47]? = some (.inl (26, false)) := rfl
theorem ly_48 : LY[48]? = some (.inl (20, false)) := rfl
theorem ly_49 : LY[49]? = some (.inl (20, false)) := rfl
theorem ly_50 : LY[50]? = some (.inl (20, false)) := rfl
theorem ly_51 : LY[51]? = some (.inl (20, false)) := rfl
theorem ly_52 : LY[52]? = some (.inr (1, [some 53, some 54, some 55])) := rfl
theorem ly_53 : LY[53]? = some (.inl (10, false)) := rfl
theorem ly_54 : LY[54]? = some (.inl (32, false)) := rfl
theorem ly_55 : LY[55]? = some (.inl (7, false)) := rfl
theorem ly_56 : LY[56]? = some (.inr (9, [some 57, some 58, none, none, none])) := rfl
theorem ly_57 : LY[57]? = some (.inl (20, false)) := rfl
theorem ly_58 : LY[58]? = some (.inl (800, false)) := rfl
theorem ly_59 : LY[59]? = some (.inr (0, [some 60, some 61, some 62, some 63, some 64, some 65, some 66, some 67, some 68, none, none])) := rfl
theorem ly_60 : LY[60]? = some (.inl (64, false)) := rfl
theorem ly_61 : LY[61]? = some (.inl (64, true)) := rfl
theorem ly_62 : LY[62]? = some (.inl (256, false)) := rfl
theorem ly_63 : LY[63]? = some (.inl (256, false)) := rfl
theorem ly_64 : LY[64]? = some (.inl (256, false)) := rfl
theorem ly_65 : LY[65]? = some (.inl (256, false)) := rfl
theorem ly_66 : LY[66]? = some (.inl (256, false)) := rfl
theorem ly_67 : LY[67]? = some (.inl (96, false)) := rfl
theorem ly_68 : LY[68]? = some (.inl (64, false)) := rfl
theorem ly_69 : LY[69]? = some (.inr (3, [some 70, some 71, some 72, some 73, some 74, none, none])) := rfl
theorem ly_70 : LY[70]? = some (.inl (20, false)) := rfl
theorem ly_71 : LY[71]? = some (.inl (20, false)) := rfl
theorem ly_72 : LY[72]? = some (.inl (8, false)) := rfl
theorem ly_73 : LY[73]? = some (.inl (20, false)) := rfl
theorem ly_74 : LY[74]? = some (.inl (20, false)) := rfl
theorem ly_75 : LY[75]? = some (.inr (11, [none, none, some 76, some 77, none, some 78, some 79, some 80, none, none, some 81, some 82, some 83, some 84, some 85, some 86, some 87, some 88, none, some 89, some 90, none, none, some 91, none, none, none, none, none, some 92, none, some 93, some 94, some 95, some 96, some 97, none, none, some 98, none, none, none, none, none, some 99, some 100, some 101, some 102, some 103, some 104, some 105, some 106, some 107, none, none, none, some 108, some 109, none, none, some 110, some 111, some 112, some 113, some 114, some 115, some 116, some 117, none, none, none, some 118])) := rfl
theorem ly_76 : LY[76]? = some (.inl (51, false)) := rfl
theorem ly_77 : LY[77]? = some (.inl (306, false)) := rfl
theorem ly_78 : LY[78]? = some (.inl (20, false)) := rfl
theorem ly_79 : LY[79]? = some (.inl (20, false)) := rfl
theorem ly_80 : LY[80]? = some (.inl (20, false)) := rfl
theorem ly_81 : LY[81]? = some (.inl (168, false)) := rfl
theorem ly_82 : LY[82]? = some (.inl (7, false)) := rfl
theorem ly_83 : LY[83]? = some (.inl (6, false)) := rfl
theorem ly_84 : LY[84]? = some (.inl (6, false)) := rfl
theorem ly_85 : LY[85]? = some (.inl (6, false)) := rfl
theorem ly_86 : LY[86]? = some (.inl (6, false)) := rfl
theorem ly_87 : LY[87]? = some (.inl (6, false)) := rfl
theorem ly_88 : LY[88]? = some (.inl (6, false)) := rfl
theorem ly_89 : LY[89]? = some (.inl (12, false)) := rfl
theorem ly_90 : LY[90]? = some (.inl (12, false)) := rfl
theorem ly_91 : LY[91]? = some (.inl (400, false)) := rfl
theorem ly_92 : LY[92]? = some (.inl (81, false)) := rfl
theorem ly_93 : LY[93]? = some (.inl (32, false)) := rfl
theorem ly_94 : LY[94]? = some (.inl (32, false)) := rfl
theorem ly_95 : LY[95]? = some (.inl (32, false)) := rfl
theorem ly_96 : LY[96]? = some (.inl (800, false)) := rfl
theorem ly_97 : LY[97]? = some (.inl (800, false)) := rfl
theorem ly_98 : LY[98]? = some (.inl (40, false)) := rfl
theorem ly_99 : LY[99]? = some (.inl (10, false)) := rfl
theorem ly_100 : LY[100]? = some (.inl (420, false)) := rfl
theorem ly_101 : LY[101]? = some (.inl (8, false)) := rfl
theorem ly_102 : LY[102]? = some (.inl (20, false)) := rfl
theorem ly_103 : LY[103]? = some (.inl (20, false)) := rfl
theorem ly_104 : LY[104]? = some (.inl (7, false)) := rfl
theorem ly_105 : LY[105]? = some (.inl (7, false)) := rfl
theorem ly_106 : LY[106]? = some (.inl (6, false)) := rfl
theorem ly_107 : LY[107]? = some (.inl (820, false)) := rfl
theorem ly_108 : LY[108]? = some (.inl (20, false)) := rfl
theorem ly_109 : LY[109]? = some (.inl (20, false)) := rfl
theorem ly_110 : LY[110]? = some (.inl (64, false)) := rfl
theorem ly_111 : LY[111]? = some (.inl (8, false)) := rfl
theorem ly_112 : LY[112]? = some (.inl (256, false)) := rfl
theorem ly_113 : LY[113]? = some (.inl (8, false)) := rfl
theorem ly_114 : LY[114]? = some (.inl (20, false)) := rfl
theorem ly_115 : LY[115]? = some (.inl (20, false)) := rfl
theorem ly_116 : LY[116]? = some (.inl (20, false)) := rfl
theorem ly_117 : LY[117]? = some (.inl (20, false)) := rfl
theorem ly_118 : LY[118]? = some (.inl (1700, false)) := rfl
