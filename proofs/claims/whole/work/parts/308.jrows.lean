/-! TEXTS of the class: String.length, charAt, indexOf over its two constants -/
theorem ini_J1 : Cond.initialized RJ1 ∈ tb := List.mem_filter.mpr ⟨List.mem_of_getElem? (i := 128) (by decide +kernel), by decide +kernel⟩
theorem ini_J3 : Cond.initialized RJ3 ∈ tb := List.mem_filter.mpr ⟨List.mem_of_getElem? (i := 129) (by decide +kernel), by decide +kernel⟩
abbrev MJ0_coder_7d493 : Mt := (yJ0_coder_7d493, cJ0_coder_7d493, 1, (some .byte))
theorem mo_J0_coder_7d493 : mtOk MJ0_coder_7d493 0 := ⟨by decide, by decide +kernel, by decide +kernel, by decide +kernel⟩
theorem cd_J0_coder_7d493 : Cond.code yJ0_coder_7d493 cJ0_coder_7d493 1 (some .byte) ∈ tb := List.mem_filter.mpr ⟨List.mem_of_getElem? (i := 594) (by decide +kernel), by decide +kernel⟩
theorem im_J0_coder_7d493 : Cond.instanceMethod yJ0_coder_7d493 ∈ tb := List.mem_filter.mpr ⟨List.mem_of_getElem? (i := 592) (by decide +kernel), by decide +kernel⟩
theorem se_J0_coder_7d493 : Cond.selects RJ0 yJ0_coder_7d493 yJ0_coder_7d493 ∈ tb := List.mem_filter.mpr ⟨List.mem_of_getElem? (i := 593) (by decide +kernel), by decide +kernel⟩
abbrev MJ0_isLatin1_aae02 : Mt := (yJ0_isLatin1_aae02, cJ0_isLatin1_aae02, 1, (some .boolean))
theorem mo_J0_isLatin1_aae02 : mtOk MJ0_isLatin1_aae02 0 := ⟨by decide, by decide +kernel, by decide +kernel, by decide +kernel⟩
theorem cd_J0_isLatin1_aae02 : Cond.code yJ0_isLatin1_aae02 cJ0_isLatin1_aae02 1 (some .boolean) ∈ tb := List.mem_filter.mpr ⟨List.mem_of_getElem? (i := 604) (by decide +kernel), by decide +kernel⟩
theorem im_J0_isLatin1_aae02 : Cond.instanceMethod yJ0_isLatin1_aae02 ∈ tb := List.mem_filter.mpr ⟨List.mem_of_getElem? (i := 602) (by decide +kernel), by decide +kernel⟩
theorem se_J0_isLatin1_aae02 : Cond.selects RJ0 yJ0_isLatin1_aae02 yJ0_isLatin1_aae02 ∈ tb := List.mem_filter.mpr ⟨List.mem_of_getElem? (i := 603) (by decide +kernel), by decide +kernel⟩
abbrev MJ0_indexOf_7cf53 : Mt := (yJ0_indexOf_7cf53, cJ0_indexOf_7cf53, 3, (some .int))
theorem mo_J0_indexOf_7cf53 : mtOk MJ0_indexOf_7cf53 2 := ⟨by decide, by decide +kernel, by decide +kernel, by decide +kernel⟩
theorem cd_J0_indexOf_7cf53 : Cond.code yJ0_indexOf_7cf53 cJ0_indexOf_7cf53 3 (some .int) ∈ tb := List.mem_filter.mpr ⟨List.mem_of_getElem? (i := 649) (by decide +kernel), by decide +kernel⟩
theorem im_J0_indexOf_7cf53 : Cond.instanceMethod yJ0_indexOf_7cf53 ∈ tb := List.mem_filter.mpr ⟨List.mem_of_getElem? (i := 647) (by decide +kernel), by decide +kernel⟩
theorem se_J0_indexOf_7cf53 : Cond.selects RJ0 yJ0_indexOf_7cf53 yJ0_indexOf_7cf53 ∈ tb := List.mem_filter.mpr ⟨List.mem_of_getElem? (i := 648) (by decide +kernel), by decide +kernel⟩
abbrev MJ0_checkIndex_df160 : Mt := (yJ0_checkIndex_df160, cJ0_checkIndex_df160, 2, none)
theorem mo_J0_checkIndex_df160 : mtOk MJ0_checkIndex_df160 2 := ⟨by decide, by decide +kernel, by decide +kernel, by decide +kernel⟩
theorem cd_J0_checkIndex_df160 : Cond.code yJ0_checkIndex_df160 cJ0_checkIndex_df160 2 none ∈ tb := List.mem_filter.mpr ⟨List.mem_of_getElem? (i := 610) (by decide +kernel), by decide +kernel⟩
theorem sm_J0_checkIndex_df160 : Cond.static yJ0_checkIndex_df160 ∈ tb := List.mem_filter.mpr ⟨List.mem_of_getElem? (i := 609) (by decide +kernel), by decide +kernel⟩
abbrev MJ1_charAt_3b067 : Mt := (yJ1_charAt_3b067, cJ1_charAt_3b067, 2, (some .char))
theorem mo_J1_charAt_3b067 : mtOk MJ1_charAt_3b067 2 := ⟨by decide, by decide +kernel, by decide +kernel, by decide +kernel⟩
theorem cd_J1_charAt_3b067 : Cond.code yJ1_charAt_3b067 cJ1_charAt_3b067 2 (some .char) ∈ tb := List.mem_filter.mpr ⟨List.mem_of_getElem? (i := 607) (by decide +kernel), by decide +kernel⟩
theorem sm_J1_charAt_3b067 : Cond.static yJ1_charAt_3b067 ∈ tb := List.mem_filter.mpr ⟨List.mem_of_getElem? (i := 606) (by decide +kernel), by decide +kernel⟩
abbrev MJ1_canEncode_9a6ad : Mt := (yJ1_canEncode_9a6ad, cJ1_canEncode_9a6ad, 1, (some .boolean))
theorem mo_J1_canEncode_9a6ad : mtOk MJ1_canEncode_9a6ad 1 := ⟨by decide, by decide +kernel, by decide +kernel, by decide +kernel⟩
theorem cd_J1_canEncode_9a6ad : Cond.code yJ1_canEncode_9a6ad cJ1_canEncode_9a6ad 1 (some .boolean) ∈ tb := List.mem_filter.mpr ⟨List.mem_of_getElem? (i := 656) (by decide +kernel), by decide +kernel⟩
theorem sm_J1_canEncode_9a6ad : Cond.static yJ1_canEncode_9a6ad ∈ tb := List.mem_filter.mpr ⟨List.mem_of_getElem? (i := 655) (by decide +kernel), by decide +kernel⟩
abbrev MJ1_indexOf_4cfef : Mt := (yJ1_indexOf_4cfef, cJ1_indexOf_4cfef, 4, (some .int))
theorem mo_J1_indexOf_4cfef : mtOk MJ1_indexOf_4cfef 4 := ⟨by decide, by decide +kernel, by decide +kernel, by decide +kernel⟩
theorem cd_J1_indexOf_4cfef : Cond.code yJ1_indexOf_4cfef cJ1_indexOf_4cfef 4 (some .int) ∈ tb := List.mem_filter.mpr ⟨List.mem_of_getElem? (i := 653) (by decide +kernel), by decide +kernel⟩
theorem sm_J1_indexOf_4cfef : Cond.static yJ1_indexOf_4cfef ∈ tb := List.mem_filter.mpr ⟨List.mem_of_getElem? (i := 652) (by decide +kernel), by decide +kernel⟩
abbrev MJ1_indexOfChar_4cfef : Mt := (yJ1_indexOfChar_4cfef, cJ1_indexOfChar_4cfef, 6, (some .int))
theorem mo_J1_indexOfChar_4cfef : mtOk MJ1_indexOfChar_4cfef 4 := ⟨by decide, by decide +kernel, by decide +kernel, by decide +kernel⟩
theorem cd_J1_indexOfChar_4cfef : Cond.code yJ1_indexOfChar_4cfef cJ1_indexOfChar_4cfef 6 (some .int) ∈ tb := List.mem_filter.mpr ⟨List.mem_of_getElem? (i := 665) (by decide +kernel), by decide +kernel⟩
theorem sm_J1_indexOfChar_4cfef : Cond.static yJ1_indexOfChar_4cfef ∈ tb := List.mem_filter.mpr ⟨List.mem_of_getElem? (i := 664) (by decide +kernel), by decide +kernel⟩
abbrev MJ3_checkIndex_8e157 : Mt := (yJ3_checkIndex_8e157, cJ3_checkIndex_8e157, 3, (some .int))
theorem mo_J3_checkIndex_8e157 : mtOk MJ3_checkIndex_8e157 3 := ⟨by decide, by decide +kernel, by decide +kernel, by decide +kernel⟩
theorem cd_J3_checkIndex_8e157 : Cond.code yJ3_checkIndex_8e157 cJ3_checkIndex_8e157 3 (some .int) ∈ tb := List.mem_filter.mpr ⟨List.mem_of_getElem? (i := 615) (by decide +kernel), by decide +kernel⟩
theorem sm_J3_checkIndex_8e157 : Cond.static yJ3_checkIndex_8e157 ∈ tb := List.mem_filter.mpr ⟨List.mem_of_getElem? (i := 614) (by decide +kernel), by decide +kernel⟩
theorem wc_J0_335 : wcV RJ0 335 MJ0_coder_7d493 := ⟨List.mem_filter.mpr ⟨List.mem_of_getElem? (i := 591) (by decide +kernel), by decide +kernel⟩, im_J0_coder_7d493, se_J0_coder_7d493, ini_J0, cd_J0_coder_7d493⟩
theorem wc_J0_492 : wcV RJ0 492 MJ0_isLatin1_aae02 := ⟨List.mem_filter.mpr ⟨List.mem_of_getElem? (i := 601) (by decide +kernel), by decide +kernel⟩, im_J0_isLatin1_aae02, se_J0_isLatin1_aae02, ini_J0, cd_J0_isLatin1_aae02⟩
theorem wc_J0_633 : wcV RJ0 633 MJ0_indexOf_7cf53 := ⟨List.mem_filter.mpr ⟨List.mem_of_getElem? (i := 646) (by decide +kernel), by decide +kernel⟩, im_J0_indexOf_7cf53, se_J0_indexOf_7cf53, ini_J0, cd_J0_indexOf_7cf53⟩
theorem wc_J0_505 : wcV RJ0 505 MJ0_length_8abf5 := ⟨List.mem_filter.mpr ⟨List.mem_of_getElem? (i := 650) (by decide +kernel), by decide +kernel⟩, im_J0_length_8abf5, se_J0_length_8abf5, ini_J0, cd_J0_length_8abf5⟩
theorem wc_J0_495 : wcS RJ0 495 MJ1_charAt_3b067 := ⟨List.mem_filter.mpr ⟨List.mem_of_getElem? (i := 605) (by decide +kernel), by decide +kernel⟩, sm_J1_charAt_3b067, ini_J1, cd_J1_charAt_3b067⟩
theorem wc_J0_637 : wcS RJ0 637 MJ1_indexOf_4cfef := ⟨List.mem_filter.mpr ⟨List.mem_of_getElem? (i := 651) (by decide +kernel), by decide +kernel⟩, sm_J1_indexOf_4cfef, ini_J1, cd_J1_indexOf_4cfef⟩
theorem wc_J0_1059 : wcS RJ0 1059 MJ3_checkIndex_8e157 := ⟨List.mem_filter.mpr ⟨List.mem_of_getElem? (i := 613) (by decide +kernel), by decide +kernel⟩, sm_J3_checkIndex_8e157, ini_J3, cd_J3_checkIndex_8e157⟩
theorem wc_J1_9 : wcS RJ1 9 MJ0_checkIndex_df160 := ⟨List.mem_filter.mpr ⟨List.mem_of_getElem? (i := 608) (by decide +kernel), by decide +kernel⟩, sm_J0_checkIndex_df160, ini_J0, cd_J0_checkIndex_df160⟩
theorem wc_J1_88 : wcS RJ1 88 MJ1_canEncode_9a6ad := ⟨List.mem_filter.mpr ⟨List.mem_of_getElem? (i := 654) (by decide +kernel), by decide +kernel⟩, sm_J1_canEncode_9a6ad, ini_J1, cd_J1_canEncode_9a6ad⟩
theorem wc_J1_95 : wcS RJ1 95 MJ1_indexOfChar_4cfef := ⟨List.mem_filter.mpr ⟨List.mem_of_getElem? (i := 663) (by decide +kernel), by decide +kernel⟩, sm_J1_indexOfChar_4cfef, ini_J1, cd_J1_indexOfChar_4cfef⟩
theorem wm_J1_92 : Cond.methodLink RJ1 92 Lib.Math.max.name ∈ tb := List.mem_filter.mpr ⟨List.mem_of_getElem? (i := 657) (by decide +kernel), by decide +kernel⟩
theorem wm_J1_38 : Cond.methodLink RJ1 38 Lib.Math.min.name ∈ tb := List.mem_filter.mpr ⟨List.mem_of_getElem? (i := 660) (by decide +kernel), by decide +kernel⟩
theorem wf_J0_9 : Cond.fieldLink RJ0 9 "java/lang/String" "value" "[B" ∈ tb := List.mem_filter.mpr ⟨List.mem_of_getElem? (i := 1792) (by decide +kernel), by decide +kernel⟩
theorem wf_J0_15 : Cond.fieldLink RJ0 15 "java/lang/String" "coder" "B" ∈ tb := List.mem_filter.mpr ⟨List.mem_of_getElem? (i := 1793) (by decide +kernel), by decide +kernel⟩
theorem wf_J0_38 : Cond.fieldLink RJ0 38 "java/lang/String" "COMPACT_STRINGS" "Z" ∈ tb := List.mem_filter.mpr ⟨List.mem_of_getElem? (i := 595) (by decide +kernel), by decide +kernel⟩
theorem wf_J0_1053 : Cond.fieldLink RJ0 1053 "jdk/internal/util/Preconditions" "SIOOBE_FORMATTER" "Ljava/util/function/BiFunction;" ∈ tb := List.mem_filter.mpr ⟨List.mem_of_getElem? (i := 611) (by decide +kernel), by decide +kernel⟩
/-- bytes of the two texts -/
def bJ (q : Nat) (i : Int) : Int := ((if q = 503 then bySigns else byWords).getD i.toNat 0).toInt
def nJ (q : Nat) : Int := if q = 503 then 10 else 80
section JROWS
variable {ly : List Sh} {X : Cx} {own : String} {cc : ByteArray} {n d pc : Nat} {L L' : List (Option Vl)} {K : List Vl} {s : Sto}
theorem G_gfV (C : Ok ly X RJ0 cc n d) {q : Nat} (hq : q = 503 ∨ q = 504) (hd : decode cc pc = .ok (.getfield 9, 3)) (kk : G ly X (pc + 3) L (.inr (q + 2) :: K) s) : G ly X pc L (.inr q :: K) s := by
  obtain ⟨p, l, e, R, s0, m, args, below, meth, cd, Q, cells, slots, nL, A, D, ad, cI, cZ⟩ := X
  intro H locs ls hP hS hl
  have hk := C.2.2.2.2.2.2.2.2.2.2.2.2.2.2.2.2.1
  rcases hq with rfl | rfl
  · exact vk_getf C.1 C.2.1 (hk.1 0 (by decide)).2.2.1 hS C.2.2.2.1 (C.2.2.2.2.1 _ wf_J0_9) (fun _ h => h) hd (kk H locs ls hP hS hl)
  · exact vk_getf C.1 C.2.1 (hk.1 1 (by decide)).2.2.1 hS C.2.2.2.1 (C.2.2.2.2.1 _ wf_J0_9) (fun _ h => h) hd (kk H locs ls hP hS hl)
theorem G_gfC (C : Ok ly X RJ0 cc n d) {q : Nat} (hq : q = 503 ∨ q = 504) (hd : decode cc pc = .ok (.getfield 15, 3)) (kk : G ly X (pc + 3) L (.inl 0 :: K) s) : G ly X pc L (.inr q :: K) s := by
  obtain ⟨p, l, e, R, s0, m, args, below, meth, cd, Q, cells, slots, nL, A, D, ad, cI, cZ⟩ := X
  intro H locs ls hP hS hl
  have hk := C.2.2.2.2.2.2.2.2.2.2.2.2.2.2.2.2.1
  rcases hq with rfl | rfl
  · exact vk_getf C.1 C.2.1 (hk.1 0 (by decide)).2.1 hS C.2.2.2.1 (C.2.2.2.2.1 _ wf_J0_15) (fun _ h => h) hd (kk H locs ls hP hS hl)
  · exact vk_getf C.1 C.2.1 (hk.1 1 (by decide)).2.1 hS C.2.2.2.1 (C.2.2.2.2.1 _ wf_J0_15) (fun _ h => h) hd (kk H locs ls hP hS hl)
theorem G_gsZ (C : Ok ly X RJ0 cc n d) (hd : decode cc pc = .ok (.getstatic 38, 3)) (kk : G ly X (pc + 3) L (.inl 1 :: K) s) : G ly X pc L K s := by
  obtain ⟨p, l, e, R, s0, m, args, below, meth, cd, Q, cells, slots, nL, A, D, ad, cI, cZ⟩ := X
  intro H locs ls hP hS hl
  have hz := C.2.2.2.2.2.2.2.2.2.2.2.2.2.2.2.2.2.1
  exact va_gets C.1 C.2.1 hz hS C.2.2.2.1 (C.2.2.2.2.1 _ wf_J0_38) (fun _ h => h) hd (kk H locs ls hP hS hl)
theorem G_tlen (C : Ok ly X own cc n d) {q : Nat} (hq : q = 503 ∨ q = 504) (hd : decode cc pc = .ok (.arraylength, 1)) (kk : G ly X (pc + 1) L (.inl (nJ q) :: K) s) : G ly X pc L (.inr (q + 2) :: K) s := by
  obtain ⟨p, l, e, R, s0, m, args, below, meth, cd, Q, cells, slots, nL, A, D, ad, cI, cZ⟩ := X
  intro H locs ls hP hS hl
  have hk := C.2.2.2.2.2.2.2.2.2.2.2.2.2.2.2.2.1
  rcases hq with rfl | rfl
  · exact va_tlen C.1 C.2.1 (hk.1 0 (by decide)).2.2.2 hS (by decide) hd (kk H locs ls hP hS hl)
  · exact va_tlen C.1 C.2.1 (hk.1 1 (by decide)).2.2.2 hS (by decide) hd (kk H locs ls hP hS hl)
theorem G_tb (C : Ok ly X own cc n d) {q : Nat} {i : Int} (hq : q = 503 ∨ q = 504) (hi : 0 ≤ i ∧ i < nJ q) (hd : decode cc pc = .ok (.baload, 1)) (kk : G ly X (pc + 1) L (.inl (bJ q i) :: K) s) : G ly X pc L (.inl i :: .inr (q + 2) :: K) s := by
  obtain ⟨p, l, e, R, s0, m, args, below, meth, cd, Q, cells, slots, nL, A, D, ad, cI, cZ⟩ := X
  intro H locs ls hP hS hl
  have hk := C.2.2.2.2.2.2.2.2.2.2.2.2.2.2.2.2.1
  have kk' := kk H locs ls hP hS hl
  rcases hq with rfl | rfl
  · have hi' : 0 ≤ i ∧ i < 10 := hi
    refine va_tb C.1 C.2.1 (hk.1 0 (by decide)).2.2.2 hS (oI_in hi'.1 (n := 10) (by omega) (by decide)) (v := .int (Int32.ofInt (bJ 503 i))) ?_ hd kk'
    rw [oI_clamp hi'.1 (by omega)]
    show Value.int (bySigns.getD i.toNat 0) = _
    unfold bJ
    rw [if_pos rfl, Int32.ofInt_toInt]
  · have hi' : 0 ≤ i ∧ i < 80 := hi
    refine va_tb C.1 C.2.1 (hk.1 1 (by decide)).2.2.2 hS (oI_in hi'.1 (n := 80) (by omega) (by decide)) (v := .int (Int32.ofInt (bJ 504 i))) ?_ hd kk'
    rw [oI_clamp hi'.1 (by omega)]
    show Value.int (byWords.getD i.toNat 0) = _
    unfold bJ
    rw [if_neg (by decide), Int32.ofInt_toInt]
theorem G_i2b (C : Ok ly X own cc n d) {a : Int} (hd : decode cc pc = .ok (.i2b, 1)) (k : G ly X (pc + 1) L (.inl ((Int32.ofInt a).toInt8.toInt32).toInt :: K) s) : G ly X pc L (.inl a :: K) s := by
  obtain ⟨p, l, e, R, s0, m, args, below, meth, c, Q, cells, slots, nL, A, D, ad, cI, cZ⟩ := X
  intro H locs ls hP hS hl
  exact lv_i2b (v := Int32.ofInt ((Int32.ofInt a).toInt8.toInt32).toInt) C.1 C.2.1 hd (Int32.ofInt_toInt _).symm (k H locs ls hP hS hl)
end JROWS
