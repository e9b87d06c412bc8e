/-! THE LAW: its loop -/
/-- the script at the cell 600 -/
def SC (X : Cx) (Ls : Nat) (xs : Nat → Int32) : Prop := match X with
  | (p, l, e, R, s0, m, args, below, meth, c, Q, cells, slots, nL, A, D, ad, cI, cZ) => va_X (ad 600) Ls xs s0 s0.heap ∧ ad 600 < s0.heap.size ∧ ¬ A (ad 600)
section LAWR
variable {ly : List Sh} {X : Cx} {own : String} {cc : ByteArray} {n d pc : Nat} {L : List (Option Vl)} {K : List Vl} {s : Sto} {Ls : Nat} {xs : Nat → Int32}
theorem G_sld (C : Ok ly X own cc n d) (S : SC X Ls xs) {i : Int} (hi : 0 ≤ i ∧ i < Ls ∧ (Ls : Int) ≤ 3072) (hd : decode cc pc = .ok (.iaload, 1)) (kk : G ly X (pc + 1) L (.inl (xs i.toNat).toInt :: K) s) : G ly X pc L (.inl i :: .inr 600 :: K) s := by
  obtain ⟨p, l, e, R, s0, m, args, below, meth, cd, Q, cells, slots, nL, A, D, ad, cI, cZ⟩ := X
  intro H locs ls hP hS hl
  have k := kk H locs ls hP hS hl
  refine va_sld C.1 C.2.1 S.1 S.2.1 S.2.2 hS (i := Int32.ofInt i) (oI_in hi.1 hi.2.1 (by omega)) hd ?_
  rw [oI_clamp hi.1 (by omega)]
  have e1 : cV ad (.inl (xs i.toNat).toInt) = .int (xs i.toNat) := by
    show Value.int (Int32.ofInt (xs i.toNat).toInt) = _
    rw [Int32.ofInt_toInt]
  rw [List.map_cons, e1] at k
  exact k
theorem G_slen (C : Ok ly X own cc n d) (S : SC X Ls xs) (hd : decode cc pc = .ok (.arraylength, 1)) (kk : G ly X (pc + 1) L (.inl (Ls : Int) :: K) s) : G ly X pc L (.inr 600 :: K) s := by
  obtain ⟨p, l, e, R, s0, m, args, below, meth, cd, Q, cells, slots, nL, A, D, ad, cI, cZ⟩ := X
  intro H locs ls hP hS hl
  have k := kk H locs ls hP hS hl
  refine va_slen C.1 C.2.1 S.1 S.2.1 S.2.2 hS hd ?_
  have e1 : cV ad (.inl (Ls : Int)) = .int (Int32.ofNat Ls) := by
    show Value.int (Int32.ofInt (Ls : Int)) = _
    rw [oI_nat]
    rfl
  rw [List.map_cons, e1] at k
  exact k
theorem G_tabIn (C : Ok ly X own cc n d) {dflt lo hi : Int} {offs : Array Int} {len : Nat} {a off : Int} {tgt : Nat} (hd : decode cc pc = .ok (.tableswitch dflt lo hi offs, len)) (ha : rg a) (h1 : lo ≤ a) (h2 : a ≤ hi) (ho : offs[(a - lo).toNat]? = some off) (ht : (pc : Int) + off = (tgt : Int)) (k : G ly X tgt L K s) : G ly X pc L (.inl a :: K) s := by
  obtain ⟨p, l, e, R, s0, m, args, below, meth, cd, Q, cells, slots, nL, A, D, ad, cI, cZ⟩ := X
  intro H locs ls hP hS hl
  have et := oI_toInt ha
  exact lv_tableIn C.1 C.2.1 hd (by rw [et]; omega) (by rw [et]; omega) (by rw [et]; exact ho) ht (k H locs ls hP hS hl)
theorem G_tabOut (C : Ok ly X own cc n d) {dflt lo hi : Int} {offs : Array Int} {len : Nat} {a : Int} {tgt : Nat} (hd : decode cc pc = .ok (.tableswitch dflt lo hi offs, len)) (ha : rg a) (h : a < lo ∨ hi < a) (ht : (pc : Int) + dflt = (tgt : Int)) (k : G ly X tgt L K s) : G ly X pc L (.inl a :: K) s := by
  obtain ⟨p, l, e, R, s0, m, args, below, meth, cd, Q, cells, slots, nL, A, D, ad, cI, cZ⟩ := X
  intro H locs ls hP hS hl
  have et := oI_toInt ha
  exact lv_tableOut C.1 C.2.1 hd (by rw [et]; exact h) ht (k H locs ls hP hS hl)
end LAWR
theorem law_c0 [Inhabited YT] {X : Cx} {Ls : Nat} {xs : Nat → Int32} {i : Int} {s : Sto} (C : Ok LY X RL cL_law 4 200) (S : SC X Ls xs) (hi : 0 ≤ i ∧ i + 6 ≤ Ls ∧ (Ls : Int) ≤ 3072) (h : Inv s) (kk : ∀ s' : Sto, Inv s' → G LY X 1091 [rv 600, rv 0, rv 75, iv i] [] s') : G LY X 172 [rv 600, rv 0, rv 75, iv i] [] s := by
  obtain ⟨d1, d2, Q1, l1, l2, c1, k1⟩ := op_state h (oI_rg (xs (i + 1).toNat))
  refine G_aload_n C dL_law_172 rfl ?_
  refine G_aload_n C dL_law_173 rfl ?_
  refine G_iload_n C dL_law_174 rfl ?_
  refine G_iconst C dL_law_175 ?_
  refine G_iadd C dL_law_176 ?_
  refine G_sld C S (by omega) dL_law_177 ?_
  refine G_callVI (K := []) (args := [.inl _]) (T := TX11) (N := 10) C ly_0 rfl (Nat.le_of_ble_eq_true rfl) mo_X11_state wc_L_13 rfl dL_law_178 ⟨d1, Q1, l1, c1, fun _ _ q => q⟩ (fun r1 s1 q1 => ?_)
  obtain ⟨w1, w2⟩ := k1 r1 s1 q1
  refine G_aload_n C dL_law_181 rfl ?_
  refine G_aload_n C dL_law_182 rfl ?_
  refine G_iload_n C dL_law_183 rfl ?_
  refine G_iconst C dL_law_184 ?_
  refine G_iadd C dL_law_185 ?_
  refine G_sld C S (by omega) dL_law_186 ?_
  refine G_callVI (K := [.inl r1]) (args := [.inl _]) (T := TX12) (N := 72) C ly_75 rfl (Nat.le_of_ble_eq_true rfl) mo_X12_state wc_L_17 rfl dL_law_187 ⟨d2, _, l2, w2, fun _ _ q => q⟩ (fun r2 s2 q2 => ?_)
  refine G_icmp_eq (tgt := 1091) C dL_law_190 (by decide) ⟨w1, by rw [q2.1]; exact w1⟩ (fun _ => kk s2 q2.2) (fun z => absurd q2.1.symm z)
theorem law_c1 [Inhabited YT] {X : Cx} {Ls : Nat} {xs : Nat → Int32} {i : Int} {s : Sto} (C : Ok LY X RL cL_law 4 200) (S : SC X Ls xs) (hi : 0 ≤ i ∧ i + 6 ≤ Ls ∧ (Ls : Int) ≤ 3072) (h : Inv s) (kk : ∀ s' : Sto, Inv s' → G LY X 1091 [rv 600, rv 0, rv 75, iv i] [] s') : G LY X 195 [rv 600, rv 0, rv 75, iv i] [] s := by
  obtain ⟨d1, d2, Q1, l1, l2, c1, k1⟩ := op_letters h (oI_rg (xs (i + 1).toNat))
  refine G_aload_n C dL_law_195 rfl ?_
  refine G_aload_n C dL_law_196 rfl ?_
  refine G_iload_n C dL_law_197 rfl ?_
  refine G_iconst C dL_law_198 ?_
  refine G_iadd C dL_law_199 ?_
  refine G_sld C S (by omega) dL_law_200 ?_
  refine G_callVI (K := []) (args := [.inl _]) (T := TX11) (N := 10) C ly_0 rfl (Nat.le_of_ble_eq_true rfl) mo_X11_letters wc_L_18 rfl dL_law_201 ⟨d1, Q1, l1, c1, fun _ _ q => q⟩ (fun r1 s1 q1 => ?_)
  obtain ⟨w1, w2⟩ := k1 r1 s1 q1
  refine G_aload_n C dL_law_204 rfl ?_
  refine G_aload_n C dL_law_205 rfl ?_
  refine G_iload_n C dL_law_206 rfl ?_
  refine G_iconst C dL_law_207 ?_
  refine G_iadd C dL_law_208 ?_
  refine G_sld C S (by omega) dL_law_209 ?_
  refine G_callVI (K := [.inl r1]) (args := [.inl _]) (T := TX12) (N := 72) C ly_75 rfl (Nat.le_of_ble_eq_true rfl) mo_X12_letters wc_L_22 rfl dL_law_210 ⟨d2, _, l2, w2, fun _ _ q => q⟩ (fun r2 s2 q2 => ?_)
  refine G_icmp_eq (tgt := 1091) C dL_law_213 (by decide) ⟨w1, by rw [q2.1]; exact w1⟩ (fun _ => kk s2 q2.2) (fun z => absurd q2.1.symm z)
theorem law_c2 [Inhabited YT] {X : Cx} {Ls : Nat} {xs : Nat → Int32} {i : Int} {s : Sto} (C : Ok LY X RL cL_law 4 200) (S : SC X Ls xs) (hi : 0 ≤ i ∧ i + 6 ≤ Ls ∧ (Ls : Int) ≤ 3072) (h : Inv s) (kk : ∀ s' : Sto, Inv s' → G LY X 1091 [rv 600, rv 0, rv 75, iv i] [] s') : G LY X 218 [rv 600, rv 0, rv 75, iv i] [] s := by
  obtain ⟨d1, d2, Q1, l1, l2, c1, k1⟩ := op_feed h (oI_rg (xs (i + 1).toNat)) (oI_rg (xs (i + 2).toNat)) (oI_rg (xs (i + 3).toNat)) (oI_rg (xs (i + 4).toNat)) (oI_rg (xs (i + 5).toNat))
  refine G_aload_n C dL_law_218 rfl ?_
  refine G_aload_n C dL_law_219 rfl ?_
  refine G_iload_n C dL_law_220 rfl ?_
  refine G_iconst C dL_law_221 ?_
  refine G_iadd C dL_law_222 ?_
  refine G_sld C S (by omega) dL_law_223 ?_
  refine G_aload_n C dL_law_224 rfl ?_
  refine G_iload_n C dL_law_225 rfl ?_
  refine G_iconst C dL_law_226 ?_
  refine G_iadd C dL_law_227 ?_
  refine G_sld C S (by omega) dL_law_228 ?_
  refine G_aload_n C dL_law_229 rfl ?_
  refine G_iload_n C dL_law_230 rfl ?_
  refine G_iconst C dL_law_231 ?_
  refine G_iadd C dL_law_232 ?_
  refine G_sld C S (by omega) dL_law_233 ?_
  refine G_aload_n C dL_law_234 rfl ?_
  refine G_iload_n C dL_law_235 rfl ?_
  refine G_iconst C dL_law_236 ?_
  refine G_iadd C dL_law_237 ?_
  refine G_sld C S (by omega) dL_law_238 ?_
  refine G_aload_n C dL_law_239 rfl ?_
  refine G_iload_n C dL_law_240 rfl ?_
  refine G_iconst C dL_law_241 ?_
  refine G_iadd C dL_law_242 ?_
  refine G_sld C S (by omega) dL_law_243 ?_
  refine G_callVI (K := []) (args := [.inl _, .inl _, .inl _, .inl _, .inl _]) (T := TX11) (N := 10) C ly_0 rfl (Nat.le_of_ble_eq_true rfl) mo_X11_feed wc_L_23 rfl dL_law_244 ⟨d1, Q1, l1, c1, fun _ _ q => q⟩ (fun r1 s1 q1 => ?_)
  obtain ⟨w1, w2⟩ := k1 r1 s1 q1
  refine G_aload_n C dL_law_247 rfl ?_
  refine G_aload_n C dL_law_248 rfl ?_
  refine G_iload_n C dL_law_249 rfl ?_
  refine G_iconst C dL_law_250 ?_
  refine G_iadd C dL_law_251 ?_
  refine G_sld C S (by omega) dL_law_252 ?_
  refine G_aload_n C dL_law_253 rfl ?_
  refine G_iload_n C dL_law_254 rfl ?_
  refine G_iconst C dL_law_255 ?_
  refine G_iadd C dL_law_256 ?_
  refine G_sld C S (by omega) dL_law_257 ?_
  refine G_aload_n C dL_law_258 rfl ?_
  refine G_iload_n C dL_law_259 rfl ?_
  refine G_iconst C dL_law_260 ?_
  refine G_iadd C dL_law_261 ?_
  refine G_sld C S (by omega) dL_law_262 ?_
  refine G_aload_n C dL_law_263 rfl ?_
  refine G_iload_n C dL_law_264 rfl ?_
  refine G_iconst C dL_law_265 ?_
  refine G_iadd C dL_law_266 ?_
  refine G_sld C S (by omega) dL_law_267 ?_
  refine G_aload_n C dL_law_268 rfl ?_
  refine G_iload_n C dL_law_269 rfl ?_
  refine G_iconst C dL_law_270 ?_
  refine G_iadd C dL_law_271 ?_
  refine G_sld C S (by omega) dL_law_272 ?_
  refine G_callVI (K := [.inl r1]) (args := [.inl _, .inl _, .inl _, .inl _, .inl _]) (T := TX12) (N := 72) C ly_75 rfl (Nat.le_of_ble_eq_true rfl) mo_X12_feed wc_L_27 rfl dL_law_273 ⟨d2, _, l2, w2, fun _ _ q => q⟩ (fun r2 s2 q2 => ?_)
  refine G_icmp_eq (tgt := 1091) C dL_law_276 (by decide) ⟨w1, by rw [q2.1]; exact w1⟩ (fun _ => kk s2 q2.2) (fun z => absurd q2.1.symm z)
theorem law_c3 [Inhabited YT] {X : Cx} {Ls : Nat} {xs : Nat → Int32} {i : Int} {s : Sto} (C : Ok LY X RL cL_law 4 200) (S : SC X Ls xs) (hi : 0 ≤ i ∧ i + 6 ≤ Ls ∧ (Ls : Int) ≤ 3072) (h : Inv s) (kk : ∀ s' : Sto, Inv s' → G LY X 1091 [rv 600, rv 0, rv 75, iv i] [] s') : G LY X 281 [rv 600, rv 0, rv 75, iv i] [] s := by
  obtain ⟨d1, d2, Q1, l1, l2, c1, k1⟩ := op_end h (oI_rg (xs (i + 1).toNat))
  refine G_aload_n C dL_law_281 rfl ?_
  refine G_aload_n C dL_law_282 rfl ?_
  refine G_iload_n C dL_law_283 rfl ?_
  refine G_iconst C dL_law_284 ?_
  refine G_iadd C dL_law_285 ?_
  refine G_sld C S (by omega) dL_law_286 ?_
  refine G_callVI (K := []) (args := [.inl _]) (T := TX11) (N := 10) C ly_0 rfl (Nat.le_of_ble_eq_true rfl) mo_X11_end wc_L_28 rfl dL_law_287 ⟨d1, Q1, l1, c1, fun _ _ q => q⟩ (fun r1 s1 q1 => ?_)
  obtain ⟨w1, w2⟩ := k1 r1 s1 q1
  refine G_aload_n C dL_law_290 rfl ?_
  refine G_aload_n C dL_law_291 rfl ?_
  refine G_iload_n C dL_law_292 rfl ?_
  refine G_iconst C dL_law_293 ?_
  refine G_iadd C dL_law_294 ?_
  refine G_sld C S (by omega) dL_law_295 ?_
  refine G_callVI (K := [.inl r1]) (args := [.inl _]) (T := TX12) (N := 72) C ly_75 rfl (Nat.le_of_ble_eq_true rfl) mo_X12_end wc_L_31 rfl dL_law_296 ⟨d2, _, l2, w2, fun _ _ q => q⟩ (fun r2 s2 q2 => ?_)
  refine G_icmp_eq (tgt := 1091) C dL_law_299 (by decide) ⟨w1, by rw [q2.1]; exact w1⟩ (fun _ => kk s2 q2.2) (fun z => absurd q2.1.symm z)
theorem law_c4 [Inhabited YT] {X : Cx} {Ls : Nat} {xs : Nat → Int32} {i : Int} {s : Sto} (C : Ok LY X RL cL_law 4 200) (S : SC X Ls xs) (hi : 0 ≤ i ∧ i + 6 ≤ Ls ∧ (Ls : Int) ≤ 3072) (h : Inv s) (kk : ∀ s' : Sto, Inv s' → G LY X 1091 [rv 600, rv 0, rv 75, iv i] [] s') : G LY X 304 [rv 600, rv 0, rv 75, iv i] [] s := by
  obtain ⟨d1, d2, Q1, l1, l2, c1, k1⟩ := op_text h 
  refine G_aload_n C dL_law_304 rfl ?_
  refine G_callVI (K := []) (args := []) (T := TX11) (N := 10) C ly_0 rfl (Nat.le_of_ble_eq_true rfl) mo_X11_text wc_L_32 rfl dL_law_305 ⟨d1, Q1, l1, c1, fun _ _ q => q⟩ (fun r1 s1 q1 => ?_)
  obtain ⟨w1, w2⟩ := k1 r1 s1 q1
  refine G_aload_n C dL_law_308 rfl ?_
  refine G_callVI (K := [.inl r1]) (args := []) (T := TX12) (N := 72) C ly_75 rfl (Nat.le_of_ble_eq_true rfl) mo_X12_text wc_L_36 rfl dL_law_309 ⟨d2, _, l2, w2, fun _ _ q => q⟩ (fun r2 s2 q2 => ?_)
  refine G_icmp_eq (tgt := 1091) C dL_law_312 (by decide) ⟨w1, by rw [q2.1]; exact w1⟩ (fun _ => kk s2 q2.2) (fun z => absurd q2.1.symm z)
theorem law_c5 [Inhabited YT] {X : Cx} {Ls : Nat} {xs : Nat → Int32} {i : Int} {s : Sto} (C : Ok LY X RL cL_law 4 200) (S : SC X Ls xs) (hi : 0 ≤ i ∧ i + 6 ≤ Ls ∧ (Ls : Int) ≤ 3072) (h : Inv s) (kk : ∀ s' : Sto, Inv s' → G LY X 1091 [rv 600, rv 0, rv 75, iv i] [] s') : G LY X 317 [rv 600, rv 0, rv 75, iv i] [] s := by
  obtain ⟨d1, d2, Q1, l1, l2, c1, k1⟩ := op_fault h (oI_rg (xs (i + 1).toNat))
  refine G_aload_n C dL_law_317 rfl ?_
  refine G_aload_n C dL_law_318 rfl ?_
  refine G_iload_n C dL_law_319 rfl ?_
  refine G_iconst C dL_law_320 ?_
  refine G_iadd C dL_law_321 ?_
  refine G_sld C S (by omega) dL_law_322 ?_
  refine G_callVI (K := []) (args := [.inl _]) (T := TX11) (N := 10) C ly_0 rfl (Nat.le_of_ble_eq_true rfl) mo_X11_fault wc_L_37 rfl dL_law_323 ⟨d1, Q1, l1, c1, fun _ _ q => q⟩ (fun r1 s1 q1 => ?_)
  obtain ⟨w1, w2⟩ := k1 r1 s1 q1
  refine G_aload_n C dL_law_326 rfl ?_
  refine G_aload_n C dL_law_327 rfl ?_
  refine G_iload_n C dL_law_328 rfl ?_
  refine G_iconst C dL_law_329 ?_
  refine G_iadd C dL_law_330 ?_
  refine G_sld C S (by omega) dL_law_331 ?_
  refine G_callVI (K := [.inl r1]) (args := [.inl _]) (T := TX12) (N := 72) C ly_75 rfl (Nat.le_of_ble_eq_true rfl) mo_X12_fault wc_L_40 rfl dL_law_332 ⟨d2, _, l2, w2, fun _ _ q => q⟩ (fun r2 s2 q2 => ?_)
  refine G_icmp_eq (tgt := 1091) C dL_law_335 (by decide) ⟨w1, by rw [q2.1]; exact w1⟩ (fun _ => kk s2 q2.2) (fun z => absurd q2.1.symm z)
theorem law_c6 [Inhabited YT] {X : Cx} {Ls : Nat} {xs : Nat → Int32} {i : Int} {s : Sto} (C : Ok LY X RL cL_law 4 200) (S : SC X Ls xs) (hi : 0 ≤ i ∧ i + 6 ≤ Ls ∧ (Ls : Int) ≤ 3072) (h : Inv s) (kk : ∀ s' : Sto, Inv s' → G LY X 1091 [rv 600, rv 0, rv 75, iv i] [] s') : G LY X 340 [rv 600, rv 0, rv 75, iv i] [] s := by
  obtain ⟨d1, d2, Q1, l1, l2, c1, k1⟩ := op_person h (oI_rg (xs (i + 1).toNat)) (oI_rg (xs (i + 2).toNat)) (oI_rg (xs (i + 3).toNat))
  refine G_aload_n C dL_law_340 rfl ?_
  refine G_aload_n C dL_law_341 rfl ?_
  refine G_iload_n C dL_law_342 rfl ?_
  refine G_iconst C dL_law_343 ?_
  refine G_iadd C dL_law_344 ?_
  refine G_sld C S (by omega) dL_law_345 ?_
  refine G_aload_n C dL_law_346 rfl ?_
  refine G_iload_n C dL_law_347 rfl ?_
  refine G_iconst C dL_law_348 ?_
  refine G_iadd C dL_law_349 ?_
  refine G_sld C S (by omega) dL_law_350 ?_
  refine G_aload_n C dL_law_351 rfl ?_
  refine G_iload_n C dL_law_352 rfl ?_
  refine G_iconst C dL_law_353 ?_
  refine G_iadd C dL_law_354 ?_
  refine G_sld C S (by omega) dL_law_355 ?_
  refine G_callVI (K := []) (args := [.inl _, .inl _, .inl _]) (T := TX11) (N := 10) C ly_0 rfl (Nat.le_of_ble_eq_true rfl) mo_X11_person wc_L_41 rfl dL_law_356 ⟨d1, Q1, l1, c1, fun _ _ q => q⟩ (fun r1 s1 q1 => ?_)
  obtain ⟨w1, w2⟩ := k1 r1 s1 q1
  refine G_aload_n C dL_law_359 rfl ?_
  refine G_aload_n C dL_law_360 rfl ?_
  refine G_iload_n C dL_law_361 rfl ?_
  refine G_iconst C dL_law_362 ?_
  refine G_iadd C dL_law_363 ?_
  refine G_sld C S (by omega) dL_law_364 ?_
  refine G_aload_n C dL_law_365 rfl ?_
  refine G_iload_n C dL_law_366 rfl ?_
  refine G_iconst C dL_law_367 ?_
  refine G_iadd C dL_law_368 ?_
  refine G_sld C S (by omega) dL_law_369 ?_
  refine G_aload_n C dL_law_370 rfl ?_
  refine G_iload_n C dL_law_371 rfl ?_
  refine G_iconst C dL_law_372 ?_
  refine G_iadd C dL_law_373 ?_
  refine G_sld C S (by omega) dL_law_374 ?_
  refine G_callVI (K := [.inl r1]) (args := [.inl _, .inl _, .inl _]) (T := TX12) (N := 72) C ly_75 rfl (Nat.le_of_ble_eq_true rfl) mo_X12_person wc_L_45 rfl dL_law_375 ⟨d2, _, l2, w2, fun _ _ q => q⟩ (fun r2 s2 q2 => ?_)
  refine G_icmp_eq (tgt := 1091) C dL_law_378 (by decide) ⟨w1, by rw [q2.1]; exact w1⟩ (fun _ => kk s2 q2.2) (fun z => absurd q2.1.symm z)
theorem law_c7 [Inhabited YT] {X : Cx} {Ls : Nat} {xs : Nat → Int32} {i : Int} {s : Sto} (C : Ok LY X RL cL_law 4 200) (S : SC X Ls xs) (hi : 0 ≤ i ∧ i + 6 ≤ Ls ∧ (Ls : Int) ≤ 3072) (h : Inv s) (kk : ∀ s' : Sto, Inv s' → G LY X 1091 [rv 600, rv 0, rv 75, iv i] [] s') : G LY X 383 [rv 600, rv 0, rv 75, iv i] [] s := by
  obtain ⟨d1, d2, Q1, l1, l2, c1, k1⟩ := op_named h (oI_rg (xs (i + 1).toNat))
  refine G_aload_n C dL_law_383 rfl ?_
  refine G_aload_n C dL_law_384 rfl ?_
  refine G_iload_n C dL_law_385 rfl ?_
  refine G_iconst C dL_law_386 ?_
  refine G_iadd C dL_law_387 ?_
  refine G_sld C S (by omega) dL_law_388 ?_
  refine G_callVI (K := []) (args := [.inl _]) (T := TX11) (N := 10) C ly_0 rfl (Nat.le_of_ble_eq_true rfl) mo_X11_named wc_L_46 rfl dL_law_389 ⟨d1, Q1, l1, c1, fun _ _ q => q⟩ (fun r1 s1 q1 => ?_)
  obtain ⟨w1, w2⟩ := k1 r1 s1 q1
  refine G_aload_n C dL_law_392 rfl ?_
  refine G_aload_n C dL_law_393 rfl ?_
  refine G_iload_n C dL_law_394 rfl ?_
  refine G_iconst C dL_law_395 ?_
  refine G_iadd C dL_law_396 ?_
  refine G_sld C S (by omega) dL_law_397 ?_
  refine G_callVI (K := [.inl r1]) (args := [.inl _]) (T := TX12) (N := 72) C ly_75 rfl (Nat.le_of_ble_eq_true rfl) mo_X12_named wc_L_49 rfl dL_law_398 ⟨d2, _, l2, w2, fun _ _ q => q⟩ (fun r2 s2 q2 => ?_)
  refine G_icmp_eq (tgt := 1091) C dL_law_401 (by decide) ⟨w1, by rw [q2.1]; exact w1⟩ (fun _ => kk s2 q2.2) (fun z => absurd q2.1.symm z)
theorem law_c8 [Inhabited YT] {X : Cx} {Ls : Nat} {xs : Nat → Int32} {i : Int} {s : Sto} (C : Ok LY X RL cL_law 4 200) (S : SC X Ls xs) (hi : 0 ≤ i ∧ i + 6 ≤ Ls ∧ (Ls : Int) ≤ 3072) (h : Inv s) (kk : ∀ s' : Sto, Inv s' → G LY X 1091 [rv 600, rv 0, rv 75, iv i] [] s') : G LY X 406 [rv 600, rv 0, rv 75, iv i] [] s := by
  obtain ⟨d1, d2, Q1, l1, l2, c1, k1⟩ := op_alphabet h 
  refine G_aload_n C dL_law_406 rfl ?_
  refine G_callVI (K := []) (args := []) (T := TX11) (N := 10) C ly_0 rfl (Nat.le_of_ble_eq_true rfl) mo_X11_alphabet wc_L_50 rfl dL_law_407 ⟨d1, Q1, l1, c1, fun _ _ q => q⟩ (fun r1 s1 q1 => ?_)
  obtain ⟨w1, w2⟩ := k1 r1 s1 q1
  refine G_aload_n C dL_law_410 rfl ?_
  refine G_callVI (K := [.inl r1]) (args := []) (T := TX12) (N := 72) C ly_75 rfl (Nat.le_of_ble_eq_true rfl) mo_X12_alphabet wc_L_54 rfl dL_law_411 ⟨d2, _, l2, w2, fun _ _ q => q⟩ (fun r2 s2 q2 => ?_)
  refine G_icmp_eq (tgt := 1091) C dL_law_414 (by decide) ⟨w1, by rw [q2.1]; exact w1⟩ (fun _ => kk s2 q2.2) (fun z => absurd q2.1.symm z)
theorem law_c9 [Inhabited YT] {X : Cx} {Ls : Nat} {xs : Nat → Int32} {i : Int} {s : Sto} (C : Ok LY X RL cL_law 4 200) (S : SC X Ls xs) (hi : 0 ≤ i ∧ i + 6 ≤ Ls ∧ (Ls : Int) ≤ 3072) (h : Inv s) (kk : ∀ s' : Sto, Inv s' → G LY X 1091 [rv 600, rv 0, rv 75, iv i] [] s') : G LY X 419 [rv 600, rv 0, rv 75, iv i] [] s := by
  obtain ⟨d1, d2, Q1, l1, l2, c1, k1⟩ := op_set h (oI_rg (xs (i + 1).toNat)) (oI_rg (xs (i + 2).toNat))
  refine G_aload_n C dL_law_419 rfl ?_
  refine G_aload_n C dL_law_420 rfl ?_
  refine G_iload_n C dL_law_421 rfl ?_
  refine G_iconst C dL_law_422 ?_
  refine G_iadd C dL_law_423 ?_
  refine G_sld C S (by omega) dL_law_424 ?_
  refine G_aload_n C dL_law_425 rfl ?_
  refine G_iload_n C dL_law_426 rfl ?_
  refine G_iconst C dL_law_427 ?_
  refine G_iadd C dL_law_428 ?_
  refine G_sld C S (by omega) dL_law_429 ?_
  refine G_callVI (K := []) (args := [.inl _, .inl _]) (T := TX11) (N := 10) C ly_0 rfl (Nat.le_of_ble_eq_true rfl) mo_X11_set wc_L_55 rfl dL_law_430 ⟨d1, Q1, l1, c1, fun _ _ q => q⟩ (fun r1 s1 q1 => ?_)
  obtain ⟨w1, w2⟩ := k1 r1 s1 q1
  refine G_aload_n C dL_law_433 rfl ?_
  refine G_aload_n C dL_law_434 rfl ?_
  refine G_iload_n C dL_law_435 rfl ?_
  refine G_iconst C dL_law_436 ?_
  refine G_iadd C dL_law_437 ?_
  refine G_sld C S (by omega) dL_law_438 ?_
  refine G_aload_n C dL_law_439 rfl ?_
  refine G_iload_n C dL_law_440 rfl ?_
  refine G_iconst C dL_law_441 ?_
  refine G_iadd C dL_law_442 ?_
  refine G_sld C S (by omega) dL_law_443 ?_
  refine G_callVI (K := [.inl r1]) (args := [.inl _, .inl _]) (T := TX12) (N := 72) C ly_75 rfl (Nat.le_of_ble_eq_true rfl) mo_X12_set wc_L_59 rfl dL_law_444 ⟨d2, _, l2, w2, fun _ _ q => q⟩ (fun r2 s2 q2 => ?_)
  refine G_icmp_eq (tgt := 1091) C dL_law_447 (by decide) ⟨w1, by rw [q2.1]; exact w1⟩ (fun _ => kk s2 q2.2) (fun z => absurd q2.1.symm z)
theorem law_c10 [Inhabited YT] {X : Cx} {Ls : Nat} {xs : Nat → Int32} {i : Int} {s : Sto} (C : Ok LY X RL cL_law 4 200) (S : SC X Ls xs) (hi : 0 ≤ i ∧ i + 6 ≤ Ls ∧ (Ls : Int) ≤ 3072) (h : Inv s) (kk : ∀ s' : Sto, Inv s' → G LY X 1091 [rv 600, rv 0, rv 75, iv i] [] s') : G LY X 452 [rv 600, rv 0, rv 75, iv i] [] s := by
  obtain ⟨d1, d2, Q1, l1, l2, c1, k1⟩ := op_site h (oI_rg (xs (i + 1).toNat)) (oI_rg (xs (i + 2).toNat)) (oI_rg (xs (i + 3).toNat)) (oI_rg (xs (i + 4).toNat)) (oI_rg (xs (i + 5).toNat))
  refine G_aload_n C dL_law_452 rfl ?_
  refine G_aload_n C dL_law_453 rfl ?_
  refine G_iload_n C dL_law_454 rfl ?_
  refine G_iconst C dL_law_455 ?_
  refine G_iadd C dL_law_456 ?_
  refine G_sld C S (by omega) dL_law_457 ?_
  refine G_aload_n C dL_law_458 rfl ?_
  refine G_iload_n C dL_law_459 rfl ?_
  refine G_iconst C dL_law_460 ?_
  refine G_iadd C dL_law_461 ?_
  refine G_sld C S (by omega) dL_law_462 ?_
  refine G_aload_n C dL_law_463 rfl ?_
  refine G_iload_n C dL_law_464 rfl ?_
  refine G_iconst C dL_law_465 ?_
  refine G_iadd C dL_law_466 ?_
  refine G_sld C S (by omega) dL_law_467 ?_
  refine G_aload_n C dL_law_468 rfl ?_
  refine G_iload_n C dL_law_469 rfl ?_
  refine G_iconst C dL_law_470 ?_
  refine G_iadd C dL_law_471 ?_
  refine G_sld C S (by omega) dL_law_472 ?_
  refine G_aload_n C dL_law_473 rfl ?_
  refine G_iload_n C dL_law_474 rfl ?_
  refine G_iconst C dL_law_475 ?_
  refine G_iadd C dL_law_476 ?_
  refine G_sld C S (by omega) dL_law_477 ?_
  refine G_callVI (K := []) (args := [.inl _, .inl _, .inl _, .inl _, .inl _]) (T := TX11) (N := 10) C ly_0 rfl (Nat.le_of_ble_eq_true rfl) mo_X11_site wc_L_60 rfl dL_law_478 ⟨d1, Q1, l1, c1, fun _ _ q => q⟩ (fun r1 s1 q1 => ?_)
  obtain ⟨w1, w2⟩ := k1 r1 s1 q1
  refine G_aload_n C dL_law_481 rfl ?_
  refine G_aload_n C dL_law_482 rfl ?_
  refine G_iload_n C dL_law_483 rfl ?_
  refine G_iconst C dL_law_484 ?_
  refine G_iadd C dL_law_485 ?_
  refine G_sld C S (by omega) dL_law_486 ?_
  refine G_aload_n C dL_law_487 rfl ?_
  refine G_iload_n C dL_law_488 rfl ?_
  refine G_iconst C dL_law_489 ?_
  refine G_iadd C dL_law_490 ?_
  refine G_sld C S (by omega) dL_law_491 ?_
  refine G_aload_n C dL_law_492 rfl ?_
  refine G_iload_n C dL_law_493 rfl ?_
  refine G_iconst C dL_law_494 ?_
  refine G_iadd C dL_law_495 ?_
  refine G_sld C S (by omega) dL_law_496 ?_
  refine G_aload_n C dL_law_497 rfl ?_
  refine G_iload_n C dL_law_498 rfl ?_
  refine G_iconst C dL_law_499 ?_
  refine G_iadd C dL_law_500 ?_
  refine G_sld C S (by omega) dL_law_501 ?_
  refine G_aload_n C dL_law_502 rfl ?_
  refine G_iload_n C dL_law_503 rfl ?_
  refine G_iconst C dL_law_504 ?_
  refine G_iadd C dL_law_505 ?_
  refine G_sld C S (by omega) dL_law_506 ?_
  refine G_callVI (K := [.inl r1]) (args := [.inl _, .inl _, .inl _, .inl _, .inl _]) (T := TX12) (N := 72) C ly_75 rfl (Nat.le_of_ble_eq_true rfl) mo_X12_site wc_L_64 rfl dL_law_507 ⟨d2, _, l2, w2, fun _ _ q => q⟩ (fun r2 s2 q2 => ?_)
  refine G_icmp_eq (tgt := 1091) C dL_law_510 (by decide) ⟨w1, by rw [q2.1]; exact w1⟩ (fun _ => kk s2 q2.2) (fun z => absurd q2.1.symm z)
theorem law_c11 [Inhabited YT] {X : Cx} {Ls : Nat} {xs : Nat → Int32} {i : Int} {s : Sto} (C : Ok LY X RL cL_law 4 200) (S : SC X Ls xs) (hi : 0 ≤ i ∧ i + 6 ≤ Ls ∧ (Ls : Int) ≤ 3072) (h : Inv s) (kk : ∀ s' : Sto, Inv s' → G LY X 1091 [rv 600, rv 0, rv 75, iv i] [] s') : G LY X 515 [rv 600, rv 0, rv 75, iv i] [] s := by
  obtain ⟨d1, d2, Q1, l1, l2, c1, k1⟩ := op_chance h (oI_rg (xs (i + 1).toNat)) (oI_rg (xs (i + 2).toNat))
  refine G_aload_n C dL_law_515 rfl ?_
  refine G_aload_n C dL_law_516 rfl ?_
  refine G_iload_n C dL_law_517 rfl ?_
  refine G_iconst C dL_law_518 ?_
  refine G_iadd C dL_law_519 ?_
  refine G_sld C S (by omega) dL_law_520 ?_
  refine G_aload_n C dL_law_521 rfl ?_
  refine G_iload_n C dL_law_522 rfl ?_
  refine G_iconst C dL_law_523 ?_
  refine G_iadd C dL_law_524 ?_
  refine G_sld C S (by omega) dL_law_525 ?_
  refine G_callVI (K := []) (args := [.inl _, .inl _]) (T := TX11) (N := 10) C ly_0 rfl (Nat.le_of_ble_eq_true rfl) mo_X11_chance wc_L_65 rfl dL_law_526 ⟨d1, Q1, l1, c1, fun _ _ q => q⟩ (fun r1 s1 q1 => ?_)
  obtain ⟨w1, w2⟩ := k1 r1 s1 q1
  refine G_aload_n C dL_law_529 rfl ?_
  refine G_aload_n C dL_law_530 rfl ?_
  refine G_iload_n C dL_law_531 rfl ?_
  refine G_iconst C dL_law_532 ?_
  refine G_iadd C dL_law_533 ?_
  refine G_sld C S (by omega) dL_law_534 ?_
  refine G_aload_n C dL_law_535 rfl ?_
  refine G_iload_n C dL_law_536 rfl ?_
  refine G_iconst C dL_law_537 ?_
  refine G_iadd C dL_law_538 ?_
  refine G_sld C S (by omega) dL_law_539 ?_
  refine G_callVI (K := [.inl r1]) (args := [.inl _, .inl _]) (T := TX12) (N := 72) C ly_75 rfl (Nat.le_of_ble_eq_true rfl) mo_X12_chance wc_L_68 rfl dL_law_540 ⟨d2, _, l2, w2, fun _ _ q => q⟩ (fun r2 s2 q2 => ?_)
  refine G_icmp_eq (tgt := 1091) C dL_law_543 (by decide) ⟨w1, by rw [q2.1]; exact w1⟩ (fun _ => kk s2 q2.2) (fun z => absurd q2.1.symm z)
theorem law_c12 [Inhabited YT] {X : Cx} {Ls : Nat} {xs : Nat → Int32} {i : Int} {s : Sto} (C : Ok LY X RL cL_law 4 200) (S : SC X Ls xs) (hi : 0 ≤ i ∧ i + 6 ≤ Ls ∧ (Ls : Int) ≤ 3072) (h : Inv s) (kk : ∀ s' : Sto, Inv s' → G LY X 1091 [rv 600, rv 0, rv 75, iv i] [] s') : G LY X 548 [rv 600, rv 0, rv 75, iv i] [] s := by
  obtain ⟨d1, d2, Q1, l1, l2, c1, k1⟩ := op_of h (oI_rg (xs (i + 1).toNat)) (oI_rg (xs (i + 2).toNat))
  refine G_aload_n C dL_law_548 rfl ?_
  refine G_aload_n C dL_law_549 rfl ?_
  refine G_iload_n C dL_law_550 rfl ?_
  refine G_iconst C dL_law_551 ?_
  refine G_iadd C dL_law_552 ?_
  refine G_sld C S (by omega) dL_law_553 ?_
  refine G_aload_n C dL_law_554 rfl ?_
  refine G_iload_n C dL_law_555 rfl ?_
  refine G_iconst C dL_law_556 ?_
  refine G_iadd C dL_law_557 ?_
  refine G_sld C S (by omega) dL_law_558 ?_
  refine G_callVI (K := []) (args := [.inl _, .inl _]) (T := TX11) (N := 10) C ly_0 rfl (Nat.le_of_ble_eq_true rfl) mo_X11_of wc_L_69 rfl dL_law_559 ⟨d1, Q1, l1, c1, fun _ _ q => q⟩ (fun r1 s1 q1 => ?_)
  obtain ⟨w1, w2⟩ := k1 r1 s1 q1
  refine G_aload_n C dL_law_562 rfl ?_
  refine G_aload_n C dL_law_563 rfl ?_
  refine G_iload_n C dL_law_564 rfl ?_
  refine G_iconst C dL_law_565 ?_
  refine G_iadd C dL_law_566 ?_
  refine G_sld C S (by omega) dL_law_567 ?_
  refine G_aload_n C dL_law_568 rfl ?_
  refine G_iload_n C dL_law_569 rfl ?_
  refine G_iconst C dL_law_570 ?_
  refine G_iadd C dL_law_571 ?_
  refine G_sld C S (by omega) dL_law_572 ?_
  refine G_callVI (K := [.inl r1]) (args := [.inl _, .inl _]) (T := TX12) (N := 72) C ly_75 rfl (Nat.le_of_ble_eq_true rfl) mo_X12_of wc_L_73 rfl dL_law_573 ⟨d2, _, l2, w2, fun _ _ q => q⟩ (fun r2 s2 q2 => ?_)
  refine G_icmp_eq (tgt := 1091) C dL_law_576 (by decide) ⟨w1, by rw [q2.1]; exact w1⟩ (fun _ => kk s2 q2.2) (fun z => absurd q2.1.symm z)
theorem law_c13 [Inhabited YT] {X : Cx} {Ls : Nat} {xs : Nat → Int32} {i : Int} {s : Sto} (C : Ok LY X RL cL_law 4 200) (S : SC X Ls xs) (hi : 0 ≤ i ∧ i + 6 ≤ Ls ∧ (Ls : Int) ≤ 3072) (h : Inv s) (kk : ∀ s' : Sto, Inv s' → G LY X 1091 [rv 600, rv 0, rv 75, iv i] [] s') : G LY X 581 [rv 600, rv 0, rv 75, iv i] [] s := by
  obtain ⟨d1, d2, Q1, l1, l2, c1, k1⟩ := op_worth h (oI_rg (xs (i + 1).toNat)) (oI_rg (xs (i + 2).toNat))
  refine G_aload_n C dL_law_581 rfl ?_
  refine G_aload_n C dL_law_582 rfl ?_
  refine G_iload_n C dL_law_583 rfl ?_
  refine G_iconst C dL_law_584 ?_
  refine G_iadd C dL_law_585 ?_
  refine G_sld C S (by omega) dL_law_586 ?_
  refine G_aload_n C dL_law_587 rfl ?_
  refine G_iload_n C dL_law_588 rfl ?_
  refine G_iconst C dL_law_589 ?_
  refine G_iadd C dL_law_590 ?_
  refine G_sld C S (by omega) dL_law_591 ?_
  refine G_callVI (K := []) (args := [.inl _, .inl _]) (T := TX11) (N := 10) C ly_0 rfl (Nat.le_of_ble_eq_true rfl) mo_X11_worth wc_L_74 rfl dL_law_592 ⟨d1, Q1, l1, c1, fun _ _ q => q⟩ (fun r1 s1 q1 => ?_)
  obtain ⟨w1, w2⟩ := k1 r1 s1 q1
  refine G_aload_n C dL_law_595 rfl ?_
  refine G_aload_n C dL_law_596 rfl ?_
  refine G_iload_n C dL_law_597 rfl ?_
  refine G_iconst C dL_law_598 ?_
  refine G_iadd C dL_law_599 ?_
  refine G_sld C S (by omega) dL_law_600 ?_
  refine G_aload_n C dL_law_601 rfl ?_
  refine G_iload_n C dL_law_602 rfl ?_
  refine G_iconst C dL_law_603 ?_
  refine G_iadd C dL_law_604 ?_
  refine G_sld C S (by omega) dL_law_605 ?_
  refine G_callVI (K := [.inl r1]) (args := [.inl _, .inl _]) (T := TX12) (N := 72) C ly_75 rfl (Nat.le_of_ble_eq_true rfl) mo_X12_worth wc_L_77 rfl dL_law_606 ⟨d2, _, l2, w2, fun _ _ q => q⟩ (fun r2 s2 q2 => ?_)
  refine G_icmp_eq (tgt := 1091) C dL_law_609 (by decide) ⟨w1, by rw [q2.1]; exact w1⟩ (fun _ => kk s2 q2.2) (fun z => absurd q2.1.symm z)
theorem law_c14 [Inhabited YT] {X : Cx} {Ls : Nat} {xs : Nat → Int32} {i : Int} {s : Sto} (C : Ok LY X RL cL_law 4 200) (S : SC X Ls xs) (hi : 0 ≤ i ∧ i + 6 ≤ Ls ∧ (Ls : Int) ≤ 3072) (h : Inv s) (kk : ∀ s' : Sto, Inv s' → G LY X 1091 [rv 600, rv 0, rv 75, iv i] [] s') : G LY X 614 [rv 600, rv 0, rv 75, iv i] [] s := by
  obtain ⟨d1, d2, Q1, l1, l2, c1, k1⟩ := op_expected h (oI_rg (xs (i + 1).toNat)) (oI_rg (xs (i + 2).toNat))
  refine G_aload_n C dL_law_614 rfl ?_
  refine G_aload_n C dL_law_615 rfl ?_
  refine G_iload_n C dL_law_616 rfl ?_
  refine G_iconst C dL_law_617 ?_
  refine G_iadd C dL_law_618 ?_
  refine G_sld C S (by omega) dL_law_619 ?_
  refine G_aload_n C dL_law_620 rfl ?_
  refine G_iload_n C dL_law_621 rfl ?_
  refine G_iconst C dL_law_622 ?_
  refine G_iadd C dL_law_623 ?_
  refine G_sld C S (by omega) dL_law_624 ?_
  refine G_callVI (K := []) (args := [.inl _, .inl _]) (T := TX11) (N := 10) C ly_0 rfl (Nat.le_of_ble_eq_true rfl) mo_X11_expected wc_L_78 rfl dL_law_625 ⟨d1, Q1, l1, c1, fun _ _ q => q⟩ (fun r1 s1 q1 => ?_)
  obtain ⟨w1, w2⟩ := k1 r1 s1 q1
  refine G_aload_n C dL_law_628 rfl ?_
  refine G_aload_n C dL_law_629 rfl ?_
  refine G_iload_n C dL_law_630 rfl ?_
  refine G_iconst C dL_law_631 ?_
  refine G_iadd C dL_law_632 ?_
  refine G_sld C S (by omega) dL_law_633 ?_
  refine G_aload_n C dL_law_634 rfl ?_
  refine G_iload_n C dL_law_635 rfl ?_
  refine G_iconst C dL_law_636 ?_
  refine G_iadd C dL_law_637 ?_
  refine G_sld C S (by omega) dL_law_638 ?_
  refine G_callVI (K := [.inl r1]) (args := [.inl _, .inl _]) (T := TX12) (N := 72) C ly_75 rfl (Nat.le_of_ble_eq_true rfl) mo_X12_expected wc_L_81 rfl dL_law_639 ⟨d2, _, l2, w2, fun _ _ q => q⟩ (fun r2 s2 q2 => ?_)
  refine G_icmp_eq (tgt := 1091) C dL_law_642 (by decide) ⟨w1, by rw [q2.1]; exact w1⟩ (fun _ => kk s2 q2.2) (fun z => absurd q2.1.symm z)
theorem law_c15 [Inhabited YT] {X : Cx} {Ls : Nat} {xs : Nat → Int32} {i : Int} {s : Sto} (C : Ok LY X RL cL_law 4 200) (S : SC X Ls xs) (hi : 0 ≤ i ∧ i + 6 ≤ Ls ∧ (Ls : Int) ≤ 3072) (h : Inv s) (kk : ∀ s' : Sto, Inv s' → G LY X 1091 [rv 600, rv 0, rv 75, iv i] [] s') : G LY X 647 [rv 600, rv 0, rv 75, iv i] [] s := by
  obtain ⟨d1, d2, Q1, l1, l2, c1, k1⟩ := op_with h (oI_rg (xs (i + 1).toNat)) (oI_rg (xs (i + 2).toNat))
  refine G_aload_n C dL_law_647 rfl ?_
  refine G_aload_n C dL_law_648 rfl ?_
  refine G_iload_n C dL_law_649 rfl ?_
  refine G_iconst C dL_law_650 ?_
  refine G_iadd C dL_law_651 ?_
  refine G_sld C S (by omega) dL_law_652 ?_
  refine G_aload_n C dL_law_653 rfl ?_
  refine G_iload_n C dL_law_654 rfl ?_
  refine G_iconst C dL_law_655 ?_
  refine G_iadd C dL_law_656 ?_
  refine G_sld C S (by omega) dL_law_657 ?_
  refine G_callVI (K := []) (args := [.inl _, .inl _]) (T := TX11) (N := 10) C ly_0 rfl (Nat.le_of_ble_eq_true rfl) mo_X11_with wc_L_82 rfl dL_law_658 ⟨d1, Q1, l1, c1, fun _ _ q => q⟩ (fun r1 s1 q1 => ?_)
  obtain ⟨w1, w2⟩ := k1 r1 s1 q1
  refine G_aload_n C dL_law_661 rfl ?_
  refine G_aload_n C dL_law_662 rfl ?_
  refine G_iload_n C dL_law_663 rfl ?_
  refine G_iconst C dL_law_664 ?_
  refine G_iadd C dL_law_665 ?_
  refine G_sld C S (by omega) dL_law_666 ?_
  refine G_aload_n C dL_law_667 rfl ?_
  refine G_iload_n C dL_law_668 rfl ?_
  refine G_iconst C dL_law_669 ?_
  refine G_iadd C dL_law_670 ?_
  refine G_sld C S (by omega) dL_law_671 ?_
  refine G_callVI (K := [.inl r1]) (args := [.inl _, .inl _]) (T := TX12) (N := 72) C ly_75 rfl (Nat.le_of_ble_eq_true rfl) mo_X12_with wc_L_85 rfl dL_law_672 ⟨d2, _, l2, w2, fun _ _ q => q⟩ (fun r2 s2 q2 => ?_)
  refine G_icmp_eq (tgt := 1091) C dL_law_675 (by decide) ⟨w1, by rw [q2.1]; exact w1⟩ (fun _ => kk s2 q2.2) (fun z => absurd q2.1.symm z)
theorem law_c16 [Inhabited YT] {X : Cx} {Ls : Nat} {xs : Nat → Int32} {i : Int} {s : Sto} (C : Ok LY X RL cL_law 4 200) (S : SC X Ls xs) (hi : 0 ≤ i ∧ i + 6 ≤ Ls ∧ (Ls : Int) ≤ 3072) (h : Inv s) (kk : ∀ s' : Sto, Inv s' → G LY X 1091 [rv 600, rv 0, rv 75, iv i] [] s') : G LY X 680 [rv 600, rv 0, rv 75, iv i] [] s := by
  obtain ⟨d1, d2, Q1, l1, l2, c1, k1⟩ := op_sell h 
  refine G_aload_n C dL_law_680 rfl ?_
  refine G_callVI (K := []) (args := []) (T := TX11) (N := 10) C ly_0 rfl (Nat.le_of_ble_eq_true rfl) mo_X11_sell wc_L_86 rfl dL_law_681 ⟨d1, Q1, l1, c1, fun _ _ q => q⟩ (fun r1 s1 q1 => ?_)
  obtain ⟨w1, w2⟩ := k1 r1 s1 q1
  refine G_aload_n C dL_law_684 rfl ?_
  refine G_callVI (K := [.inl r1]) (args := []) (T := TX12) (N := 72) C ly_75 rfl (Nat.le_of_ble_eq_true rfl) mo_X12_sell wc_L_89 rfl dL_law_685 ⟨d2, _, l2, w2, fun _ _ q => q⟩ (fun r2 s2 q2 => ?_)
  refine G_icmp_eq (tgt := 1091) C dL_law_688 (by decide) ⟨w1, by rw [q2.1]; exact w1⟩ (fun _ => kk s2 q2.2) (fun z => absurd q2.1.symm z)
theorem law_c17 [Inhabited YT] {X : Cx} {Ls : Nat} {xs : Nat → Int32} {i : Int} {s : Sto} (C : Ok LY X RL cL_law 4 200) (S : SC X Ls xs) (hi : 0 ≤ i ∧ i + 6 ≤ Ls ∧ (Ls : Int) ≤ 3072) (h : Inv s) (kk : ∀ s' : Sto, Inv s' → G LY X 1091 [rv 600, rv 0, rv 75, iv i] [] s') : G LY X 693 [rv 600, rv 0, rv 75, iv i] [] s := by
  obtain ⟨d1, d2, Q1, l1, l2, c1, k1⟩ := op_take h (oI_rg (xs (i + 1).toNat)) (oI_rg (xs (i + 2).toNat))
  refine G_aload_n C dL_law_693 rfl ?_
  refine G_aload_n C dL_law_694 rfl ?_
  refine G_iload_n C dL_law_695 rfl ?_
  refine G_iconst C dL_law_696 ?_
  refine G_iadd C dL_law_697 ?_
  refine G_sld C S (by omega) dL_law_698 ?_
  refine G_aload_n C dL_law_699 rfl ?_
  refine G_iload_n C dL_law_700 rfl ?_
  refine G_iconst C dL_law_701 ?_
  refine G_iadd C dL_law_702 ?_
  refine G_sld C S (by omega) dL_law_703 ?_
  refine G_callVI (K := []) (args := [.inl _, .inl _]) (T := TX11) (N := 10) C ly_0 rfl (Nat.le_of_ble_eq_true rfl) mo_X11_take wc_L_90 rfl dL_law_704 ⟨d1, Q1, l1, c1, fun _ _ q => q⟩ (fun r1 s1 q1 => ?_)
  obtain ⟨w1, w2⟩ := k1 r1 s1 q1
  refine G_aload_n C dL_law_707 rfl ?_
  refine G_aload_n C dL_law_708 rfl ?_
  refine G_iload_n C dL_law_709 rfl ?_
  refine G_iconst C dL_law_710 ?_
  refine G_iadd C dL_law_711 ?_
  refine G_sld C S (by omega) dL_law_712 ?_
  refine G_aload_n C dL_law_713 rfl ?_
  refine G_iload_n C dL_law_714 rfl ?_
  refine G_iconst C dL_law_715 ?_
  refine G_iadd C dL_law_716 ?_
  refine G_sld C S (by omega) dL_law_717 ?_
  refine G_callVI (K := [.inl r1]) (args := [.inl _, .inl _]) (T := TX12) (N := 72) C ly_75 rfl (Nat.le_of_ble_eq_true rfl) mo_X12_take wc_L_93 rfl dL_law_718 ⟨d2, _, l2, w2, fun _ _ q => q⟩ (fun r2 s2 q2 => ?_)
  refine G_icmp_eq (tgt := 1091) C dL_law_721 (by decide) ⟨w1, by rw [q2.1]; exact w1⟩ (fun _ => kk s2 q2.2) (fun z => absurd q2.1.symm z)
theorem law_c18 [Inhabited YT] {X : Cx} {Ls : Nat} {xs : Nat → Int32} {i : Int} {s : Sto} (C : Ok LY X RL cL_law 4 200) (S : SC X Ls xs) (hi : 0 ≤ i ∧ i + 6 ≤ Ls ∧ (Ls : Int) ≤ 3072) (h : Inv s) (kk : ∀ s' : Sto, Inv s' → G LY X 1091 [rv 600, rv 0, rv 75, iv i] [] s') : G LY X 726 [rv 600, rv 0, rv 75, iv i] [] s := by
  obtain ⟨d1, d2, Q1, l1, l2, c1, k1⟩ := op_rest h (oI_rg (xs (i + 1).toNat))
  refine G_aload_n C dL_law_726 rfl ?_
  refine G_aload_n C dL_law_727 rfl ?_
  refine G_iload_n C dL_law_728 rfl ?_
  refine G_iconst C dL_law_729 ?_
  refine G_iadd C dL_law_730 ?_
  refine G_sld C S (by omega) dL_law_731 ?_
  refine G_callVI (K := []) (args := [.inl _]) (T := TX11) (N := 10) C ly_0 rfl (Nat.le_of_ble_eq_true rfl) mo_X11_rest wc_L_94 rfl dL_law_732 ⟨d1, Q1, l1, c1, fun _ _ q => q⟩ (fun r1 s1 q1 => ?_)
  obtain ⟨w1, w2⟩ := k1 r1 s1 q1
  refine G_aload_n C dL_law_735 rfl ?_
  refine G_aload_n C dL_law_736 rfl ?_
  refine G_iload_n C dL_law_737 rfl ?_
  refine G_iconst C dL_law_738 ?_
  refine G_iadd C dL_law_739 ?_
  refine G_sld C S (by omega) dL_law_740 ?_
  refine G_callVI (K := [.inl r1]) (args := [.inl _]) (T := TX12) (N := 72) C ly_75 rfl (Nat.le_of_ble_eq_true rfl) mo_X12_rest wc_L_97 rfl dL_law_741 ⟨d2, _, l2, w2, fun _ _ q => q⟩ (fun r2 s2 q2 => ?_)
  refine G_icmp_eq (tgt := 1091) C dL_law_744 (by decide) ⟨w1, by rw [q2.1]; exact w1⟩ (fun _ => kk s2 q2.2) (fun z => absurd q2.1.symm z)
theorem law_c19 [Inhabited YT] {X : Cx} {Ls : Nat} {xs : Nat → Int32} {i : Int} {s : Sto} (C : Ok LY X RL cL_law 4 200) (S : SC X Ls xs) (hi : 0 ≤ i ∧ i + 6 ≤ Ls ∧ (Ls : Int) ≤ 3072) (h : Inv s) (kk : ∀ s' : Sto, Inv s' → G LY X 1091 [rv 600, rv 0, rv 75, iv i] [] s') : G LY X 749 [rv 600, rv 0, rv 75, iv i] [] s := by
  obtain ⟨d1, d2, Q1, l1, l2, c1, k1⟩ := op_wed h (oI_rg (xs (i + 1).toNat)) (oI_rg (xs (i + 2).toNat))
  refine G_aload_n C dL_law_749 rfl ?_
  refine G_aload_n C dL_law_750 rfl ?_
  refine G_iload_n C dL_law_751 rfl ?_
  refine G_iconst C dL_law_752 ?_
  refine G_iadd C dL_law_753 ?_
  refine G_sld C S (by omega) dL_law_754 ?_
  refine G_aload_n C dL_law_755 rfl ?_
  refine G_iload_n C dL_law_756 rfl ?_
  refine G_iconst C dL_law_757 ?_
  refine G_iadd C dL_law_758 ?_
  refine G_sld C S (by omega) dL_law_759 ?_
  refine G_callVI (K := []) (args := [.inl _, .inl _]) (T := TX11) (N := 10) C ly_0 rfl (Nat.le_of_ble_eq_true rfl) mo_X11_wed wc_L_98 rfl dL_law_760 ⟨d1, Q1, l1, c1, fun _ _ q => q⟩ (fun r1 s1 q1 => ?_)
  obtain ⟨w1, w2⟩ := k1 r1 s1 q1
  refine G_aload_n C dL_law_763 rfl ?_
  refine G_aload_n C dL_law_764 rfl ?_
  refine G_iload_n C dL_law_765 rfl ?_
  refine G_iconst C dL_law_766 ?_
  refine G_iadd C dL_law_767 ?_
  refine G_sld C S (by omega) dL_law_768 ?_
  refine G_aload_n C dL_law_769 rfl ?_
  refine G_iload_n C dL_law_770 rfl ?_
  refine G_iconst C dL_law_771 ?_
  refine G_iadd C dL_law_772 ?_
  refine G_sld C S (by omega) dL_law_773 ?_
  refine G_callVI (K := [.inl r1]) (args := [.inl _, .inl _]) (T := TX12) (N := 72) C ly_75 rfl (Nat.le_of_ble_eq_true rfl) mo_X12_wed wc_L_101 rfl dL_law_774 ⟨d2, _, l2, w2, fun _ _ q => q⟩ (fun r2 s2 q2 => ?_)
  refine G_icmp_eq (tgt := 1091) C dL_law_777 (by decide) ⟨w1, by rw [q2.1]; exact w1⟩ (fun _ => kk s2 q2.2) (fun z => absurd q2.1.symm z)
theorem law_c20 [Inhabited YT] {X : Cx} {Ls : Nat} {xs : Nat → Int32} {i : Int} {s : Sto} (C : Ok LY X RL cL_law 4 200) (S : SC X Ls xs) (hi : 0 ≤ i ∧ i + 6 ≤ Ls ∧ (Ls : Int) ≤ 3072) (h : Inv s) (kk : ∀ s' : Sto, Inv s' → G LY X 1091 [rv 600, rv 0, rv 75, iv i] [] s') : G LY X 782 [rv 600, rv 0, rv 75, iv i] [] s := by
  obtain ⟨d1, d2, Q1, l1, l2, c1, k1⟩ := op_voter h (oI_rg (xs (i + 1).toNat)) (oI_rg (xs (i + 2).toNat))
  refine G_aload_n C dL_law_782 rfl ?_
  refine G_aload_n C dL_law_783 rfl ?_
  refine G_iload_n C dL_law_784 rfl ?_
  refine G_iconst C dL_law_785 ?_
  refine G_iadd C dL_law_786 ?_
  refine G_sld C S (by omega) dL_law_787 ?_
  refine G_aload_n C dL_law_788 rfl ?_
  refine G_iload_n C dL_law_789 rfl ?_
  refine G_iconst C dL_law_790 ?_
  refine G_iadd C dL_law_791 ?_
  refine G_sld C S (by omega) dL_law_792 ?_
  refine G_callVI (K := []) (args := [.inl _, .inl _]) (T := TX11) (N := 10) C ly_0 rfl (Nat.le_of_ble_eq_true rfl) mo_X11_voter wc_L_102 rfl dL_law_793 ⟨d1, Q1, l1, c1, fun _ _ q => q⟩ (fun r1 s1 q1 => ?_)
  obtain ⟨w1, w2⟩ := k1 r1 s1 q1
  refine G_aload_n C dL_law_796 rfl ?_
  refine G_aload_n C dL_law_797 rfl ?_
  refine G_iload_n C dL_law_798 rfl ?_
  refine G_iconst C dL_law_799 ?_
  refine G_iadd C dL_law_800 ?_
  refine G_sld C S (by omega) dL_law_801 ?_
  refine G_aload_n C dL_law_802 rfl ?_
  refine G_iload_n C dL_law_803 rfl ?_
  refine G_iconst C dL_law_804 ?_
  refine G_iadd C dL_law_805 ?_
  refine G_sld C S (by omega) dL_law_806 ?_
  refine G_callVI (K := [.inl r1]) (args := [.inl _, .inl _]) (T := TX12) (N := 72) C ly_75 rfl (Nat.le_of_ble_eq_true rfl) mo_X12_voter wc_L_105 rfl dL_law_807 ⟨d2, _, l2, w2, fun _ _ q => q⟩ (fun r2 s2 q2 => ?_)
  refine G_icmp_eq (tgt := 1091) C dL_law_810 (by decide) ⟨w1, by rw [q2.1]; exact w1⟩ (fun _ => kk s2 q2.2) (fun z => absurd q2.1.symm z)
theorem law_c21 [Inhabited YT] {X : Cx} {Ls : Nat} {xs : Nat → Int32} {i : Int} {s : Sto} (C : Ok LY X RL cL_law 4 200) (S : SC X Ls xs) (hi : 0 ≤ i ∧ i + 6 ≤ Ls ∧ (Ls : Int) ≤ 3072) (h : Inv s) (kk : ∀ s' : Sto, Inv s' → G LY X 1091 [rv 600, rv 0, rv 75, iv i] [] s') : G LY X 815 [rv 600, rv 0, rv 75, iv i] [] s := by
  obtain ⟨d1, d2, Q1, l1, l2, c1, k1⟩ := op_over h (oI_rg (xs (i + 1).toNat)) (oI_rg (xs (i + 2).toNat))
  refine G_aload_n C dL_law_815 rfl ?_
  refine G_aload_n C dL_law_816 rfl ?_
  refine G_iload_n C dL_law_817 rfl ?_
  refine G_iconst C dL_law_818 ?_
  refine G_iadd C dL_law_819 ?_
  refine G_sld C S (by omega) dL_law_820 ?_
  refine G_aload_n C dL_law_821 rfl ?_
  refine G_iload_n C dL_law_822 rfl ?_
  refine G_iconst C dL_law_823 ?_
  refine G_iadd C dL_law_824 ?_
  refine G_sld C S (by omega) dL_law_825 ?_
  refine G_callVI (K := []) (args := [.inl _, .inl _]) (T := TX11) (N := 10) C ly_0 rfl (Nat.le_of_ble_eq_true rfl) mo_X11_over wc_L_106 rfl dL_law_826 ⟨d1, Q1, l1, c1, fun _ _ q => q⟩ (fun r1 s1 q1 => ?_)
  obtain ⟨w1, w2⟩ := k1 r1 s1 q1
  refine G_aload_n C dL_law_829 rfl ?_
  refine G_aload_n C dL_law_830 rfl ?_
  refine G_iload_n C dL_law_831 rfl ?_
  refine G_iconst C dL_law_832 ?_
  refine G_iadd C dL_law_833 ?_
  refine G_sld C S (by omega) dL_law_834 ?_
  refine G_aload_n C dL_law_835 rfl ?_
  refine G_iload_n C dL_law_836 rfl ?_
  refine G_iconst C dL_law_837 ?_
  refine G_iadd C dL_law_838 ?_
  refine G_sld C S (by omega) dL_law_839 ?_
  refine G_callVI (K := [.inl r1]) (args := [.inl _, .inl _]) (T := TX12) (N := 72) C ly_75 rfl (Nat.le_of_ble_eq_true rfl) mo_X12_over wc_L_109 rfl dL_law_840 ⟨d2, _, l2, w2, fun _ _ q => q⟩ (fun r2 s2 q2 => ?_)
  refine G_icmp_eq (tgt := 1091) C dL_law_843 (by decide) ⟨w1, by rw [q2.1]; exact w1⟩ (fun _ => kk s2 q2.2) (fun z => absurd q2.1.symm z)
theorem law_c22 [Inhabited YT] {X : Cx} {Ls : Nat} {xs : Nat → Int32} {i : Int} {s : Sto} (C : Ok LY X RL cL_law 4 200) (S : SC X Ls xs) (hi : 0 ≤ i ∧ i + 6 ≤ Ls ∧ (Ls : Int) ≤ 3072) (h : Inv s) (kk : ∀ s' : Sto, Inv s' → G LY X 1091 [rv 600, rv 0, rv 75, iv i] [] s') : G LY X 848 [rv 600, rv 0, rv 75, iv i] [] s := by
  obtain ⟨d1, d2, Q1, l1, l2, c1, k1⟩ := op_vote h (oI_rg (xs (i + 1).toNat)) (oI_rg (xs (i + 2).toNat))
  refine G_aload_n C dL_law_848 rfl ?_
  refine G_aload_n C dL_law_849 rfl ?_
  refine G_iload_n C dL_law_850 rfl ?_
  refine G_iconst C dL_law_851 ?_
  refine G_iadd C dL_law_852 ?_
  refine G_sld C S (by omega) dL_law_853 ?_
  refine G_aload_n C dL_law_854 rfl ?_
  refine G_iload_n C dL_law_855 rfl ?_
  refine G_iconst C dL_law_856 ?_
  refine G_iadd C dL_law_857 ?_
  refine G_sld C S (by omega) dL_law_858 ?_
  refine G_callVI (K := []) (args := [.inl _, .inl _]) (T := TX11) (N := 10) C ly_0 rfl (Nat.le_of_ble_eq_true rfl) mo_X11_vote wc_L_110 rfl dL_law_859 ⟨d1, Q1, l1, c1, fun _ _ q => q⟩ (fun r1 s1 q1 => ?_)
  obtain ⟨w1, w2⟩ := k1 r1 s1 q1
  refine G_aload_n C dL_law_862 rfl ?_
  refine G_aload_n C dL_law_863 rfl ?_
  refine G_iload_n C dL_law_864 rfl ?_
  refine G_iconst C dL_law_865 ?_
  refine G_iadd C dL_law_866 ?_
  refine G_sld C S (by omega) dL_law_867 ?_
  refine G_aload_n C dL_law_868 rfl ?_
  refine G_iload_n C dL_law_869 rfl ?_
  refine G_iconst C dL_law_870 ?_
  refine G_iadd C dL_law_871 ?_
  refine G_sld C S (by omega) dL_law_872 ?_
  refine G_callVI (K := [.inl r1]) (args := [.inl _, .inl _]) (T := TX12) (N := 72) C ly_75 rfl (Nat.le_of_ble_eq_true rfl) mo_X12_vote wc_L_113 rfl dL_law_873 ⟨d2, _, l2, w2, fun _ _ q => q⟩ (fun r2 s2 q2 => ?_)
  refine G_icmp_eq (tgt := 1091) C dL_law_876 (by decide) ⟨w1, by rw [q2.1]; exact w1⟩ (fun _ => kk s2 q2.2) (fun z => absurd q2.1.symm z)
theorem law_c23 [Inhabited YT] {X : Cx} {Ls : Nat} {xs : Nat → Int32} {i : Int} {s : Sto} (C : Ok LY X RL cL_law 4 200) (S : SC X Ls xs) (hi : 0 ≤ i ∧ i + 6 ≤ Ls ∧ (Ls : Int) ≤ 3072) (h : Inv s) (kk : ∀ s' : Sto, Inv s' → G LY X 1091 [rv 600, rv 0, rv 75, iv i] [] s') : G LY X 881 [rv 600, rv 0, rv 75, iv i] [] s := by
  obtain ⟨d1, d2, Q1, l1, l2, c1, k1⟩ := op_circle h 
  refine G_aload_n C dL_law_881 rfl ?_
  refine G_callVI (K := []) (args := []) (T := TX11) (N := 10) C ly_0 rfl (Nat.le_of_ble_eq_true rfl) mo_X11_circle wc_L_114 rfl dL_law_882 ⟨d1, Q1, l1, c1, fun _ _ q => q⟩ (fun r1 s1 q1 => ?_)
  obtain ⟨w1, w2⟩ := k1 r1 s1 q1
  refine G_aload_n C dL_law_885 rfl ?_
  refine G_callVI (K := [.inl r1]) (args := []) (T := TX12) (N := 72) C ly_75 rfl (Nat.le_of_ble_eq_true rfl) mo_X12_circle wc_L_117 rfl dL_law_886 ⟨d2, _, l2, w2, fun _ _ q => q⟩ (fun r2 s2 q2 => ?_)
  refine G_icmp_eq (tgt := 1091) C dL_law_889 (by decide) ⟨w1, by rw [q2.1]; exact w1⟩ (fun _ => kk s2 q2.2) (fun z => absurd q2.1.symm z)
theorem law_c24 [Inhabited YT] {X : Cx} {Ls : Nat} {xs : Nat → Int32} {i : Int} {s : Sto} (C : Ok LY X RL cL_law 4 200) (S : SC X Ls xs) (hi : 0 ≤ i ∧ i + 6 ≤ Ls ∧ (Ls : Int) ≤ 3072) (h : Inv s) (kk : ∀ s' : Sto, Inv s' → G LY X 1091 [rv 600, rv 0, rv 75, iv i] [] s') : G LY X 894 [rv 600, rv 0, rv 75, iv i] [] s := by
  obtain ⟨d1, d2, Q1, l1, l2, c1, k1⟩ := op_buy h (oI_rg (xs (i + 1).toNat)) (oI_rg (xs (i + 2).toNat)) (oI_rg (xs (i + 3).toNat)) (oI_rg (xs (i + 4).toNat))
  refine G_aload_n C dL_law_894 rfl ?_
  refine G_aload_n C dL_law_895 rfl ?_
  refine G_iload_n C dL_law_896 rfl ?_
  refine G_iconst C dL_law_897 ?_
  refine G_iadd C dL_law_898 ?_
  refine G_sld C S (by omega) dL_law_899 ?_
  refine G_aload_n C dL_law_900 rfl ?_
  refine G_iload_n C dL_law_901 rfl ?_
  refine G_iconst C dL_law_902 ?_
  refine G_iadd C dL_law_903 ?_
  refine G_sld C S (by omega) dL_law_904 ?_
  refine G_aload_n C dL_law_905 rfl ?_
  refine G_iload_n C dL_law_906 rfl ?_
  refine G_iconst C dL_law_907 ?_
  refine G_iadd C dL_law_908 ?_
  refine G_sld C S (by omega) dL_law_909 ?_
  refine G_aload_n C dL_law_910 rfl ?_
  refine G_iload_n C dL_law_911 rfl ?_
  refine G_iconst C dL_law_912 ?_
  refine G_iadd C dL_law_913 ?_
  refine G_sld C S (by omega) dL_law_914 ?_
  refine G_callVI (K := []) (args := [.inl _, .inl _, .inl _, .inl _]) (T := TX11) (N := 10) C ly_0 rfl (Nat.le_of_ble_eq_true rfl) mo_X11_buy wc_L_118 rfl dL_law_915 ⟨d1, Q1, l1, c1, fun _ _ q => q⟩ (fun r1 s1 q1 => ?_)
  obtain ⟨w1, w2⟩ := k1 r1 s1 q1
  refine G_aload_n C dL_law_918 rfl ?_
  refine G_aload_n C dL_law_919 rfl ?_
  refine G_iload_n C dL_law_920 rfl ?_
  refine G_iconst C dL_law_921 ?_
  refine G_iadd C dL_law_922 ?_
  refine G_sld C S (by omega) dL_law_923 ?_
  refine G_aload_n C dL_law_924 rfl ?_
  refine G_iload_n C dL_law_925 rfl ?_
  refine G_iconst C dL_law_926 ?_
  refine G_iadd C dL_law_927 ?_
  refine G_sld C S (by omega) dL_law_928 ?_
  refine G_aload_n C dL_law_929 rfl ?_
  refine G_iload_n C dL_law_930 rfl ?_
  refine G_iconst C dL_law_931 ?_
  refine G_iadd C dL_law_932 ?_
  refine G_sld C S (by omega) dL_law_933 ?_
  refine G_aload_n C dL_law_934 rfl ?_
  refine G_iload_n C dL_law_935 rfl ?_
  refine G_iconst C dL_law_936 ?_
  refine G_iadd C dL_law_937 ?_
  refine G_sld C S (by omega) dL_law_938 ?_
  refine G_callVI (K := [.inl r1]) (args := [.inl _, .inl _, .inl _, .inl _]) (T := TX12) (N := 72) C ly_75 rfl (Nat.le_of_ble_eq_true rfl) mo_X12_buy wc_L_122 rfl dL_law_939 ⟨d2, _, l2, w2, fun _ _ q => q⟩ (fun r2 s2 q2 => ?_)
  refine G_icmp_eq (tgt := 1091) C dL_law_942 (by decide) ⟨w1, by rw [q2.1]; exact w1⟩ (fun _ => kk s2 q2.2) (fun z => absurd q2.1.symm z)
theorem law_c25 [Inhabited YT] {X : Cx} {Ls : Nat} {xs : Nat → Int32} {i : Int} {s : Sto} (C : Ok LY X RL cL_law 4 200) (S : SC X Ls xs) (hi : 0 ≤ i ∧ i + 6 ≤ Ls ∧ (Ls : Int) ≤ 3072) (h : Inv s) (kk : ∀ s' : Sto, Inv s' → G LY X 1091 [rv 600, rv 0, rv 75, iv i] [] s') : G LY X 947 [rv 600, rv 0, rv 75, iv i] [] s := by
  obtain ⟨d1, d2, Q1, l1, l2, c1, k1⟩ := op_harm h 
  refine G_aload_n C dL_law_947 rfl ?_
  refine G_callVI (K := []) (args := []) (T := TX11) (N := 10) C ly_0 rfl (Nat.le_of_ble_eq_true rfl) mo_X11_harm wc_L_123 rfl dL_law_948 ⟨d1, Q1, l1, c1, fun _ _ q => q⟩ (fun r1 s1 q1 => ?_)
  obtain ⟨w1, w2⟩ := k1 r1 s1 q1
  refine G_aload_n C dL_law_951 rfl ?_
  refine G_callVI (K := [.inl r1]) (args := []) (T := TX12) (N := 72) C ly_75 rfl (Nat.le_of_ble_eq_true rfl) mo_X12_harm wc_L_126 rfl dL_law_952 ⟨d2, _, l2, w2, fun _ _ q => q⟩ (fun r2 s2 q2 => ?_)
  refine G_icmp_eq (tgt := 1091) C dL_law_955 (by decide) ⟨w1, by rw [q2.1]; exact w1⟩ (fun _ => kk s2 q2.2) (fun z => absurd q2.1.symm z)
theorem law_c26 [Inhabited YT] {X : Cx} {Ls : Nat} {xs : Nat → Int32} {i : Int} {s : Sto} (C : Ok LY X RL cL_law 4 200) (S : SC X Ls xs) (hi : 0 ≤ i ∧ i + 6 ≤ Ls ∧ (Ls : Int) ≤ 3072) (h : Inv s) (kk : ∀ s' : Sto, Inv s' → G LY X 1091 [rv 600, rv 0, rv 75, iv i] [] s') : G LY X 960 [rv 600, rv 0, rv 75, iv i] [] s := by
  obtain ⟨d1, d2, Q1, l1, l2, c1, k1⟩ := op_least h (oI_rg (xs (i + 1).toNat))
  refine G_aload_n C dL_law_960 rfl ?_
  refine G_aload_n C dL_law_961 rfl ?_
  refine G_iload_n C dL_law_962 rfl ?_
  refine G_iconst C dL_law_963 ?_
  refine G_iadd C dL_law_964 ?_
  refine G_sld C S (by omega) dL_law_965 ?_
  refine G_callVI (K := []) (args := [.inl _]) (T := TX11) (N := 10) C ly_0 rfl (Nat.le_of_ble_eq_true rfl) mo_X11_least wc_L_127 rfl dL_law_966 ⟨d1, Q1, l1, c1, fun _ _ q => q⟩ (fun r1 s1 q1 => ?_)
  obtain ⟨w1, w2⟩ := k1 r1 s1 q1
  refine G_aload_n C dL_law_969 rfl ?_
  refine G_aload_n C dL_law_970 rfl ?_
  refine G_iload_n C dL_law_971 rfl ?_
  refine G_iconst C dL_law_972 ?_
  refine G_iadd C dL_law_973 ?_
  refine G_sld C S (by omega) dL_law_974 ?_
  refine G_callVI (K := [.inl r1]) (args := [.inl _]) (T := TX12) (N := 72) C ly_75 rfl (Nat.le_of_ble_eq_true rfl) mo_X12_least wc_L_130 rfl dL_law_975 ⟨d2, _, l2, w2, fun _ _ q => q⟩ (fun r2 s2 q2 => ?_)
  refine G_icmp_eq (tgt := 1091) C dL_law_978 (by decide) ⟨w1, by rw [q2.1]; exact w1⟩ (fun _ => kk s2 q2.2) (fun z => absurd q2.1.symm z)
theorem law_c27 [Inhabited YT] {X : Cx} {Ls : Nat} {xs : Nat → Int32} {i : Int} {s : Sto} (C : Ok LY X RL cL_law 4 200) (S : SC X Ls xs) (hi : 0 ≤ i ∧ i + 6 ≤ Ls ∧ (Ls : Int) ≤ 3072) (h : Inv s) (kk : ∀ s' : Sto, Inv s' → G LY X 1091 [rv 600, rv 0, rv 75, iv i] [] s') : G LY X 983 [rv 600, rv 0, rv 75, iv i] [] s := by
  obtain ⟨d1, d2, Q1, l1, l2, c1, k1⟩ := op_anew h (oI_rg (xs (i + 1).toNat))
  refine G_aload_n C dL_law_983 rfl ?_
  refine G_aload_n C dL_law_984 rfl ?_
  refine G_iload_n C dL_law_985 rfl ?_
  refine G_iconst C dL_law_986 ?_
  refine G_iadd C dL_law_987 ?_
  refine G_sld C S (by omega) dL_law_988 ?_
  refine G_callVI (K := []) (args := [.inl _]) (T := TX11) (N := 10) C ly_0 rfl (Nat.le_of_ble_eq_true rfl) mo_X11_anew wc_L_131 rfl dL_law_989 ⟨d1, Q1, l1, c1, fun _ _ q => q⟩ (fun r1 s1 q1 => ?_)
  obtain ⟨w1, w2⟩ := k1 r1 s1 q1
  refine G_aload_n C dL_law_992 rfl ?_
  refine G_aload_n C dL_law_993 rfl ?_
  refine G_iload_n C dL_law_994 rfl ?_
  refine G_iconst C dL_law_995 ?_
  refine G_iadd C dL_law_996 ?_
  refine G_sld C S (by omega) dL_law_997 ?_
  refine G_callVI (K := [.inl r1]) (args := [.inl _]) (T := TX12) (N := 72) C ly_75 rfl (Nat.le_of_ble_eq_true rfl) mo_X12_anew wc_L_134 rfl dL_law_998 ⟨d2, _, l2, w2, fun _ _ q => q⟩ (fun r2 s2 q2 => ?_)
  refine G_icmp_eq (tgt := 1091) C dL_law_1001 (by decide) ⟨w1, by rw [q2.1]; exact w1⟩ (fun _ => kk s2 q2.2) (fun z => absurd q2.1.symm z)
theorem law_c28 {Y Y' : Inhabited YT} {X : Cx} {Ls : Nat} {xs : Nat → Int32} {i : Int} {s : Sto} (C : Ok LY X RL cL_law 4 200) (S : SC X Ls xs) (hi : 0 ≤ i ∧ i + 6 ≤ Ls ∧ (Ls : Int) ≤ 3072) (h : @Inv Y s) (hy1 : @yN Y + 60 ≤ @yN Y') (hy2 : @yN Y' ≤ 2147483000) (kk : ∀ s' : Sto, @Inv Y' s' → G LY X 1091 [rv 600, rv 0, rv 75, iv i] [] s') : G LY X 1006 [rv 600, rv 0, rv 75, iv i] [] s := by
  obtain ⟨d1, d2, Q1, l1, l2, c1, k1⟩ := op_years h hy1 hy2 (oI_rg (xs (i + 1).toNat))
  refine G_aload_n C dL_law_1006 rfl ?_
  refine G_aload_n C dL_law_1007 rfl ?_
  refine G_iload_n C dL_law_1008 rfl ?_
  refine G_iconst C dL_law_1009 ?_
  refine G_iadd C dL_law_1010 ?_
  refine G_sld C S (by omega) dL_law_1011 ?_
  refine G_callVI (K := []) (args := [.inl _]) (T := TX11) (N := 10) C ly_0 rfl (Nat.le_of_ble_eq_true rfl) mo_X11_years wc_L_135 rfl dL_law_1012 ⟨d1, Q1, l1, c1, fun _ _ q => q⟩ (fun r1 s1 q1 => ?_)
  obtain ⟨w1, w2⟩ := k1 r1 s1 q1
  refine G_aload_n C dL_law_1015 rfl ?_
  refine G_aload_n C dL_law_1016 rfl ?_
  refine G_iload_n C dL_law_1017 rfl ?_
  refine G_iconst C dL_law_1018 ?_
  refine G_iadd C dL_law_1019 ?_
  refine G_sld C S (by omega) dL_law_1020 ?_
  refine G_callVI (K := [.inl r1]) (args := [.inl _]) (T := TX12) (N := 72) C ly_75 rfl (Nat.le_of_ble_eq_true rfl) mo_X12_years wc_L_138 rfl dL_law_1021 ⟨d2, _, l2, w2, fun _ _ q => q⟩ (fun r2 s2 q2 => ?_)
  refine G_icmp_eq (tgt := 1091) C dL_law_1024 (by decide) ⟨w1, by rw [q2.1]; exact w1⟩ (fun _ => kk s2 q2.2) (fun z => absurd q2.1.symm z)
theorem law_c30 [Inhabited YT] {X : Cx} {Ls : Nat} {xs : Nat → Int32} {i : Int} {s : Sto} (C : Ok LY X RL cL_law 4 200) (S : SC X Ls xs) (hi : 0 ≤ i ∧ i + 6 ≤ Ls ∧ (Ls : Int) ≤ 3072) (h : Inv s) (kk : ∀ s' : Sto, Inv s' → G LY X 1091 [rv 600, rv 0, rv 75, iv i] [] s') : G LY X 1068 [rv 600, rv 0, rv 75, iv i] [] s := by
  obtain ⟨d1, d2, Q1, l1, l2, c1, k1⟩ := op_look h (oI_rg (xs (i + 1).toNat))
  refine G_aload_n C dL_law_1068 rfl ?_
  refine G_aload_n C dL_law_1069 rfl ?_
  refine G_iload_n C dL_law_1070 rfl ?_
  refine G_iconst C dL_law_1071 ?_
  refine G_iadd C dL_law_1072 ?_
  refine G_sld C S (by omega) dL_law_1073 ?_
  refine G_callVI (K := []) (args := [.inl _]) (T := TX11) (N := 10) C ly_0 rfl (Nat.le_of_ble_eq_true rfl) mo_X11_look wc_L_144 rfl dL_law_1074 ⟨d1, Q1, l1, c1, fun _ _ q => q⟩ (fun r1 s1 q1 => ?_)
  obtain ⟨w1, w2⟩ := k1 r1 s1 q1
  refine G_aload_n C dL_law_1077 rfl ?_
  refine G_aload_n C dL_law_1078 rfl ?_
  refine G_iload_n C dL_law_1079 rfl ?_
  refine G_iconst C dL_law_1080 ?_
  refine G_iadd C dL_law_1081 ?_
  refine G_sld C S (by omega) dL_law_1082 ?_
  refine G_callVI (K := [.inl r1]) (args := [.inl _]) (T := TX12) (N := 72) C ly_75 rfl (Nat.le_of_ble_eq_true rfl) mo_X12_look wc_L_147 rfl dL_law_1083 ⟨d2, _, l2, w2, fun _ _ q => q⟩ (fun r2 s2 q2 => ?_)
  refine G_icmp_eq (tgt := 1091) C dL_law_1086 (by decide) ⟨w1, by rw [q2.1]; exact w1⟩ (fun _ => kk s2 q2.2) (fun z => absurd q2.1.symm z)
theorem law_c29a [Inhabited YT] {X : Cx} {Ls : Nat} {xs : Nat → Int32} {i : Int} {s : Sto} (C : Ok LY X RL cL_law 4 200) (S : SC X Ls xs) (hi : 0 ≤ i ∧ i + 6 ≤ Ls ∧ (Ls : Int) ≤ 3072) (z : (xs (i + 1).toNat).toInt = 0) (h : Inv s) (kk : ∀ s' : Sto, Inv s' → G LY X 1091 [rv 600, rv 0, rv 75, iv i] [] s') : G LY X 1029 [rv 600, rv 0, rv 75, iv i] [] s := by
  obtain ⟨d1, d2, Q1, l1, l2, c1, k1⟩ := op_image h (t := 0) (by decide)
  refine G_aload_n C dL_law_1029 rfl ?_
  refine G_aload_n C dL_law_1030 rfl ?_
  refine G_iload_n C dL_law_1031 rfl ?_
  refine G_iconst C dL_law_1032 ?_
  refine G_iadd C dL_law_1033 ?_
  refine G_sld C S (by omega) dL_law_1034 ?_
  refine G_if_eq (tgt := 1042) C dL_law_1035 (by decide) (oI_rg _) (fun _ => ?_) (fun q => absurd z q)
  refine G_iconst C dL_law_1042 ?_
  refine G_callVI (K := []) (args := [.inl _]) (T := TX11) (N := 10) C ly_0 rfl (Nat.le_of_ble_eq_true rfl) mo_X11_image wc_L_139 rfl dL_law_1043 ⟨d1, Q1, l1, c1, fun _ _ q => q⟩ (fun r1 s1 q1 => ?_)
  obtain ⟨w1, w2⟩ := k1 r1 s1 q1
  refine G_aload_n C dL_law_1046 rfl ?_
  refine G_aload_n C dL_law_1047 rfl ?_
  refine G_iload_n C dL_law_1048 rfl ?_
  refine G_iconst C dL_law_1049 ?_
  refine G_iadd C dL_law_1050 ?_
  refine G_sld C S (by omega) dL_law_1051 ?_
  refine G_if_eq (tgt := 1059) C dL_law_1052 (by decide) (oI_rg _) (fun _ => ?_) (fun q => absurd z q)
  refine G_iconst C dL_law_1059 ?_
  refine G_callVI (K := [.inl r1]) (args := [.inl _]) (T := TX12) (N := 72) C ly_75 rfl (Nat.le_of_ble_eq_true rfl) mo_X12_image wc_L_143 rfl dL_law_1060 ⟨d2, _, l2, w2, fun _ _ q => q⟩ (fun r2 s2 q2 => ?_)
  refine G_icmp_eq (tgt := 1091) C dL_law_1063 (by decide) ⟨w1, by rw [q2.1]; exact w1⟩ (fun _ => kk s2 q2.2) (fun z => absurd q2.1.symm z)
theorem law_c29b [Inhabited YT] {X : Cx} {Ls : Nat} {xs : Nat → Int32} {i : Int} {s : Sto} (C : Ok LY X RL cL_law 4 200) (S : SC X Ls xs) (hi : 0 ≤ i ∧ i + 6 ≤ Ls ∧ (Ls : Int) ≤ 3072) (z : (xs (i + 1).toNat).toInt ≠ 0) (h : Inv s) (kk : ∀ s' : Sto, Inv s' → G LY X 1091 [rv 600, rv 0, rv 75, iv i] [] s') : G LY X 1029 [rv 600, rv 0, rv 75, iv i] [] s := by
  obtain ⟨d1, d2, Q1, l1, l2, c1, k1⟩ := op_image h (t := 1) (by decide)
  refine G_aload_n C dL_law_1029 rfl ?_
  refine G_aload_n C dL_law_1030 rfl ?_
  refine G_iload_n C dL_law_1031 rfl ?_
  refine G_iconst C dL_law_1032 ?_
  refine G_iadd C dL_law_1033 ?_
  refine G_sld C S (by omega) dL_law_1034 ?_
  refine G_if_eq (tgt := 1042) C dL_law_1035 (by decide) (oI_rg _) (fun q => absurd q z) (fun _ => ?_)
  refine G_iconst C dL_law_1038 ?_
  refine G_goto (tgt := 1043) C dL_law_1039 (by decide) ?_
  refine G_callVI (K := []) (args := [.inl _]) (T := TX11) (N := 10) C ly_0 rfl (Nat.le_of_ble_eq_true rfl) mo_X11_image wc_L_139 rfl dL_law_1043 ⟨d1, Q1, l1, c1, fun _ _ q => q⟩ (fun r1 s1 q1 => ?_)
  obtain ⟨w1, w2⟩ := k1 r1 s1 q1
  refine G_aload_n C dL_law_1046 rfl ?_
  refine G_aload_n C dL_law_1047 rfl ?_
  refine G_iload_n C dL_law_1048 rfl ?_
  refine G_iconst C dL_law_1049 ?_
  refine G_iadd C dL_law_1050 ?_
  refine G_sld C S (by omega) dL_law_1051 ?_
  refine G_if_eq (tgt := 1059) C dL_law_1052 (by decide) (oI_rg _) (fun q => absurd q z) (fun _ => ?_)
  refine G_iconst C dL_law_1055 ?_
  refine G_goto (tgt := 1060) C dL_law_1056 (by decide) ?_
  refine G_callVI (K := [.inl r1]) (args := [.inl _]) (T := TX12) (N := 72) C ly_75 rfl (Nat.le_of_ble_eq_true rfl) mo_X12_image wc_L_143 rfl dL_law_1060 ⟨d2, _, l2, w2, fun _ _ q => q⟩ (fun r2 s2 q2 => ?_)
  refine G_icmp_eq (tgt := 1091) C dL_law_1063 (by decide) ⟨w1, by rw [q2.1]; exact w1⟩ (fun _ => kk s2 q2.2) (fun z => absurd q2.1.symm z)
theorem xand31_bd (y : Int) : 0 ≤ xand y 31 ∧ xand y 31 ≤ 31 := by
  unfold xand
  have h : (Int32.ofInt y &&& Int32.ofInt 31).toBitVec.toNat ≤ 31 := by
    rw [Int32.toBitVec_and, BitVec.toNat_and]
    exact Nat.and_le_right
  rw [nI_ofBits (x := Int32.ofInt y &&& Int32.ofInt 31) rfl, nI_back (by omega)]
  omega
/-- how many YEARS there may be behind j steps -/
abbrev Yn (j : Nat) : Inhabited YT := ⟨((60 * j : Nat) : Int)⟩
theorem Yn_N (j : Nat) : @yN (Yn j) = ((60 * j : Nat) : Int) := rfl
set_option maxHeartbeats 8000000 in
theorem law_loop {X : Cx} {Ls : Nat} {xs : Nat → Int32} (C : Ok LY X RL cL_law 4 200) (S : SC X Ls xs) (hL : (Ls : Int) ≤ 3072) (fin : ∀ (i : Int) (s : Sto), G LY X 1097 [rv 600, rv 0, rv 75, iv i] [] s) : ∀ (m j : Nat) (s : Sto), (Ls : Int) - 6 * j < m → (j : Int) ≤ 600 → @Inv (Yn j) s → G LY X 18 [rv 600, rv 0, rv 75, iv (6 * (j : Int))] [] s := by
  have top : ∀ (j : Nat) (s : Sto), (j : Int) ≤ 600 → ((Ls : Int) - 6 < 6 * (j : Int) → G LY X 1097 [rv 600, rv 0, rv 75, iv (6 * (j : Int))] [] s) → (6 * (j : Int) ≤ (Ls : Int) - 6 → G LY X 27 [rv 600, rv 0, rv 75, iv (6 * (j : Int))] [] s) → G LY X 18 [rv 600, rv 0, rv 75, iv (6 * (j : Int))] [] s := fun j s hj k1 k2 => by
    refine G_iload_n C dL_law_18 rfl ?_
    refine G_aload_n C dL_law_19 rfl ?_
    refine G_slen C S dL_law_20 ?_
    refine G_bipush C dL_law_21 (by decide) ?_
    refine G_isub C dL_law_23 ?_
    exact G_icmp_gt (tgt := 1097) C dL_law_24 (by decide) ⟨⟨by omega, by omega⟩, ⟨by omega, by omega⟩⟩ k1 k2
  intro m
  induction m with
  | zero =>
    intro j s hm hj h
    exact top j s hj (fun _ => fin _ s) (fun z => absurd z (by omega))
  | succ m ih =>
    intro j s hm hj h
    refine top j s hj (fun _ => fin _ s) (fun z => ?_)
    have hi : 0 ≤ 6 * (j : Int) ∧ 6 * (j : Int) + 6 ≤ Ls ∧ (Ls : Int) ≤ 3072 := by omega
    have hy1 : @yN (Yn j) + 60 ≤ @yN (Yn (j + 1)) := by rw [Yn_N, Yn_N]; omega
    have hy2 : @yN (Yn (j + 1)) ≤ 2147483000 := by rw [Yn_N]; omega
    have h' : @Inv (Yn (j + 1)) s := h.more (by omega) hy2
    have kk : ∀ s' : Sto, @Inv (Yn (j + 1)) s' → G LY X 1091 [rv 600, rv 0, rv 75, iv (6 * (j : Int))] [] s' := fun s' q => by
      refine G_iinc (L' := [rv 600, rv 0, rv 75, iv (6 * (j : Int) + 6)]) C dL_law_1091 (by decide) rfl rfl ?_
      refine G_goto (tgt := 18) C dL_law_1094 (by decide) ?_
      have g := ih (j + 1) s' (by omega) (by omega) q
      rw [show 6 * ((j + 1 : Nat) : Int) = 6 * (j : Int) + 6 by omega] at g
      exact g
    refine G_aload_n C dL_law_27 rfl ?_
    refine G_iload_n C dL_law_28 rfl ?_
    refine G_sld C S (by omega) dL_law_29 ?_
    refine G_bipush C dL_law_30 (by decide) ?_
    refine G_iand C dL_law_32 ?_
    have ab := xand31_bd (xs (6 * (j : Int)).toNat).toInt
    generalize xand (xs (6 * (j : Int)).toNat).toInt 31 = a at ab
    have ac : a = 0 ∨ a = 1 ∨ a = 2 ∨ a = 3 ∨ a = 4 ∨ a = 5 ∨ a = 6 ∨ a = 7 ∨ a = 8 ∨ a = 9 ∨ a = 10 ∨ a = 11 ∨ a = 12 ∨ a = 13 ∨ a = 14 ∨ a = 15 ∨ a = 16 ∨ a = 17 ∨ a = 18 ∨ a = 19 ∨ a = 20 ∨ a = 21 ∨ a = 22 ∨ a = 23 ∨ a = 24 ∨ a = 25 ∨ a = 26 ∨ a = 27 ∨ a = 28 ∨ a = 29 ∨ a = 30 ∨ a = 31 := by omega
    rcases ac with rfl | rfl | rfl | rfl | rfl | rfl | rfl | rfl | rfl | rfl | rfl | rfl | rfl | rfl | rfl | rfl | rfl | rfl | rfl | rfl | rfl | rfl | rfl | rfl | rfl | rfl | rfl | rfl | rfl | rfl | rfl | rfl
    · refine G_tabIn (tgt := 172) C dL_law_33 (by decide) (by decide) (by decide) rfl (by decide) ?_
      exact @law_c0 (Yn (j + 1)) _ _ _ _ _ C S hi h' kk
    · refine G_tabIn (tgt := 195) C dL_law_33 (by decide) (by decide) (by decide) rfl (by decide) ?_
      exact @law_c1 (Yn (j + 1)) _ _ _ _ _ C S hi h' kk
    · refine G_tabIn (tgt := 218) C dL_law_33 (by decide) (by decide) (by decide) rfl (by decide) ?_
      exact @law_c2 (Yn (j + 1)) _ _ _ _ _ C S hi h' kk
    · refine G_tabIn (tgt := 281) C dL_law_33 (by decide) (by decide) (by decide) rfl (by decide) ?_
      exact @law_c3 (Yn (j + 1)) _ _ _ _ _ C S hi h' kk
    · refine G_tabIn (tgt := 304) C dL_law_33 (by decide) (by decide) (by decide) rfl (by decide) ?_
      exact @law_c4 (Yn (j + 1)) _ _ _ _ _ C S hi h' kk
    · refine G_tabIn (tgt := 317) C dL_law_33 (by decide) (by decide) (by decide) rfl (by decide) ?_
      exact @law_c5 (Yn (j + 1)) _ _ _ _ _ C S hi h' kk
    · refine G_tabIn (tgt := 340) C dL_law_33 (by decide) (by decide) (by decide) rfl (by decide) ?_
      exact @law_c6 (Yn (j + 1)) _ _ _ _ _ C S hi h' kk
    · refine G_tabIn (tgt := 383) C dL_law_33 (by decide) (by decide) (by decide) rfl (by decide) ?_
      exact @law_c7 (Yn (j + 1)) _ _ _ _ _ C S hi h' kk
    · refine G_tabIn (tgt := 406) C dL_law_33 (by decide) (by decide) (by decide) rfl (by decide) ?_
      exact @law_c8 (Yn (j + 1)) _ _ _ _ _ C S hi h' kk
    · refine G_tabIn (tgt := 419) C dL_law_33 (by decide) (by decide) (by decide) rfl (by decide) ?_
      exact @law_c9 (Yn (j + 1)) _ _ _ _ _ C S hi h' kk
    · refine G_tabIn (tgt := 452) C dL_law_33 (by decide) (by decide) (by decide) rfl (by decide) ?_
      exact @law_c10 (Yn (j + 1)) _ _ _ _ _ C S hi h' kk
    · refine G_tabIn (tgt := 515) C dL_law_33 (by decide) (by decide) (by decide) rfl (by decide) ?_
      exact @law_c11 (Yn (j + 1)) _ _ _ _ _ C S hi h' kk
    · refine G_tabIn (tgt := 548) C dL_law_33 (by decide) (by decide) (by decide) rfl (by decide) ?_
      exact @law_c12 (Yn (j + 1)) _ _ _ _ _ C S hi h' kk
    · refine G_tabIn (tgt := 581) C dL_law_33 (by decide) (by decide) (by decide) rfl (by decide) ?_
      exact @law_c13 (Yn (j + 1)) _ _ _ _ _ C S hi h' kk
    · refine G_tabIn (tgt := 614) C dL_law_33 (by decide) (by decide) (by decide) rfl (by decide) ?_
      exact @law_c14 (Yn (j + 1)) _ _ _ _ _ C S hi h' kk
    · refine G_tabIn (tgt := 647) C dL_law_33 (by decide) (by decide) (by decide) rfl (by decide) ?_
      exact @law_c15 (Yn (j + 1)) _ _ _ _ _ C S hi h' kk
    · refine G_tabIn (tgt := 680) C dL_law_33 (by decide) (by decide) (by decide) rfl (by decide) ?_
      exact @law_c16 (Yn (j + 1)) _ _ _ _ _ C S hi h' kk
    · refine G_tabIn (tgt := 693) C dL_law_33 (by decide) (by decide) (by decide) rfl (by decide) ?_
      exact @law_c17 (Yn (j + 1)) _ _ _ _ _ C S hi h' kk
    · refine G_tabIn (tgt := 726) C dL_law_33 (by decide) (by decide) (by decide) rfl (by decide) ?_
      exact @law_c18 (Yn (j + 1)) _ _ _ _ _ C S hi h' kk
    · refine G_tabIn (tgt := 749) C dL_law_33 (by decide) (by decide) (by decide) rfl (by decide) ?_
      exact @law_c19 (Yn (j + 1)) _ _ _ _ _ C S hi h' kk
    · refine G_tabIn (tgt := 782) C dL_law_33 (by decide) (by decide) (by decide) rfl (by decide) ?_
      exact @law_c20 (Yn (j + 1)) _ _ _ _ _ C S hi h' kk
    · refine G_tabIn (tgt := 815) C dL_law_33 (by decide) (by decide) (by decide) rfl (by decide) ?_
      exact @law_c21 (Yn (j + 1)) _ _ _ _ _ C S hi h' kk
    · refine G_tabIn (tgt := 848) C dL_law_33 (by decide) (by decide) (by decide) rfl (by decide) ?_
      exact @law_c22 (Yn (j + 1)) _ _ _ _ _ C S hi h' kk
    · refine G_tabIn (tgt := 881) C dL_law_33 (by decide) (by decide) (by decide) rfl (by decide) ?_
      exact @law_c23 (Yn (j + 1)) _ _ _ _ _ C S hi h' kk
    · refine G_tabIn (tgt := 894) C dL_law_33 (by decide) (by decide) (by decide) rfl (by decide) ?_
      exact @law_c24 (Yn (j + 1)) _ _ _ _ _ C S hi h' kk
    · refine G_tabIn (tgt := 947) C dL_law_33 (by decide) (by decide) (by decide) rfl (by decide) ?_
      exact @law_c25 (Yn (j + 1)) _ _ _ _ _ C S hi h' kk
    · refine G_tabIn (tgt := 960) C dL_law_33 (by decide) (by decide) (by decide) rfl (by decide) ?_
      exact @law_c26 (Yn (j + 1)) _ _ _ _ _ C S hi h' kk
    · refine G_tabIn (tgt := 983) C dL_law_33 (by decide) (by decide) (by decide) rfl (by decide) ?_
      exact @law_c27 (Yn (j + 1)) _ _ _ _ _ C S hi h' kk
    · refine G_tabIn (tgt := 1006) C dL_law_33 (by decide) (by decide) (by decide) rfl (by decide) ?_
      exact law_c28 C S hi h hy1 hy2 kk
    · refine G_tabIn (tgt := 1029) C dL_law_33 (by decide) (by decide) (by decide) rfl (by decide) ?_
      by_cases q : (xs (6 * (j : Int) + 1).toNat).toInt = 0
      · exact @law_c29a (Yn (j + 1)) _ _ _ _ _ C S hi q h' kk
      · exact @law_c29b (Yn (j + 1)) _ _ _ _ _ C S hi q h' kk
    · refine G_tabIn (tgt := 1068) C dL_law_33 (by decide) (by decide) (by decide) rfl (by decide) ?_
      exact @law_c30 (Yn (j + 1)) _ _ _ _ _ C S hi h' kk
    · refine G_tabOut (tgt := 1091) C dL_law_33 (by decide) (by decide) (by decide) ?_
      exact kk s h'
