/-! TEXT: LINES in the reference -/
/-- as RQ, whatever waits -/
def RZ (T pl en : Nat → Int) (u S : Sto) (i : Nat) (l : List Int) : Prop := (∀ c : Nat, c ≠ 75 → c ≠ 96 → c ≠ 97 → c ≠ 98 → S c = u c) ∧ (∀ j : Int, ¬ (j = 25 ∨ j = 26 ∨ j = 27 ∨ j = 28 ∨ j = 36 ∨ j = 37 ∨ j = 39 ∨ j = 40 ∨ j = 41) → S 75 j = u 75 j) ∧ (∀ j : Int, j < 400 → S 96 j = u 96 j ∧ S 97 j = u 97 j) ∧ (S 75 26 = pl i ∧ S 75 25 = en i ∧ TVR (S 75 27) (S 75 28) (T i)) ∧ (S 75 36 = l.length ∧ ∀ k : Nat, k < l.length → TokR (l.getD k 0) (S 96 (400 + k)) (S 97 (400 + k))) ∧ S 75 37 = 0
theorem RZ.rq {T pl en : Nat → Int} {u S S' : Sto} {i : Nat} {l : List Int} (h : RZ T pl en u S i l) (e : S' = up S 75 39 0) : RQ T pl en u S' i l 0 [] := by
  obtain ⟨h1, h2, h3, ⟨h4, h5, h6⟩, ⟨h7, h8⟩, h9⟩ := h
  have rc : ∀ c : Nat, c ≠ 75 → S' c = S c := fun c hc => by rw [e, up_row hc]
  have r75 : ∀ j : Int, j ≠ 39 → S' 75 j = S 75 j := fun j hj => by rw [e, up_idx hj]
  exact ⟨fun c c1 c2 c3 c4 => by rw [rc c c1, h1 c c1 c2 c3 c4], fun j hj => by rw [r75 j (by omega), h2 j hj], fun j hj => by rw [rc 96 (by decide), rc 97 (by decide)]; exact h3 j hj, ⟨by rw [r75 26 (by decide), h4], by rw [r75 25 (by decide), h5], by rw [r75 27 (by decide), r75 28 (by decide)]; exact h6⟩, ⟨by rw [r75 36 (by decide), h7], fun k hk => by rw [rc 96 (by decide), rc 97 (by decide)]; exact h8 k hk⟩, by rw [r75 37 (by decide), h9], by rw [e, up_at]; rfl, fun k hk => absurd hk (Nat.not_lt_zero _)⟩
theorem RQ.rz {T pl en : Nat → Int} {u S : Sto} {i : Nat} {l st : List Int} (h : RQ T pl en u S i l 0 st) : RZ T pl en u S i l := ⟨h.1, h.2.1, h.2.2.1, h.2.2.2.1, h.2.2.2.2.1, h.2.2.2.2.2.1⟩
theorem tr_readAny {T pl en : Nat → Int} {N : Nat} {u S : Sto} {i : Nat} {l : List Int} (hr : HR T pl en N u) (h : RZ T pl en u S i l) (hi : i ≤ N) (hl : l.length ≤ i) : ClI LY 7 MX12_readAny [.inr 75] S (PR T pl en u 0 [] (condG T 401 0 i l)) := by
  have hN := hr.2.2
  have hE := hr.2.1
  refine ClI.intro (by decide) rfl (Nat.le_of_ble_eq_true rfl) (fun X C r => ?_)
  refine kb_X12_readAny_0 C r ?_
  rintro s1 hs1
  have q := h.rq hs1
  obtain ⟨mc, ml⟩ := mach hr C r 401
  have e0 : ([] : List Int) ++ List.replicate 0 9 = [] := rfl
  refine mc 0 0 i l [] 0 s1 (by omega) hi (by omega) (by omega) q (Or.inl rfl) (by show l.length + 0 + 0 ≤ i; omega) (by decide) (by decide) (fun e he => by unfold condG; rw [Rs.go_l he]) (fun j m hj S' q' => ?_)
  have ok := cndG_ok hE 401 true (-1) 0 i j l m hi hj
  rw [if_pos (Or.inl rfl)] at ok
  have ok1 := ok.1 rfl
  have em : m ++ List.replicate 0 10005 = m := by simp
  have e2 : m ++ List.replicate 0 10004 = m := by simp
  rw [em] at q'
  refine ml 0 j 0 0 m [] 0 S' (by omega) (by omega) (by omega) (by omega) (by omega) q' (Or.inl rfl) (Or.inl rfl) (by show m.length + 0 + 0 + 0 ≤ j; omega) (by decide) (by decide) (fun e he => ?_) (fun j2 m2 hj2 _ _ S2 q2 => ?_)
  · rw [if_pos rfl, e2] at he
    unfold condG
    rw [Rs.go_r hj, he]
  · rw [if_pos rfl, e2] at hj2
    refine ⟨by decide, fun z => absurd rfl z, fun _ => Or.inr ⟨j2, m2, ?_, rfl, q2⟩⟩
    unfold condG
    rw [Rs.go_r hj, hj2]
/-- reading on, whatever waits -/
def HZ (T pl en : Nat → Int) (N : Nat) (u : Sto) : Prop := (∀ (S : Sto) (i : Nat) (l : List Int), RZ T pl en u S i l → i < N → ClV LY 2 MX12_reads [.inr 75] S (fun S' => RZ T pl en u S' (i + 1) l)) ∧ HR T pl en N u
/-- the LINES q, as the reference holds its draft -/
def LZ (S : Sto) (q : List (Int × Int)) : Prop := ∀ k : Nat, k < q.length → ((q.getD k (0, 0)).1 = 10000 ∧ S 93 (16 + k) = 0 ∨ (q.getD k (0, 0)).1 = 10001 ∧ S 93 (16 + k) = 1) ∧ S 95 (16 + k) = (q.getD k (0, 0)).2 ∧ S 94 (16 + k) = if k = 0 then 0 else (q.getD (k - 1) (0, 0)).2
def KT (T pl en : Nat → Int) (u S : Sto) (i : Nat) (q : List (Int × Int)) (l : List Int) : Prop := (∀ c : Nat, c ≠ 75 → ¬ (93 ≤ c ∧ c ≤ 98) → S c = u c) ∧ (∀ j : Int, ¬ (j = 25 ∨ j = 26 ∨ j = 27 ∨ j = 28 ∨ j = 36 ∨ j = 37 ∨ j = 39 ∨ j = 40 ∨ j = 41) → S 75 j = u 75 j) ∧ ((∀ j : Int, j < 400 → S 96 j = u 96 j ∧ S 97 j = u 97 j) ∧ ∀ j : Int, j < 16 → S 93 j = u 93 j ∧ S 94 j = u 94 j ∧ S 95 j = u 95 j) ∧ (S 75 26 = pl i ∧ S 75 25 = en i ∧ TVR (S 75 27) (S 75 28) (T i)) ∧ (S 75 36 = l.length ∧ ∀ k : Nat, k < l.length → TokR (l.getD k 0) (S 96 (400 + k)) (S 97 (400 + k))) ∧ S 75 37 = 0 ∧ LZ S q
def ET (pl : Nat → Int) (u S : Sto) (e : Int × Nat) : Prop := (∀ c : Nat, c ≠ 75 → ¬ (93 ≤ c ∧ c ≤ 98) → S c = u c) ∧ (∀ j : Int, ¬ (j = 25 ∨ j = 26 ∨ j = 27 ∨ j = 28 ∨ j = 36 ∨ j = 37 ∨ j = 39 ∨ j = 40 ∨ j = 41) → S 75 j = u 75 j) ∧ ((∀ j : Int, j < 400 → S 96 j = u 96 j ∧ S 97 j = u 97 j) ∧ ∀ j : Int, j < 16 → S 93 j = u 93 j ∧ S 94 j = u 94 j ∧ S 95 j = u 95 j) ∧ S 75 40 = e.1 ∧ S 75 41 = pl e.2
theorem KT.rz {T pl en : Nat → Int} {u S : Sto} {i : Nat} {q : List (Int × Int)} {l : List Int} (h : KT T pl en u S i q l) : RZ T pl en S S i l := ⟨fun _ _ _ _ _ => rfl, fun _ _ => rfl, fun _ _ => ⟨rfl, rfl⟩, h.2.2.2.1, h.2.2.2.2.1, h.2.2.2.2.2.1⟩
theorem KT.to {T pl en : Nat → Int} {u S S' : Sto} {i j : Nat} {q : List (Int × Int)} {l m : List Int} (h : KT T pl en u S i q l) (r : RZ T pl en S S' j m) : KT T pl en u S' j q m := by
  obtain ⟨h1, h2, h3, h4, h5, h6, h7⟩ := h
  obtain ⟨r1, r2, r3, r4, r5, r6⟩ := r
  refine ⟨fun c c1 c2 => by rw [r1 c c1 (by omega) (by omega) (by omega), h1 c c1 c2], fun k hk => by rw [r2 k hk, h2 k hk], ⟨fun k hk => ?_, fun k hk => ?_⟩, r4, r5, r6, fun k hk => ?_⟩
  · rw [(r3 k hk).1, (r3 k hk).2]; exact h3.1 k hk
  · rw [r1 93 (by decide) (by decide) (by decide) (by decide), r1 94 (by decide) (by decide) (by decide) (by decide), r1 95 (by decide) (by decide) (by decide) (by decide)]; exact h3.2 k hk
  · rw [r1 93 (by decide) (by decide) (by decide) (by decide), r1 94 (by decide) (by decide) (by decide) (by decide), r1 95 (by decide) (by decide) (by decide) (by decide)]; exact h7 k hk
theorem KT.er {T pl en : Nat → Int} {u S S' : Sto} {i : Nat} {q : List (Int × Int)} {l : List Int} {e : Int × Nat} (h : KT T pl en u S i q l) (r : EF pl S S' e) : ET pl u S' e := by
  obtain ⟨h1, h2, h3, _⟩ := h
  obtain ⟨r1, r2, r3, r4, r5⟩ := r
  refine ⟨fun c c1 c2 => by rw [r1 c c1 (by omega) (by omega) (by omega), h1 c c1 c2], fun k hk => by rw [r2 k hk, h2 k hk], ⟨fun k hk => ?_, fun k hk => ?_⟩, r4, r5⟩
  · rw [(r3 k hk).1, (r3 k hk).2]; exact h3.1 k hk
  · rw [r1 93 (by decide) (by decide) (by decide) (by decide), r1 94 (by decide) (by decide) (by decide) (by decide), r1 95 (by decide) (by decide) (by decide) (by decide)]; exact h3.2 k hk
theorem tr_errsZ {T pl en : Nat → Int} {u S : Sto} {i : Nat} {q : List (Int × Int)} {l : List Int} {k : Int} (h : KT T pl en u S i q l) : ClI LY 0 MX12_errs [.inr 75, .inl k] S (fun r S' => r = -1 ∧ ET pl u S' (k, i)) := by
  have h4 := h.2.2.2.1.1
  refine ClI.intro (by decide) rfl (Nat.le_of_ble_eq_true rfl) (fun X C r => ?_)
  refine kb_X12_errs_0 C r ?_
  rintro s1 hs1
  have e1 : s1 75 26 = pl i := by rw [hs1, up_idx (by decide), h4]
  rw [e1]
  rintro s2 hs2
  have rc : ∀ c : Nat, c ≠ 75 → s2 c = S c := fun c hc => by rw [hs2, up_row hc, hs1, up_row hc]
  refine ⟨rfl, h.er ⟨fun c c1 _ _ _ => rc c c1, fun j hj => by rw [hs2, up_idx (by omega), hs1, up_idx (by omega)], fun j _ => by rw [rc 96 (by decide), rc 97 (by decide)]; exact ⟨rfl, rfl⟩, by rw [hs2, up_idx (by decide), hs1, up_at], by rw [hs2, up_at]⟩⟩
theorem tr_isSignZ {T pl en : Nat → Int} {u S : Sto} {i : Nat} {q : List (Int × Int)} {l : List Int} {c : Int} (h : KT T pl en u S i q l) (hc : rg c) : ClI LY 0 MX12_isSign [.inr 75, .inl c] S (fun r S' => S' = S ∧ (r = 0 ∨ r = 1) ∧ (r = 1 ↔ S 75 27 = 4 ∧ S 75 28 = c)) := by
  have t := h.2.2.2.1.2.2.rgs
  refine ClI.introZ (by decide) rfl (Nat.le_of_ble_eq_true rfl) (fun X C r => ?_)
  exact kb_X12_isSign_0 C r ⟨t.1, fun z => ⟨rfl, Or.inl rfl, ⟨fun w => absurd w (by decide), fun w => absurd w.1 z⟩⟩, fun z => ⟨⟨t.2.1 (by omega), hc⟩, fun z2 => ⟨rfl, Or.inl rfl, ⟨fun w => absurd w (by decide), fun w => absurd w.2 z2⟩⟩, fun z2 => ⟨rfl, Or.inr rfl, ⟨fun _ => ⟨z, z2⟩, fun _ => rfl⟩⟩⟩⟩
theorem tr_isWordZ {T pl en : Nat → Int} {u S : Sto} {i : Nat} {q : List (Int × Int)} {l : List Int} {c : Int} (h : KT T pl en u S i q l) (hc : rg c) : ClI LY 0 MX12_isWord [.inr 75, .inl c] S (fun r S' => S' = S ∧ (r = 0 ∨ r = 1) ∧ (r = 1 ↔ S 75 27 = 2 ∧ S 75 28 = c)) := by
  have t := h.2.2.2.1.2.2.rgs
  refine ClI.introZ (by decide) rfl (Nat.le_of_ble_eq_true rfl) (fun X C r => ?_)
  exact kb_X12_isWord_0 C r ⟨t.1, fun z => ⟨rfl, Or.inl rfl, ⟨fun w => absurd w (by decide), fun w => absurd w.1 z⟩⟩, fun z => ⟨⟨t.2.1 (by omega), hc⟩, fun z2 => ⟨rfl, Or.inl rfl, ⟨fun w => absurd w (by decide), fun w => absurd w.2 z2⟩⟩, fun z2 => ⟨rfl, Or.inr rfl, ⟨fun _ => ⟨z, z2⟩, fun _ => rfl⟩⟩⟩⟩
/-- a place of the draft's LINES is set -/
theorem KT.put {T pl en : Nat → Int} {u S S' : Sto} {i : Nat} {q : List (Int × Int)} {l : List Int} {c : Nat} {v : Int} (h : KT T pl en u S i q l) (hc : c = 93 ∨ c = 94 ∨ c = 95) (e : S' = up S c (16 + (q.length : Int)) v) : KT T pl en u S' i q l := by
  obtain ⟨h1, h2, h3, h4, h5, h6, h7⟩ := h
  have rc : ∀ c' : Nat, c' ≠ c → S' c' = S c' := fun c' hc' => by rw [e, up_row hc']
  have ro : ∀ (c' : Nat) (j : Int), j < 16 + (q.length : Int) → S' c' j = S c' j := fun c' j hj => by rw [e, up_ne (by omega)]
  refine ⟨fun c' a1 a2 => by rw [rc c' (by omega), h1 c' a1 a2], fun j hj => by rw [rc 75 (by omega), h2 j hj], ⟨fun j hj => by rw [rc 96 (by omega), rc 97 (by omega)]; exact h3.1 j hj, fun j hj => by rw [ro 93 j (by omega), ro 94 j (by omega), ro 95 j (by omega)]; exact h3.2 j hj⟩, by rw [rc 75 (by omega)]; exact h4, ⟨by rw [rc 75 (by omega)]; exact h5.1, fun k hk => by rw [rc 96 (by omega), rc 97 (by omega)]; exact h5.2 k hk⟩, by rw [rc 75 (by omega)]; exact h6, fun k hk => by rw [ro 93 _ (by omega), ro 94 _ (by omega), ro 95 _ (by omega)]; exact h7 k hk⟩
def lastE (q : List (Int × Int)) : Int := if q.length = 0 then 0 else (q.getD (q.length - 1) (0, 0)).2
/-- a LINE is there -/
theorem KT.line {T pl en : Nat → Int} {u S : Sto} {i : Nat} {q : List (Int × Int)} {l : List Int} {x : Int} (h : KT T pl en u S i q l) (hx : x = 10000 ∧ S 93 (16 + (q.length : Int)) = 0 ∨ x = 10001 ∧ S 93 (16 + (q.length : Int)) = 1) (h94 : S 94 (16 + (q.length : Int)) = lastE q) (h95 : S 95 (16 + (q.length : Int)) = l.length) : KT T pl en u S i (q ++ [(x, (l.length : Int))]) l := by
  obtain ⟨h1, h2, h3, h4, h5, h6, h7⟩ := h
  refine ⟨h1, h2, h3, h4, h5, h6, fun k hk => ?_⟩
  rw [List.length_append, List.length_singleton] at hk
  have gl : ∀ n : Nat, n < q.length → (q ++ [(x, (l.length : Int))]).getD n (0, 0) = q.getD n (0, 0) := fun n hn => by
    rw [List.getD_eq_getElem?_getD, List.getElem?_append_left hn, ← List.getD_eq_getElem?_getD]
  by_cases e : k = q.length
  · have gr : (q ++ [(x, (l.length : Int))]).getD k (0, 0) = (x, (l.length : Int)) := by rw [e]; simp
    rw [gr, e]
    refine ⟨hx, h95, ?_⟩
    rw [h94]
    unfold lastE
    by_cases z : q.length = 0
    · rw [if_pos z, if_pos z]
    · rw [if_neg z, if_neg z, gl _ (by omega)]
  · have g := h7 k (by omega)
    rw [gl k (by omega)]
    refine ⟨g.1, g.2.1, ?_⟩
    by_cases z : k = 0
    · rw [if_pos z]; rw [if_pos z] at g; exact g.2.2
    · rw [if_neg z, gl _ (by omega)]; rw [if_neg z] at g; exact g.2.2
def PTx (T pl en : Nat → Int) (u : Sto) (R : Rt) (r : Int) (S : Sto) : Prop := (∃ e : Int × Nat, R = .inl e ∧ r = -1 ∧ ET pl u S e) ∨ ∃ (i : Nat) (q : List (Int × Int)) (l : List Int), R = .inr (q, l) ∧ r = q.length ∧ KT T pl en u S i q l
set_option maxHeartbeats 8000000 in
theorem tr_readText {T pl en : Nat → Int} {N : Nat} {u S : Sto} (hz : ∀ v : Sto, v 91 = u 91 → v 92 = u 92 → v 75 24 = u 75 24 → HZ T pl en N v) (h : KT T pl en u S 0 [] []) : ClI LY 8 MX12_readText [.inr 75] S (PTx T pl en u (txtG T 401 0 [] [])) := by
  have hN := (hz u rfl rfl rfl).2.2.2
  have hE := (hz u rfl rfl rfl).2.2.1
  refine ClI.intro (by decide) rfl (Nat.le_of_ble_eq_true rfl) (fun X C r => ?_)
  refine kb_X12_readText_0 C r ?_
  have hzS : ∀ {S : Sto} {i : Nat} {q : List (Int × Int)} {l : List Int}, KT T pl en u S i q l → HZ T pl en N S := fun {S i q l} k => hz S (k.1 91 (by decide) (by decide)) (k.1 92 (by decide) (by decide)) (k.2.1 24 (by decide))
  have loop : ∀ (f i : Nat) (q : List (Int × Int)) (l : List Int) (S' : Sto), txtG T 401 0 [] [] = txtG T f i q l → KT T pl en u S' i q l → i ≤ N → N - i < f → l.length ≤ i → q.length ≤ 16 → (l.length : Int) = lastE q → G LY X 2 [rv 75, iv (q.length : Int), none] [] S' := by
    intro f
    induction f with
    | zero => intro i q l S' _ _ _ hf; omega
    | succ f ih =>
      intro i q l S' hR k hi hf hl hq hle
      have tv := k.2.2.2.1.2.2
      have t := tv.rgs
      have tw := tv.w
      have te := tv.e
      have rq : rg (q.length : Int) := ⟨by omega, by omega⟩
      have fin : T i = 10200 → PTx T pl en u (txtG T 401 0 [] []) (q.length : Int) S' := fun z => Or.inr ⟨i, q, l, by rw [hR]; exact if_pos z, rfl, k⟩
      have eR : T i ≠ 10200 → txtG T 401 0 [] [] = (lineG T q.length i l).to (fun j m => txtG T f j (q ++ [(T i, (m.length : Int))]) m) := fun z => by rw [hR]; exact if_neg z
      have fail : ∀ (x : Int) (S2 : Sto) (j : Nat) (q2 : List (Int × Int)) (m : List Int), KT T pl en u S2 j q2 m → T i ≠ 10200 → lineG T q.length i l = .inl (x, j) → CallI LY 8 MX12_errs [.inr 75, .inl x] S2 (fun r1 s1 => PTx T pl en u (txtG T 401 0 [] []) r1 s1) := fun x S2 j q2 m k2 z hk => ⟨0, _, by decide, tr_errsZ k2, fun r1 s1 q1 => Or.inl ⟨(x, j), by rw [eR z, Rs.to_l hk], q1.1, q1.2⟩⟩
      have other : ¬ (T i = 10000 ∨ T i = 10001) → T i ≠ 10200 → CallI LY 8 MX12_errs [.inr 75, .inl 1] S' (fun r1 s1 => PTx T pl en u (txtG T 401 0 [] []) r1 s1) := fun c z => fail 1 S' i q l k z (by unfold lineG; rw [if_pos (by omega)])
      refine kb_X12_readText_2 C r ⟨t.1, fun z => ⟨t.1, fun z2 => other (by omega) (by omega), fun z2 => fin (by omega)⟩, fun z => ⟨t.2.1 (by omega), fun z2 => ⟨t.1, fun z3 => other (by omega) (by omega), fun z3 => absurd z3 (by omega)⟩, fun z2 => ⟨rq, fun z3 => ⟨⟨by omega, by omega⟩, ?_⟩, fun z3 => ?_⟩⟩⟩
      · have ci : T i = 10000 ∨ T i = 10001 := by omega
        have nE : T i ≠ 10200 := by omega
        have iN : i < N := by
          by_cases e : i = N
          · rw [e] at nE; exact absurd hE nE
          · omega
        rintro s3 hs3
        have k3 : KT T pl en u s3 i q l := k.put (Or.inl rfl) hs3
        have w93 : s3 93 (16 + (q.length : Int)) = S' 75 28 := by rw [hs3, up_at]
        refine ⟨2, _, by decide, (hzS k3).1 s3 i l k3.rz iN, fun s4 q4 => ⟨⟨by omega, by omega⟩, ?_⟩⟩
        have k4 := k3.to q4
        have v93 : s4 93 (16 + (q.length : Int)) = S' 75 28 := by rw [q4.1 93 (by decide) (by decide) (by decide) (by decide), w93]
        have c36 : s4 75 36 = l.length := k4.2.2.2.2.1.1
        rw [c36]
        rintro s5 hs5
        have k5 : KT T pl en u s5 (i + 1) q l := k4.put (Or.inr (Or.inl rfl)) hs5
        have x93 : s5 93 (16 + (q.length : Int)) = S' 75 28 := by rw [hs5, up_row (by decide), v93]
        have x94 : s5 94 (16 + (q.length : Int)) = lastE q := by rw [hs5, up_at, hle]
        have tw5 := k5.2.2.2.1.2.2.w
        refine ⟨0, _, by decide, tr_isWordZ k5 (by decide), ?_⟩
        rintro r6 s6 ⟨hs6, b1, b2⟩
        rw [hs6]
        have n1 : ¬ (T i ≠ 10000 ∧ T i ≠ 10001) := by omega
        have n2 : ¬ 16 ≤ q.length := by omega
        -- the LINE's end
        have endl : ∀ (S2 : Sto) (j : Nat) (m : List Int), KT T pl en u S2 j q m → S2 93 (16 + (q.length : Int)) = S' 75 28 → S2 94 (16 + (q.length : Int)) = lastE q → j ≤ N → i < j → m.length ≤ j → (lineG T q.length i l = if T j = 10100 then .inr (j + 1, m) else .inl (1, j)) → ∀ s7 : Sto, s7 = up S2 95 (16 + (q.length : Int)) (S2 75 36) → CallI LY 8 MX12_isSign [.inr 75, .inl 59] s7 (fun r8 s8 => rg r8 ∧ ((r8 ≠ 0 → CallV LY 8 MX12_reads [.inr 75] s8 (fun s9 => G LY X 2 [rv 75, iv ((q.length : Int) + 1), none] [] s9)) ∧ (r8 = 0 → CallI LY 8 MX12_errs [.inr 75, .inl 1] s8 (fun r10 s10 => PTx T pl en u (txtG T 401 0 [] []) r10 s10)))) := fun S2 j m k2 y93 y94 jN ij mj eL s7 hs7 => by
          have d36 : S2 75 36 = m.length := k2.2.2.2.2.1.1
          rw [d36] at hs7
          have k7 : KT T pl en u s7 j q m := k2.put (Or.inr (Or.inr rfl)) hs7
          have s59 := k7.2.2.2.1.2.2.s59
          refine ⟨0, _, by decide, tr_isSignZ k7 (by decide), ?_⟩
          rintro r8 s8 ⟨hs8, f1, f2⟩
          rw [hs8]
          refine ⟨⟨by omega, by omega⟩, fun y => ?_, fun y => ?_⟩
          · have c9 : T j = 10100 := s59.mp (f2.mp (by omega))
            have jN' : j < N := by
              by_cases e : j = N
              · rw [e, hE] at c9; omega
              · omega
            rw [if_pos c9] at eL
            refine ⟨2, _, by decide, (hzS k7).1 s7 j m k7.rz jN', fun s9 q9 => ?_⟩
            have k9 := k7.to q9
            have p93 : s9 93 (16 + (q.length : Int)) = S' 75 28 := by rw [q9.1 93 (by decide) (by decide) (by decide) (by decide), hs7, up_row (by decide), y93]
            have p94 : s9 94 (16 + (q.length : Int)) = lastE q := by rw [q9.1 94 (by decide) (by decide) (by decide) (by decide), hs7, up_row (by decide), y94]
            have p95 : s9 95 (16 + (q.length : Int)) = m.length := by rw [q9.1 95 (by decide) (by decide) (by decide) (by decide), hs7, up_at]
            have kl := k9.line (x := T i) (by rw [p93]; omega) p94 p95
            have ll : (q ++ [(T i, (m.length : Int))]).length = q.length + 1 := by rw [List.length_append, List.length_singleton]
            have g := ih (j + 1) (q ++ [(T i, (m.length : Int))]) m s9 (by rw [eR nE, Rs.to_r eL]) kl (by omega) (by omega) (by omega) (by omega) (by
              unfold lastE
              rw [if_neg (by omega), ll, show q.length + 1 - 1 = q.length by omega]
              simp)
            rw [ll, show ((q.length + 1 : Nat) : Int) = (q.length : Int) + 1 by omega] at g
            exact g
          · have n9 : T j ≠ 10100 := fun w => by have := f2.mpr (s59.mpr w); omega
            rw [if_neg n9] at eL
            exact fail 1 s7 j q m k7 nE eL
        refine ⟨⟨by omega, by omega⟩, fun y => ⟨⟨by omega, by omega⟩, fun s7 hs7 => endl s5 (i + 1) l k5 x93 x94 (by omega) (by omega) (by omega) ?_ s7 hs7⟩, fun y => ?_⟩
        · have nw : T (i + 1) ≠ 10002 := fun w => by have := b2.mpr (by omega); omega
          unfold lineG
          rw [if_neg n1, if_neg n2, if_neg nw]
        · have cw : T (i + 1) = 10002 := by have := b2.mp (by omega); omega
          have i1 : i + 1 < N := by
            by_cases e : i + 1 = N
            · rw [e, hE] at cw; omega
            · omega
          have eL : lineG T q.length i l = (condG T 401 0 (i + 2) l).go (fun j m => if T j = 10100 then .inr (j + 1, m) else .inl (1, j)) := by
            unfold lineG
            rw [if_neg n1, if_neg n2, if_pos cw]
          refine ⟨2, _, by decide, (hzS k5).1 s5 (i + 1) l k5.rz i1, fun s11 q11 => ?_⟩
          have k11 := k5.to q11
          refine ⟨7, _, by decide, tr_readAny (hzS k11).2 k11.rz (by omega) (by omega), fun r12 s12 q12 => ⟨q12.bd, fun y2 => ?_, fun y2 => ?_⟩⟩
          · obtain ⟨j, m, p1, p2⟩ := q12.good y2
            have ok := condG_ok hE (by omega) p1
            have k12 := k11.to p2.rz
            refine ⟨⟨by omega, by omega⟩, fun s13 hs13 => endl s12 j m k12 ?_ ?_ ok.2.1 (by omega) (by omega) (by rw [eL, Rs.go_r p1]) s13 hs13⟩
            · rw [p2.1 93 (by decide) (by decide) (by decide) (by decide), q11.1 93 (by decide) (by decide) (by decide) (by decide), x93]
            · rw [p2.1 94 (by decide) (by decide) (by decide) (by decide), q11.1 94 (by decide) (by decide) (by decide) (by decide), x94]
          · obtain ⟨e, p1, p2⟩ := q12.bad y2
            exact Or.inl ⟨e, by rw [eR nE, Rs.to_l (by rw [eL, Rs.go_l p1])], rfl, k11.er p2⟩
      · exact fail 3 S' i q l k (by omega) (by unfold lineG; rw [if_neg (by omega), if_pos (by omega)])
  exact loop 401 0 [] [] S rfl h (by omega) (by omega) (by decide) (by decide) rfl
