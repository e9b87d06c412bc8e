/-! OPERATION: least -/
theorem lsk {H : Nat → Int} {al K : Nat} (hH : ∀ n : Nat, vdN K n = true → 0 ≤ H n) : ∀ (f n : Nat) (v : Int) (b : Nat), okN K f n = true → 0 ≤ v → 0 ≤ (lsF H al K f n v b).1
  | 0, n, v, b, _, h => h
  | f + 1, n, v, b, ok, h => by
    obtain ⟨vd, nxt⟩ := ok_is ok
    show 0 ≤ (if frN K n (K - 1) = 0 then (if n = al then (v, b) else if v = -1 ∨ H n < v then (H n, n) else (v, b)) else if n = al then lsF H al K f (nxN K n) v b else if v = -1 ∨ H n < v then lsF H al K f (nxN K n) (H n) n else lsF H al K f (nxN K n) v b).1
    by_cases q : frN K n (K - 1) = 0
    · rw [if_pos q]
      split
      · exact h
      · split
        · exact hH n vd
        · exact h
    · rw [if_neg q]
      have okn : okN K f (nxN K n) = true := by
        rcases nxt with z | z
        · exact absurd z q
        · exact z
      split
      · exact lsk hH f _ _ _ okn h
      · split
        · exact lsk hH f _ _ _ okn (hH n vd)
        · exact lsk hH f _ _ _ okn h
theorem lsf {H : Nat → Int} {al K n b f : Nat} (hH : ∀ n : Nat, vdN K n = true → 0 ≤ H n) (ok : okN K (f + 2) n = true) (h0 : frN K n (K - 1) ≠ 0) (h1 : nxN K n ≠ n) : 0 ≤ (lsF H al K (f + 2) n (-1) b).1 := by
  obtain ⟨vd, nxt⟩ := ok_is ok
  have okn : okN K (f + 1) (nxN K n) = true := by
    rcases nxt with z | z
    · exact absurd z h0
    · exact z
  obtain ⟨vd2, nxt2⟩ := ok_is okn
  show 0 ≤ (if frN K n (K - 1) = 0 then _ else if n = al then lsF H al K (f + 1) (nxN K n) (-1) b else if (-1 : Int) = -1 ∨ H n < -1 then lsF H al K (f + 1) (nxN K n) (H n) n else lsF H al K (f + 1) (nxN K n) (-1) b).1
  rw [if_neg h0]
  by_cases q : n = al
  · rw [if_pos q]
    have ne : nxN K n ≠ al := fun e => h1 (by rw [e, q])
    show 0 ≤ (if frN K (nxN K n) (K - 1) = 0 then (if nxN K n = al then ((-1 : Int), b) else if (-1 : Int) = -1 ∨ H (nxN K n) < -1 then (H (nxN K n), nxN K n) else (-1, b)) else if nxN K n = al then lsF H al K f (nxN K (nxN K n)) (-1) b else if (-1 : Int) = -1 ∨ H (nxN K n) < -1 then lsF H al K f (nxN K (nxN K n)) (H (nxN K n)) (nxN K n) else lsF H al K f (nxN K (nxN K n)) (-1) b).1
    rw [if_neg ne, if_neg ne, if_pos (Or.inl rfl), if_pos (Or.inl rfl)]
    by_cases q2 : frN K (nxN K n) (K - 1) = 0
    · rw [if_pos q2]; exact hH _ vd2
    · rw [if_neg q2]
      rcases nxt2 with z | z
      · exact absurd z q2
      · exact lsk hH f _ _ _ z (hH _ vd2)
  · rw [if_neg q, if_pos (Or.inl rfl)]
    exact lsk hH _ _ _ _ okn (hH n vd)
theorem lsv {H : Nat → Int} {al K : Nat} : ∀ (f n : Nat) (v : Int) (b : Nat), okN K f n = true → lsF H al K f n v b = (v, b) ∨ ∃ m : Nat, vdN K m = true ∧ lsF H al K f n v b = (H m, m)
  | 0, n, v, b, _ => Or.inl rfl
  | f + 1, n, v, b, ok => by
    obtain ⟨vd, nxt⟩ := ok_is ok
    have e : lsF H al K (f + 1) n v b = if frN K n (K - 1) = 0 then (if n = al then (v, b) else if v = -1 ∨ H n < v then (H n, n) else (v, b)) else if n = al then lsF H al K f (nxN K n) v b else if v = -1 ∨ H n < v then lsF H al K f (nxN K n) (H n) n else lsF H al K f (nxN K n) v b := rfl
    by_cases q : frN K n (K - 1) = 0
    · rw [if_pos q] at e
      by_cases q2 : n = al
      · rw [if_pos q2] at e; exact Or.inl e
      · rw [if_neg q2] at e
        by_cases q3 : v = -1 ∨ H n < v
        · rw [if_pos q3] at e; exact Or.inr ⟨n, vd, e⟩
        · rw [if_neg q3] at e; exact Or.inl e
    · rw [if_neg q] at e
      have okn : okN K f (nxN K n) = true := by
        rcases nxt with z | z
        · exact absurd z q
        · exact z
      by_cases q2 : n = al
      · rw [if_pos q2] at e
        rw [e]
        exact lsv f _ v b okn
      · rw [if_neg q2] at e
        by_cases q3 : v = -1 ∨ H n < v
        · rw [if_pos q3] at e
          rw [e]
          rcases lsv f (nxN K n) (H n) n okn with z | z
          · exact Or.inr ⟨n, vd, z⟩
          · exact Or.inr z
        · rw [if_neg q3] at e
          rw [e]
          exact lsv f _ v b okn
theorem ok_all {K : Int} (hK : 2 ≤ K ∧ K ≤ 6) : okN K.toNat 720 (idN K.toNat) = true ∧ frN K.toNat (idN K.toNat) (K.toNat - 1) ≠ 0 ∧ nxN K.toNat (idN K.toNat) ≠ idN K.toNat := by
  have m := ok_more ⟨K.toNat, by omega⟩ (by show 2 ≤ K.toNat; omega)
  refine ⟨?_, m⟩
  have : K = 2 ∨ K = 3 ∨ K = 4 ∨ K = 5 ∨ K = 6 := by omega
  rcases this with rfl | rfl | rfl | rfl | rfl
  · exact ok_2
  · exact ok_3
  · exact ok_4
  · exact ok_5
  · exact ok_6
theorem t_X12_isAlphabet {K : Int} {s : Sto} (h9 : s 75 9 = K) (hK : 2 ≤ K ∧ K ≤ 8) (r1 : ∀ i : Int, 0 ≤ i → i < K → rg (s 81 (152 + i)) ∧ rg (s 81 i)) : ClI LY 0 MX12_isAlphabet [.inr 75, .inl 19] s (fun r s' => s' = s ∧ (r = 0 ∨ r = 1) ∧ (r = 1 ↔ ∀ i : Int, 0 ≤ i → i < K → s 81 (152 + i) = s 81 i)) := by
  refine ClI.introZ (by decide) rfl (Nat.le_of_ble_eq_true rfl) (fun X C r => ?_)
  refine kb_X12_isAlphabet_0 C r ?_
  have rK : rg K := ⟨by omega, by omega⟩
  refine downI (P := fun i => (∀ j : Int, 0 ≤ j → j < i → s 81 (152 + j) = s 81 j) → G LY X 2 [rv 75, iv 19, iv i] [] s) (a := 0) (b := K) (by omega) ?_ ?_ (fun j j0 j1 => absurd j1 (by omega))
  · intro H
    refine kb_X12_isAlphabet_2 C r ?_
    rw [h9]
    exact ⟨⟨rK, rK⟩, fun _ => ⟨rfl, Or.inr rfl, ⟨fun _ => H, fun _ => rfl⟩⟩, fun z => absurd z (by omega)⟩
  · intro i i0 i1 ih H
    refine kb_X12_isAlphabet_2 C r ?_
    rw [h9, show 8 * 19 + i = 152 + i by omega]
    refine ⟨⟨⟨by omega, by omega⟩, rK⟩, fun z => absurd z (by omega), fun _ => ⟨⟨by omega, by omega⟩, ⟨by omega, by omega⟩, r1 i i0 i1, fun q => ih (fun j j0 j1 => ?_), fun q => ⟨rfl, Or.inl rfl, ⟨fun w => absurd w (by decide), fun w => absurd (w i i0 i1) q⟩⟩⟩⟩
    by_cases e : j = i
    · rw [e]; exact q
    · exact H j j0 (by omega)
/-- in the reference: the land as told, ORDERS from row 19 on are being worked on -/
def LSS (s S : Sto) : Prop := (∀ c : Nat, ¬ (3 ≤ c ∧ c ≤ 97) ∨ c = 81 ∨ c = 75 ∨ (21 ≤ c ∧ c ≤ 75) ∨ S c = s c) ∧ S 75 22 = 1 ∧ (∀ i : Int, i ≠ 0 → i ≠ 22 → S 75 i = s 75 i) ∧ ∀ i : Int, i < 152 → S 81 i = begS s 81 i
theorem LSS.c {s S : Sto} (h : LSS s S) {c : Nat} (hc : (3 ≤ c ∧ c ≤ 20) ∨ (76 ≤ c ∧ c ≤ 97)) (h81 : c ≠ 81) : S c = s c := by
  rcases h.1 c with q | q | q | q | q
  · omega
  · exact absurd q h81
  · omega
  · omega
  · exact q
theorem LSS.sam {s S : Sto} (h : LSS s S) : samN s S := ⟨fun c c1 c2 c3 _ _ => h.c (Or.inr ⟨c1, c2⟩) c3, h.2.2.1 4 (by decide) (by decide), h.2.2.1 9 (by decide) (by decide), h.2.2.1 30 (by decide) (by decide)⟩
theorem LSS.lm [Inhabited YT] {s S : Sto} (hi : Inv s) (h : LSS s S) : LM s S (fun k => begS S 81 (8 * 0 + k)) := by
  have b := begS_1 h.2.1
  have K := hi.lr.2.1.1
  refine ⟨(hi.lr.sam h.sam).od (fun i i0 i1 => ?_), ⟨Or.inr h.2.1, fun _ => rfl⟩, fun c c1 c2 => h.c (Or.inl (by omega)) (by omega)⟩
  rw [h.sam.2.2.1] at i1
  rw [b, h.2.2.2 _ (by omega)]
theorem t_harmL [Inhabited YT] {s S : Sto} (hi : Inv s) (h : LSS s S) {n : Nat} (hv : vdN (s 75 9).toNat n = true) (hr : ∀ i : Int, 0 ≤ i → i < s 75 9 → S 81 (152 + i) = dgI (s 75 9) n i) : ClI LY 5 MX12_harmOf [.inr 75, .inl 19] S (fun r s' => (∀ c : Nat, c ≠ 101 → c ≠ 102 → c ≠ 103 → c ≠ 114 → s' c = S c) ∧ r = hmF s (fun k => begS s 81 (8 * 0 + k)) n) := by
  have K := hi.lr.2.1.1
  have b := begS_1 h.2.1
  have sm := h.sam
  have n1 := hi.nms.1
  have tp : ∀ i : Int, 0 ≤ i → i < s 75 9 → begS S 81 (8 * 19 + i) = dgI (s 75 9) n i := fun i i0 i1 => by rw [b, show 8 * 19 + i = 152 + i by omega, hr i i0 i1]
  refine (t_harmM (h.lm hi) (o := 19) (oo := (n : Int)) (oq := fun i => begS S 81 (8 * 19 + i)) (by decide) (fun _ => rfl) (by rw [sm.2.2.1]; exact (dg_OdR K hv).congr tp)).mono ?_
  rintro r s' ⟨g1, g2⟩
  refine ⟨fun c c1 c2 c3 c4 => by rw [g1 c c1 c2 c3 c4, b], ?_⟩
  rw [g2, sm.2.1]
  unfold hmF
  refine hrS_congr (fun p p0 p1 => ?_) (fun p p0 p1 => ?_) _ (by omega)
  · rw [sm.wv, wvF_od (fun i i0 i1 => by rw [b, h.2.2.2 _ (by omega)])]
  · rw [sm.wv, wvF_od tp]
theorem LSS.upd {s S S' : Sto} (h : LSS s S) (e : ∀ c : Nat, c ≠ 81 → ¬ (99 ≤ c ∧ c ≤ 117) → S' c = S c) (e81 : ∀ i : Int, i < 152 → S' 81 i = S 81 i) : LSS s S' := by
  refine ⟨fun c => ?_, by rw [e 75 (by decide) (by decide)]; exact h.2.1, fun i i1 i2 => by rw [e 75 (by decide) (by decide)]; exact h.2.2.1 i i1 i2, fun i hi => by rw [e81 i hi]; exact h.2.2.2 i hi⟩
  by_cases q : (3 ≤ c ∧ c ≤ 20) ∨ (76 ≤ c ∧ c ≤ 97)
  · by_cases q2 : c = 81
    · exact Or.inr (Or.inl q2)
    · refine Or.inr (Or.inr (Or.inr (Or.inr ?_)))
      rw [e c q2 (by omega)]
      exact h.c q q2
  · omega
set_option maxHeartbeats 8000000 in
/-- the reference's search -/
theorem t_leastM [Inhabited YT] {s : Sto} (hi : Inv s) {w : Int} {X : Cx} {d : Nat} (hd : 6 ≤ d) {P : Int → Sto → Prop} (C : Ok LY X RX12 cX12_least 5 d) (r : RetI LY X cX12_least P) (hK6 : s 75 9 ≤ 6) (hw : rg w) (hw2 : w = 0 ∨ (10 ≤ w ∧ w < 10 + s 75 9)) {al : Nat} (ha : s 3 2 = (al : Int)) (hH : ∀ n : Nat, vdN (s 75 9).toNat n = true → 0 ≤ hmF s (fun k => begS s 81 (8 * 0 + k)) n ∧ hmF s (fun k => begS s 81 (8 * 0 + k)) n ≤ 475200) {R : Int × Nat} (hRR : 0 ≤ R.1) (B : Sto) (hP : ∀ S : Sto, LSS s S → (∀ c : Nat, c ≠ 81 → ¬ (99 ≤ c ∧ c ≤ 117) → S c = B c) → P (if w = 0 then R.1 else dgI (s 75 9) R.2 (w - 10)) S) : ∀ (f n : Nat) (v : Int) (bt : Nat) (S : Sto), okN (s 75 9).toNat f n = true → LSS s S → (∀ c : Nat, c ≠ 81 → ¬ (99 ≤ c ∧ c ≤ 117) → S c = B c) → (∀ i : Int, 0 ≤ i → i < s 75 9 → S 81 (152 + i) = dgI (s 75 9) n i) → (v = -1 ∨ (0 ≤ v ∧ v ≤ 475200)) → (v ≠ -1 → ∀ i : Int, 0 ≤ i → i < s 75 9 → S 81 (160 + i) = dgI (s 75 9) bt i) → lsF (hmF s (fun k => begS s 81 (8 * 0 + k))) al (s 75 9).toNat f n v bt = R → G LY X 72 [rv 75, iv w, iv v, iv 1, none] [] S := by
  have K8 := hi.lr.2.1.1
  have aod : OdR (s 75 9) (al : Int) (fun k => begS s 81 (8 * 0 + k)) := by rw [← ha]; exact hi.lr.2.1
  have ab : ∀ j : Int, 0 ≤ j → j < s 75 9 → 0 ≤ begS s 81 (8 * 0 + j) ∧ begS s 81 (8 * 0 + j) < s 75 9 := aod.2.1
  generalize hHH : hmF s (fun k => begS s 81 (8 * 0 + k)) = H at *
  intro f
  induction f with
  | zero =>
    intro n v bt S ok
    exact absurd (show false = true from ok) (by decide)
  | succ f ih =>
    intro n v bt S ok k1 kB k2 kv k4 fin
    obtain ⟨vd, nxt⟩ := ok_is ok
    have od2 := dg_OdR (n := n) K8 vd
    have hn := hH n vd
    have S9 : S 75 9 = s 75 9 := k1.2.2.1 9 (by decide) (by decide)
    have rv' : rg v := by
      rcases kv with q | q
      · rw [q]; decide
      · exact ⟨by omega, by omega⟩
    have ls : lsF H al (s 75 9).toNat (f + 1) n v bt = if frN (s 75 9).toNat n ((s 75 9).toNat - 1) = 0 then (if n = al then (v, bt) else if v = -1 ∨ H n < v then (H n, n) else (v, bt)) else if n = al then lsF H al (s 75 9).toNat f (nxN (s 75 9).toNat n) v bt else if v = -1 ∨ H n < v then lsF H al (s 75 9).toNat f (nxN (s 75 9).toNat n) (H n) n else lsF H al (s 75 9).toNat f (nxN (s 75 9).toNat n) v bt := rfl
    rw [ls] at fin
    have same : (∀ i : Int, 0 ≤ i → i < s 75 9 → S 81 (152 + i) = S 81 i) ↔ n = al := by
      refine ⟨fun g => ?_, fun g i i0 i1 => ?_⟩
      · have e : pq 8 (dgI (s 75 9) n) (s 75 9).toNat = pq 8 (fun k => begS s 81 (8 * 0 + k)) (s 75 9).toNat := pq_ext _ (fun i hi' => by
          have := g i (by omega) (by omega)
          rw [k2 i (by omega) (by omega), k1.2.2.2 _ (by omega)] at this
          rw [this, show 8 * 0 + (i : Int) = i by omega])
        have e1 := od2.2.2.2
        have e2 := aod.2.2.2
        omega
      · rw [k2 i i0 i1, k1.2.2.2 _ (by omega)]
        have e : pq 8 (dgI (s 75 9) n) (s 75 9).toNat = pq 8 (fun k => begS s 81 (8 * 0 + k)) (s 75 9).toNat := by
          rw [← od2.2.2.2, ← aod.2.2.2, g]
        have := pq_inj (B := 8) (by decide) (fun j hj => by have := od2.2.1 j (by omega) (by omega); omega) (fun j hj => by have := ab j (by omega) (by omega); show 0 ≤ begS s 81 (8 * 0 + (j : Int)) ∧ begS s 81 (8 * 0 + (j : Int)) < 8; omega) e i.toNat (by omega)
        rw [Int.toNat_of_nonneg i0] at this
        rw [this, show 8 * 0 + i = i by omega]
    -- the step to the next
    have step : ∀ (T : Sto) (v' : Int) (bt' : Nat), LSS s T → (∀ c : Nat, c ≠ 81 → ¬ (99 ≤ c ∧ c ≤ 117) → T c = B c) → (∀ i : Int, 0 ≤ i → i < s 75 9 → T 81 (152 + i) = dgI (s 75 9) n i) → (v' = -1 ∨ (0 ≤ v' ∧ v' ≤ 475200)) → (v' ≠ -1 → ∀ i : Int, 0 ≤ i → i < s 75 9 → T 81 (160 + i) = dgI (s 75 9) bt' i) → (frN (s 75 9).toNat n ((s 75 9).toNat - 1) = 0 → (v', bt') = R) → (frN (s 75 9).toNat n ((s 75 9).toNat - 1) ≠ 0 → lsF H al (s 75 9).toNat f (nxN (s 75 9).toNat n) v' bt' = R) → CallI LY d MX12_nextOrder [.inr 75] T (fun r2 s2 => G LY X 72 [rv 75, iv w, iv v', iv r2, none] [] s2) := by
      intro T v' bt' t1 tB t2 tv t4 l0 l1
      refine ⟨0, _, by omega, t_X12_nextOrder (t1.2.2.1 9 (by decide) (by decide)) K8 vd t2, ?_⟩
      rintro q W ⟨⟨w1, w1'⟩, w2⟩
      have LW : LSS s W := t1.upd (fun c c1 _ => w1 c c1) (fun i hi' => w1' i (by omega))
      have BW : ∀ c : Nat, c ≠ 81 → ¬ (99 ≤ c ∧ c ≤ 117) → W c = B c := fun c c1 c2 => by rw [w1 c c1, tB c c1 c2]
      rcases w2 with ⟨w3, rfl⟩ | ⟨w3, rfl, w4⟩
      · have e := l0 w3
        have ev : v' = R.1 := by rw [← e]
        have eb : bt' = R.2 := by rw [← e]
        have pst := hP W LW BW
        refine kb_X12_least_72 C r ⟨by decide, fun _ => ⟨hw, fun z => ⟨⟨by omega, by omega⟩, ?_⟩, fun z => ?_⟩, fun z => absurd rfl z⟩
        · rw [if_neg z, ← eb] at pst
          rw [show 160 + w - 10 = 160 + (w - 10) by omega, w1' _ (by omega), t4 (by omega) (w - 10) (by omega) (by omega)]
          exact pst
        · rw [if_pos z, ← ev] at pst
          exact pst
      · have okn : okN (s 75 9).toNat f (nxN (s 75 9).toNat n) = true := by
          rcases nxt with z | z
          · exact absurd z w3
          · exact z
        exact ih (nxN (s 75 9).toNat n) v' bt' W okn LW BW w4 tv (fun q i i0 i1 => by rw [w1' _ (by omega)]; exact t4 q i i0 i1) (l1 w3)
    refine kb_X12_least_72 C r ⟨by decide, fun z => absurd z (by decide), fun _ => ⟨0, _, by omega, t_X12_isAlphabet S9 K8 (fun i i0 i1 => ⟨?_, ?_⟩), ?_⟩⟩
    · rw [k2 i i0 i1]
      have := od2.2.1 i i0 i1
      exact ⟨by omega, by omega⟩
    · rw [k1.2.2.2 _ (by omega)]
      have := ab i i0 i1
      have e : begS s 81 (8 * 0 + i) = begS s 81 i := by rw [show 8 * 0 + i = i by omega]
      exact ⟨by omega, by omega⟩
    · rintro q y ⟨hy, q1, q2⟩
      rw [hy]
      refine ⟨⟨by omega, by omega⟩, fun z => ?_, fun z => ⟨5, _, by omega, t_harmL hi k1 vd k2, ?_⟩⟩
      · have na : n = al := same.mp (q2.mp (by omega))
        refine step S v bt k1 kB k2 kv k4 (fun g => ?_) (fun g => ?_)
        · rw [if_pos g, if_pos na] at fin; exact fin
        · rw [if_neg g, if_pos na] at fin; exact fin
      · have na : n ≠ al := fun e => by have := q2.mpr (same.mpr e); omega
        rw [hHH]
        rintro h W ⟨w1, w2⟩
        have LW : LSS s W := k1.upd (fun c c1 c2 => w1 c (by omega) (by omega) (by omega) (by omega)) (fun i _ => by rw [w1 81 (by decide) (by decide) (by decide) (by decide)])
        have BW : ∀ c : Nat, c ≠ 81 → ¬ (99 ≤ c ∧ c ≤ 117) → W c = B c := fun c c1 c2 => by rw [w1 c (by omega) (by omega) (by omega) (by omega), kB c c1 c2]
        have W81 : W 81 = S 81 := w1 81 (by decide) (by decide) (by decide) (by decide)
        rw [w2]
        have better : (v = -1 ∨ H n < v) → CallV LY d MX12_movesOrder [.inr 75, .inl 19, .inl 20] W (fun s4 => CallI LY d MX12_nextOrder [.inr 75] s4 (fun r5 s5 => G LY X 72 [rv 75, iv w, iv (H n), iv r5, none] [] s5)) := by
          intro g
          refine ⟨0, _, by omega, t_X12_movesOrder (by decide) (by decide) (by decide), ?_⟩
          rintro T hT
          have T81 : ∀ i : Int, i < 160 → T 81 i = S 81 i := fun i hi' => by rw [hT, fillR_out (by omega), W81]
          refine step T (H n) n (LW.upd (fun c c1 _ => by rw [hT, fillR_row c1]) (fun i hi' => by rw [T81 i (by omega), W81])) (fun c c1 c2 => by rw [hT, fillR_row c1, BW c c1 c2]) (fun i i0 i1 => by rw [T81 _ (by omega)]; exact k2 i i0 i1) (Or.inr hn) (fun _ i i0 i1 => ?_) (fun g2 => ?_) (fun g2 => ?_)
          · rw [hT, fillR_in (by omega), W81, show 8 * 19 + (160 + i - 8 * 20) = 152 + i by omega, k2 i i0 i1]
          · rw [if_pos g2, if_neg na, if_pos g] at fin; exact fin
          · rw [if_neg g2, if_neg na, if_pos g] at fin; exact fin
        refine ⟨rv', fun z2 => better (Or.inl z2), fun z2 => ⟨⟨⟨by omega, by omega⟩, rv'⟩, fun z3 => ?_, fun z3 => better (Or.inr z3)⟩⟩
        refine step W v bt LW BW (by rw [W81]; exact k2) kv (by rw [W81]; exact k4) (fun g => ?_) (fun g => ?_)
        · rw [if_pos g, if_neg na, if_neg (by omega)] at fin; exact fin
        · rw [if_neg g, if_neg na, if_neg (by omega)] at fin; exact fin
set_option maxHeartbeats 4000000 in
theorem op_least [Inhabited YT] {s : Sto} (h : Inv s) {w : Int} (hw : rg w) : OpI MX11_least MX12_least [.inl w] s := by
  have lr := h.lr
  have K8 := lr.2.1.1
  have n1 := h.nms.1
  have e30 : s 3 0 = s 75 9 := lr.1.1
  have hb := h.2.2.2.2.1
  have ob := lr.2.1.bd
  obtain ⟨al, ha⟩ := Int.eq_ofNat_of_zero_le ob.1
  have hH : ∀ n : Nat, vdN (s 75 9).toNat n = true → 0 ≤ hmF s (fun k => begS s 81 (8 * 0 + k)) n ∧ hmF s (fun k => begS s 81 (8 * 0 + k)) n ≤ 475200 := fun n vd => by
    have := hrS_bd (w0 := wvF s (fun k => begS s 81 (8 * 0 + k))) (w1 := wvF s (dgI (s 75 9) n)) n1 (fun p p0 p1 => lr.wvb ⟨p0, p1⟩) (fun p p0 p1 => WV_F_bd lr.nms lr.sts (dg_OdR K8 vd) ⟨p0, p1⟩) (s 75 4).toNat (by omega)
    unfold hmF
    omega
  obtain ⟨R, hR⟩ : ∃ R : Int × Nat, R = lsF (hmF s (fun k => begS s 81 (8 * 0 + k))) al (s 75 9).toNat 720 (idN (s 75 9).toNat) (-1) al := ⟨_, rfl⟩
  refine ⟨5, 7, (fun r1 s1 => (∀ c : Nat, c ≠ 69 → ¬ (47 ≤ c ∧ c ≤ 51) → ¬ (70 ≤ c ∧ c ≤ 72) → s1 c = s c) ∧ ((¬ (s 75 9 ≤ 6 ∧ (w = 0 ∨ (10 ≤ w ∧ w < 10 + s 75 9))) ∧ r1 = -1) ∨ ((s 75 9 ≤ 6 ∧ (w = 0 ∨ (10 ≤ w ∧ w < 10 + s 75 9))) ∧ r1 = if w = 0 then R.1 else xand (xshr (R.2 : Int) (3 * (s 75 9 - 1 - (w - 10)))) 7))), by decide, by decide, ?_, ?_⟩
  · refine ClI.intro (by decide) rfl (Nat.le_of_ble_eq_true rfl) (fun X C r => ?_)
    have nil : ∀ c : Nat, c ≠ 69 → ¬ (47 ≤ c ∧ c ≤ 51) → ¬ (70 ≤ c ∧ c ≤ 72) → s c = s c := fun _ _ _ _ => rfl
    have go : s 75 9 ≤ 6 → (w = 0 ∨ (10 ≤ w ∧ w < 10 + s 75 9)) → CallV LY 5 MX3_findLeastHarm [.inr 69, .inr 3, .inr 46] s (fun s1 => (rg w) ∧ ((w ≠ 0 → CallI LY 5 MX5_orderLetter [.inl (s1 69 6), .inl (s1 3 0), .inl (w - 10)] s1 (fun r2 s2 => (∀ c : Nat, c ≠ 69 → ¬ (47 ≤ c ∧ c ≤ 51) → ¬ (70 ≤ c ∧ c ≤ 72) → s2 c = s c) ∧ ((¬ (s 75 9 ≤ 6 ∧ (w = 0 ∨ (10 ≤ w ∧ w < 10 + s 75 9))) ∧ r2 = -1) ∨ ((s 75 9 ≤ 6 ∧ (w = 0 ∨ (10 ≤ w ∧ w < 10 + s 75 9))) ∧ r2 = if w = 0 then R.1 else xand (xshr (R.2 : Int) (3 * (s 75 9 - 1 - (w - 10)))) 7)))) ∧ (w = 0 → (∀ c : Nat, c ≠ 69 → ¬ (47 ≤ c ∧ c ≤ 51) → ¬ (70 ≤ c ∧ c ≤ 72) → s1 c = s c) ∧ ((¬ (s 75 9 ≤ 6 ∧ (w = 0 ∨ (10 ≤ w ∧ w < 10 + s 75 9))) ∧ s1 69 5 = -1) ∨ ((s 75 9 ≤ 6 ∧ (w = 0 ∨ (10 ≤ w ∧ w < 10 + s 75 9))) ∧ s1 69 5 = if w = 0 then R.1 else xand (xshr (R.2 : Int) (3 * (s 75 9 - 1 - (w - 10)))) 7))))) := by
      intro g1 g2
      refine ⟨4, _, by decide, t_leastX lr h.namesR ha hH (ok_all ⟨K8.1, g1⟩).1, ?_⟩
      rw [← hR]
      rintro x ⟨x1, x2, x3⟩
      refine ⟨hw, fun z => ⟨0, _, by decide, t_X5_orderLetter, ?_⟩, fun z => ⟨x1, Or.inr ⟨⟨g1, g2⟩, by rw [x2, if_pos z]⟩⟩⟩
      rintro v y ⟨hy, hv⟩
      rw [hy]
      refine ⟨x1, Or.inr ⟨⟨g1, g2⟩, ?_⟩⟩
      rw [hv, if_neg z, x3, x1 3 (by decide) (by decide) (by decide), e30]
    refine kb_X11_least_0 C r ?_
    rw [e30]
    exact ⟨⟨by omega, by omega⟩, fun z => ⟨nil, Or.inl ⟨by omega, rfl⟩⟩, fun z => ⟨hw, fun z2 => go z (Or.inl z2), fun z2 => ⟨hw, fun z3 => ⟨nil, Or.inl ⟨by omega, rfl⟩⟩, fun z3 => ⟨⟨hw, ⟨by omega, by omega⟩⟩, fun z4 => go z (Or.inr ⟨z3, z4⟩), fun z4 => ⟨nil, Or.inl ⟨by omega, rfl⟩⟩⟩⟩⟩⟩
  · rintro r1 s1 ⟨g1, g2⟩
    have iz : Inv (up s1 75 0 0) := (h.scr (fun c j hc => by rw [g1 c (by unfold pers perM at hc; omega) (by unfold pers perM at hc; omega) (by unfold pers perM at hc; omega)])).told 0
    have ez : ∀ c : Nat, c ≠ 75 → c ≠ 69 → ¬ (47 ≤ c ∧ c ≤ 51) → ¬ (70 ≤ c ∧ c ≤ 72) → up s1 75 0 0 c = s c := fun c c1 c2 c3 c4 => by rw [up_row c1, g1 c c2 c3 c4]
    have z75 : ∀ j : Int, j ≠ 0 → up s1 75 0 0 75 j = s 75 j := fun j hj => by rw [up_idx hj, g1 75 (by decide) (by decide) (by decide)]
    have no : ¬ (s 75 9 ≤ 6 ∧ (w = 0 ∨ (10 ≤ w ∧ w < 10 + s 75 9))) → -1 = r1 := fun q => by
      rcases g2 with g | g
      · exact g.2.symm
      · exact absurd g.1 q
    -- what was found
    have fnd : s 75 9 ≤ 6 → 0 ≤ R.1 ∧ R.1 ≤ 475200 ∧ vdN (s 75 9).toNat R.2 = true := fun k6 => by
      have okk := ok_all ⟨K8.1, k6⟩
      have p := lsf (f := 718) (al := al) (b := al) (fun n vd => (hH n vd).1) okk.1 okk.2.1 okk.2.2
      rcases lsv (H := hmF s (fun k => begS s 81 (8 * 0 + k))) (al := al) 720 (idN (s 75 9).toNat) (-1) al okk.1 with q | ⟨m, m1, m2⟩
      · rw [q] at p
        exact absurd p (by show ¬ (0 : Int) ≤ -1; decide)
      · rw [hR, m2]
        exact ⟨(hH m m1).1, (hH m m1).2, m1⟩
    refine ⟨?_, ?_⟩
    · rcases g2 with g | g
      · rw [g.2]; decide
      · rw [g.2]
        have f := fnd g.1.1
        by_cases q : w = 0
        · rw [if_pos q]; exact ⟨by omega, by omega⟩
        · rw [if_neg q, (dg_OdR K8 f.2.2).letter (by omega)]
          have := (dg_OdR K8 f.2.2).2.1 (w - 10) (by omega) (by omega)
          exact ⟨by omega, by omega⟩
    generalize hz : up s1 75 0 0 = z at *
    have zb : z 75 22 = 0 ∨ z 75 22 = 1 := by rw [z75 22 (by decide)]; exact hb
    have e81 : begS z 81 = begS s 81 := begS_81 (z75 22 (by decide)) (ez 81 (by decide) (by decide) (by decide) (by decide))
    have LB : LSS s (begS z) := by
      refine ⟨fun c => ?_, begS_22 zb, fun i i1 i2 => by rw [begS_75 i2, z75 i i1], fun i _ => by rw [e81]⟩
      by_cases q : (3 ≤ c ∧ c ≤ 20) ∨ (76 ≤ c ∧ c ≤ 97)
      · by_cases q2 : c = 81
        · exact Or.inr (Or.inl q2)
        · exact Or.inr (Or.inr (Or.inr (Or.inr (by rw [begS_row (by omega) q2, ez c (by omega) (by omega) (by omega) (by omega)]))))
      · omega
    refine ClI.intro (by decide) rfl (Nat.le_of_ble_eq_true rfl) (fun X C r => ?_)
    refine kb_X12_least_0 C r ?_
    rintro z' hz'
    rw [hz] at hz'
    rw [hz']
    refine ⟨0, _, by decide, t_X12_begins zb, ?_⟩
    rintro y hy
    have y9 : y 75 9 = s 75 9 := by rw [hy, begS_75 (by decide), z75 9 (by decide)]
    rw [y9]
    have iy : Inv y := by rw [hy]; exact iz.beg
    have LY' : LSS s y := by rw [hy]; exact LB
    have go : s 75 9 ≤ 6 → (w = 0 ∨ (10 ≤ w ∧ w < 10 + s 75 9)) → G LY X 43 [rv 75, iv w, iv 0, none, none] [] y := by
      intro k6 kw
      have f := fnd k6
      have okk := ok_all ⟨K8.1, k6⟩
      have idd : ∀ i : Int, 0 ≤ i → i < s 75 9 → dgI (s 75 9) (idN (s 75 9).toNat) i = i := fun i i0 i1 => by
        unfold dgI idN
        rw [dg_pk (fun j hj => by omega) (by omega)]
        omega
      have init : ∀ S : Sto, (∀ x : Nat, x ≠ 81 → S x = y x) → (∀ i : Int, ¬ (152 ≤ i ∧ i < 160) → S 81 i = y 81 i) → (∀ i : Int, 0 ≤ i → i < 0 → S 81 (152 + i) = i) → G LY X 43 [rv 75, iv w, iv 0, none, none] [] S := by
        refine downI (P := fun k => ∀ S : Sto, (∀ x : Nat, x ≠ 81 → S x = y x) → (∀ i : Int, ¬ (152 ≤ i ∧ i < 160) → S 81 i = y 81 i) → (∀ i : Int, 0 ≤ i → i < k → S 81 (152 + i) = i) → G LY X 43 [rv 75, iv w, iv k, none, none] [] S) (a := 0) (b := s 75 9) (by omega) ?_ ?_
        · intro S j1 j2 j3
          refine kb_X12_least_43 C r ?_
          rw [j1 75 (by decide), y9]
          refine ⟨⟨⟨by omega, by omega⟩, ⟨by omega, by omega⟩⟩, fun _ => ?_, fun z => absurd z (by omega)⟩
          refine t_leastM h (by decide) C r k6 hw kw ha hH (R := R) f.1 y (fun T t1 t2 => ⟨?_, iy.scr (fun c j hc => ?_)⟩) 720 (idN (s 75 9).toNat) (-1) al S okk.1 (LY'.upd (fun c c1 _ => j1 c c1) (fun i hi => j2 i (by omega))) (fun c c1 _ => j1 c c1) (fun i i0 i1 => by rw [j3 i i0 i1, idd i i0 i1]) (Or.inl rfl) (fun q => absurd rfl q) hR.symm
          · rcases g2 with g | g
            · exact absurd ⟨k6, kw⟩ g.1
            · rw [g.2]
              by_cases q : w = 0
              · rw [if_pos q, if_pos q]
              · rw [if_neg q, if_neg q, (dg_OdR K8 f.2.2).letter (by omega)]
          · by_cases q : c = 81
            · subst q
              rw [t1.2.2.2 j (by unfold pers perM at hc; omega), LY'.2.2.2 j (by unfold pers perM at hc; omega)]
            · rw [t2 c q (by unfold pers perM at hc; omega)]
        · intro k k0 k1 ih S j1 j2 j3
          refine kb_X12_least_43 C r ?_
          rw [j1 75 (by decide), y9]
          refine ⟨⟨⟨by omega, by omega⟩, ⟨by omega, by omega⟩⟩, fun z => absurd z (by omega), fun _ => ⟨⟨by omega, by omega⟩, ?_⟩⟩
          rintro T hT
          refine ih T (fun x hx => by rw [hT, up_row hx, j1 x hx]) (fun i hi => by rw [hT, up_idx (by omega), j2 i hi]) (fun i i0 i1 => ?_)
          rw [hT, up_if]
          by_cases e : i = k
          · rw [if_pos (by omega), e]
          · rw [if_neg (by omega)]; exact j3 i i0 (by omega)
      exact init y (fun _ _ => rfl) (fun _ _ => rfl) (fun i i0 i1 => absurd i1 (by omega))
    refine ⟨⟨by omega, by omega⟩, fun q => ⟨no (by omega), iy⟩, fun q => ⟨hw, fun q2 => go q (Or.inl q2), fun q2 => ⟨0, _, by decide, t_X12_isIn hw (by decide) ⟨by omega, by omega⟩, ?_⟩⟩⟩
    rintro b t ⟨ht, b1, b2⟩
    rw [ht]
    exact ⟨⟨by omega, by omega⟩, fun q3 => go q (Or.inr (by omega)), fun q3 => ⟨no (by omega), iy⟩⟩
