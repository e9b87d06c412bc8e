/-! THE ORDER OF LEAST HARM -/
theorem t_X3_packedRow {K : Int} {n : Nat} {s : Sto} (hK : 2 ≤ K ∧ K ≤ 8) (hv : vdN K.toNat n = true) (hr : ∀ i : Int, 0 ≤ i → i < K → s 72 i = dgI K n i) : ClI LY 0 MX3_packedRow [.inr 69, .inl K] s (fun r s' => s' = s ∧ r = (n : Int)) := by
  refine ClI.intro (by decide) rfl (Nat.le_of_ble_eq_true rfl) (fun X C r => ?_)
  refine kb_X3_packedRow_0 C r ?_
  have rK : rg K := ⟨by omega, by omega⟩
  have od := dg_OdR hK hv
  have key : G LY X 4 [rv 69, iv K, iv (pq 8 (dgI K n) (0 : Int).toNat), iv 0] [] s := by
    refine downI (P := fun i => G LY X 4 [rv 69, iv K, iv (pq 8 (dgI K n) i.toNat), iv i] [] s) (a := 0) (b := K) (by omega) ?_ ?_
    · exact kb_X3_packedRow_4 C r ⟨⟨rK, rK⟩, fun _ => ⟨rfl, od.2.2.2.symm⟩, fun z => absurd z (by omega)⟩
    · intro i i0 i1 ih
      have b := pq_bd (B := 8) (f := dgI K n) (by decide) i.toNat (fun j hj => by have := od.2.1 j (by omega) (by omega); omega)
      have p8 : (8 : Int) ^ i.toNat ≤ 8 ^ 7 := by
        have : (8 : Nat) ^ i.toNat ≤ 8 ^ 7 := Nat.pow_le_pow_right (by decide) (by omega)
        exact_mod_cast this
      have d := od.2.1 i i0 i1
      have e : xor_ (xshl (pq 8 (dgI K n) i.toNat) 3) (dgI K n i) = pq 8 (dgI K n) (i + 1).toNat := by
        rw [show (i + 1).toNat = i.toNat + 1 by omega]
        show _ = 8 * pq 8 (dgI K n) i.toNat + dgI K n ((i.toNat : Nat) : Int)
        rw [Int.toNat_of_nonneg i0, xshl_int (by omega) (by decide) (by decide) (by show pq 8 (dgI K n) i.toNat * 8 ≤ _; omega)]
        show xor_ (pq 8 (dgI K n) i.toNat * 8) (dgI K n i) = _
        rw [xor_add 3 (by omega) (by omega) (by show pq 8 (dgI K n) i.toNat * 8 % 8 = 0; omega) d.1 (by show dgI K n i < 8; omega) (by omega)]
        omega
      refine kb_X3_packedRow_4 C r ⟨⟨⟨by omega, by omega⟩, rK⟩, fun z => absurd z (by omega), fun _ => ⟨⟨by omega, by omega⟩, ?_⟩⟩
      rw [hr i i0 i1, e]
      exact ih
  exact key
/-- one after the other, the first of the least -/
noncomputable def lsF (H : Nat → Int) (al K : Nat) : Nat → Nat → Int → Nat → Int × Nat
  | 0, _, v, b => (v, b)
  | f + 1, n, v, b => if frN K n (K - 1) = 0 then (if n = al then (v, b) else if v = -1 ∨ H n < v then (H n, n) else (v, b)) else if n = al then lsF H al K f (nxN K n) v b else if v = -1 ∨ H n < v then lsF H al K f (nxN K n) (H n) n else lsF H al K f (nxN K n) v b
theorem ls_keep {H : Nat → Int} {al K : Nat} (hH : ∀ n : Nat, 0 ≤ H n) : ∀ (f n : Nat) (v : Int) (b : Nat), 0 ≤ v → 0 ≤ (lsF H al K f n v b).1
  | 0, n, v, b, h => h
  | f + 1, n, v, b, h => by
    show 0 ≤ (if frN K n (K - 1) = 0 then (if n = al then (v, b) else if v = -1 ∨ H n < v then (H n, n) else (v, b)) else if n = al then lsF H al K f (nxN K n) v b else if v = -1 ∨ H n < v then lsF H al K f (nxN K n) (H n) n else lsF H al K f (nxN K n) v b).1
    split
    · split
      · exact h
      · split
        · exact hH n
        · exact h
    · split
      · exact ls_keep hH f _ _ _ h
      · split
        · exact ls_keep hH f _ _ _ (hH n)
        · exact ls_keep hH f _ _ _ h
theorem ls_found {H : Nat → Int} {al K n b : Nat} (hH : ∀ n : Nat, 0 ≤ H n) (h0 : frN K n (K - 1) ≠ 0) (h1 : nxN K n ≠ n) (f : Nat) : 0 ≤ (lsF H al K (f + 2) n (-1) b).1 := by
  show 0 ≤ (if frN K n (K - 1) = 0 then _ else if n = al then lsF H al K (f + 1) (nxN K n) (-1) b else if (-1 : Int) = -1 ∨ H n < -1 then lsF H al K (f + 1) (nxN K n) (H n) n else lsF H al K (f + 1) (nxN K n) (-1) b).1
  rw [if_neg h0]
  by_cases q : n = al
  · rw [if_pos q]
    have ne : nxN K n ≠ al := fun e => h1 (by rw [e, q])
    show 0 ≤ (if frN K (nxN K n) (K - 1) = 0 then (if nxN K n = al then ((-1 : Int), b) else if (-1 : Int) = -1 ∨ H (nxN K n) < -1 then (H (nxN K n), nxN K n) else (-1, b)) else if nxN K n = al then _ else if (-1 : Int) = -1 ∨ H (nxN K n) < -1 then lsF H al K f (nxN K (nxN K n)) (H (nxN K n)) (nxN K n) else _).1
    rw [if_neg ne, if_neg ne, if_pos (Or.inl rfl), if_pos (Or.inl rfl)]
    split
    · exact hH _
    · exact ls_keep hH f _ _ _ (hH _)
  · rw [if_neg q, if_pos (Or.inl rfl)]
    exact ls_keep hH _ _ _ _ (hH n)
noncomputable def hmF (s : Sto) (od : Int → Int) (n : Nat) : Int := hrS (wvF s od) (wvF s (dgI (s 75 9) n)) (s 75 4) (s 75 4).toNat
set_option maxHeartbeats 8000000 in
theorem t_leastX {u t : Sto} {od : Int → Int} (lr : LR u t od) (hN : NamesR (u 5 0) (u 6) (t 76) (t 77) 0) {al : Nat} (ha : u 3 2 = (al : Int)) (hH : ∀ n : Nat, vdN (t 75 9).toNat n = true → 0 ≤ hmF t od n ∧ hmF t od n ≤ 475200) (h0 : okN (t 75 9).toNat 720 (idN (t 75 9).toNat) = true) : ClV LY 4 MX3_findLeastHarm [.inr 69, .inr 3, .inr 46] u (fun s' => (∀ c : Nat, c ≠ 69 → ¬ (47 ≤ c ∧ c ≤ 51) → ¬ (70 ≤ c ∧ c ≤ 72) → s' c = u c) ∧ s' 69 5 = (lsF (hmF t od) al (t 75 9).toNat 720 (idN (t 75 9).toNat) (-1) al).1 ∧ s' 69 6 = (((lsF (hmF t od) al (t 75 9).toNat 720 (idN (t 75 9).toNat) (-1) al).2 : Nat) : Int)) := by
  have K8 := lr.2.1.1
  have e30 : u 3 0 = t 75 9 := lr.1.1
  refine ClV.intro (by decide) rfl (Nat.le_of_ble_eq_true rfl) (fun X C r => ?_)
  refine kb_X3_findLeastHarm_0 C r ⟨3, _, by decide, t_weigh lr hN, ?_⟩
  rintro a ⟨a1, a2, a3⟩
  rintro b hb c hc
  have bd := lr.2.1.bd
  -- order by order
  generalize hR : lsF (hmF t od) al (t 75 9).toNat 720 (idN (t 75 9).toNat) (-1) al = R at *
  have loop : ∀ (f n : Nat) (v : Int) (bt : Nat) (S : Sto), f ≤ 720 → okN (t 75 9).toNat f n = true → (∀ c : Nat, c ≠ 69 → ¬ (47 ≤ c ∧ c ≤ 50) → c ≠ 72 → S c = a c) → (∀ i : Int, 0 ≤ i → i < t 75 9 → S 72 i = dgI (t 75 9) n i) → S 69 5 = v → (v = -1 ∨ (0 ≤ v ∧ v ≤ 475200)) → S 69 6 = (bt : Int) → lsF (hmF t od) al (t 75 9).toNat f n v bt = R → G LY X 47 [rv 69, rv 3, rv 46, iv 1, iv (720 - (f : Int)), none, none] [] S := by
    intro f
    induction f with
    | zero =>
      intro n v bt S _ ok
      exact absurd (show false = true from ok) (by decide)
    | succ f ih =>
      intro n v bt S f720 ok k1 k2 k3 kv k4 fin
      obtain ⟨vd, nxt⟩ := ok_is ok
      have od2 := dg_OdR (n := n) K8 vd
      have nb := od2.bd
      have hn := hH n vd
      have S3 : S 3 = u 3 := by rw [k1 3 (by decide) (by decide) (by decide), a1 3 (by decide) (by decide) (by decide)]
      have lrS : LR S t od := lr.congr (fun c c1 c2 => by rw [k1 c (by omega) (by omega) (by omega), a1 c (by omega) (by omega) (by omega)])
      have nS : NamesR (S 5 0) (S 6) (t 76) (t 77) 0 := by
        rw [k1 5 (by decide) (by decide) (by decide), k1 6 (by decide) (by decide) (by decide), a1 5 (by decide) (by decide) (by decide), a1 6 (by decide) (by decide) (by decide)]
        exact hN
      -- the step to the next
      have step : ∀ (T : Sto) (v' : Int) (bt' : Nat), (∀ c : Nat, c ≠ 69 → ¬ (47 ≤ c ∧ c ≤ 50) → c ≠ 72 → T c = a c) → T 72 = S 72 → T 69 5 = v' → (v' = -1 ∨ (0 ≤ v' ∧ v' ≤ 475200)) → T 69 6 = (bt' : Int) → (frN (t 75 9).toNat n ((t 75 9).toNat - 1) = 0 → (v', bt') = R) → (frN (t 75 9).toNat n ((t 75 9).toNat - 1) ≠ 0 → lsF (hmF t od) al (t 75 9).toNat f (nxN (t 75 9).toNat n) v' bt' = R) → CallI LY 4 MX3_nextRow [.inr 69, .inl (t 75 9)] T (fun r2 s2 => G LY X 47 [rv 69, rv 3, rv 46, iv r2, iv (720 - ((f + 1 : Nat) : Int) + 1), none, none] [] s2) := by
        intro T v' bt' t1 t2 t3 tv t4 l0 l1
        refine ⟨1, _, by decide, t_X3_nextRow K8 vd (by rw [t2]; exact k2), ?_⟩
        rintro q W ⟨w1, w2⟩
        rcases w2 with ⟨w3, rfl⟩ | ⟨w3, rfl, w4⟩
        · have e := l0 w3
          have post : (∀ c : Nat, c ≠ 69 → ¬ (47 ≤ c ∧ c ≤ 51) → ¬ (70 ≤ c ∧ c ≤ 72) → W c = u c) ∧ W 69 5 = R.1 ∧ W 69 6 = ((R.2 : Nat) : Int) := by
            rw [← e]
            exact ⟨fun c c1 c2 c3 => by rw [w1 c (by omega), t1 c c1 (by omega) (by omega), a1 c (by omega) (by omega) (by omega)], by rw [w1 69 (by decide), t3], by rw [w1 69 (by decide), t4]⟩
          exact kb_X3_findLeastHarm_47 C r ⟨⟨by omega, by omega⟩, fun _ => post, fun _ => ⟨by decide, fun _ => post, fun z => absurd rfl z⟩⟩
        · have okn : okN (t 75 9).toNat f (nxN (t 75 9).toNat n) = true := by
            rcases nxt with z | z
            · exact absurd z w3
            · exact z
          have := ih (nxN (t 75 9).toNat n) v' bt' W (by omega) okn (fun c c1 c2 c3 => by rw [w1 c c3, t1 c c1 c2 c3]) w4 (by rw [w1 69 (by decide), t3]) tv (by rw [w1 69 (by decide), t4]) (l1 w3)
          rw [show 720 - ((f + 1 : Nat) : Int) + 1 = 720 - (f : Int) by omega]
          exact this
      have ls : lsF (hmF t od) al (t 75 9).toNat (f + 1) n v bt = if frN (t 75 9).toNat n ((t 75 9).toNat - 1) = 0 then (if n = al then (v, bt) else if v = -1 ∨ hmF t od n < v then (hmF t od n, n) else (v, bt)) else if n = al then lsF (hmF t od) al (t 75 9).toNat f (nxN (t 75 9).toNat n) v bt else if v = -1 ∨ hmF t od n < v then lsF (hmF t od) al (t 75 9).toNat f (nxN (t 75 9).toNat n) (hmF t od n) n else lsF (hmF t od) al (t 75 9).toNat f (nxN (t 75 9).toNat n) v bt := rfl
      rw [ls] at fin
      refine kb_X3_findLeastHarm_47 C r ⟨⟨by omega, by omega⟩, fun z => absurd z (by omega), fun _ => ⟨by decide, fun z => absurd z (by decide), fun _ => ?_⟩⟩
      rw [S3, e30]
      refine ⟨0, _, by decide, t_X3_packedRow K8 vd k2, ?_⟩
      rintro p y ⟨hy, hp⟩
      rw [hy, hp, S3, ha, e30]
      have bd' := bd
      rw [ha] at bd'
      refine ⟨⟨⟨by omega, by omega⟩, ⟨by omega, by omega⟩⟩, fun z => ?_, fun z => ?_⟩
      · have na : n = al := by omega
        refine step S v bt k1 rfl k3 kv k4 (fun q => ?_) (fun q => ?_)
        · rw [if_pos q, if_pos na] at fin; exact fin
        · rw [if_neg q, if_pos na] at fin; exact fin
      · have na : n ≠ al := by omega
        refine ⟨3, _, by decide, t_harm lrS nS od2 (fun p p0 p1 => by rw [k1 70 (by decide) (by decide) (by decide), k1 71 (by decide) (by decide) (by decide)]; exact a2 p p0 p1) (fun x x0 x1 => by rw [k1 51 (by decide) (by decide) (by decide)]; exact a3 x x0 x1), ?_⟩
        rintro h W ⟨w1, w2⟩
        have hh : h = hmF t od n := w2
        have W3 : W 3 0 = t 75 9 := by rw [w1 3 (by decide), S3, e30]
        have W69 : W 69 = S 69 := w1 69 (by decide)
        rw [W69, k3, hh, W3]
        have Wc : ∀ c : Nat, c ≠ 69 → ¬ (47 ≤ c ∧ c ≤ 50) → c ≠ 72 → W c = a c := fun c c1 c2 c3 => by rw [w1 c c2, k1 c c1 c2 c3]
        have better : (v = -1 ∨ hmF t od n < v) → ∀ T1 : Sto, T1 = up W 69 5 (hmF t od n) → ∀ T : Sto, T = up T1 69 6 (n : Int) → CallI LY 4 MX3_nextRow [.inr 69, .inl (T 3 0)] T (fun r2 s2 => G LY X 47 [rv 69, rv 3, rv 46, iv r2, iv (720 - ((f + 1 : Nat) : Int) + 1), none, none] [] s2) := by
          intro q T1 hT1 T hT
          have T3 : T 3 0 = t 75 9 := by rw [hT, up_row (by decide), hT1, up_row (by decide), W3]
          rw [T3]
          refine step T (hmF t od n) n (fun c c1 c2 c3 => by rw [hT, up_row c1, hT1, up_row c1, Wc c c1 c2 c3]) (by rw [hT, up_row (by decide), hT1, up_row (by decide), w1 72 (by decide)]) (by rw [hT, up_idx (by decide), hT1, up_at]) (Or.inr hn) (by rw [hT, up_at]) (fun q2 => ?_) (fun q2 => ?_)
          · rw [if_pos q2, if_neg na, if_pos q] at fin; exact fin
          · rw [if_neg q2, if_neg na, if_pos q] at fin; exact fin
        have rv' : rg v := by
          rcases kv with q | q
          · rw [q]; decide
          · exact ⟨by omega, by omega⟩
        refine ⟨rv', fun z2 => better (Or.inl z2), fun z2 => ⟨⟨⟨by omega, by omega⟩, rv'⟩, fun z3 => ?_, fun z3 => better (Or.inr z3)⟩⟩
        refine step W v bt Wc (w1 72 (by decide)) (by rw [W69, k3]) kv (by rw [W69, k4]) (fun q => ?_) (fun q => ?_)
        · rw [if_pos q, if_neg na, if_neg (by omega)] at fin; exact fin
        · rw [if_neg q, if_neg na, if_neg (by omega)] at fin; exact fin
  -- the first
  have b3 : b 3 2 = (al : Int) := by rw [hb, up_row (by decide), a1 3 (by decide) (by decide) (by decide), ha]
  have c69 : c 69 5 = -1 ∧ c 69 6 = (al : Int) := by
    rw [hc, up_idx (by decide), up_at, b3, hb, up_at]
    exact ⟨rfl, rfl⟩
  have idd : ∀ i : Int, 0 ≤ i → i < t 75 9 → dgI (t 75 9) (idN (t 75 9).toNat) i = i := fun i i0 i1 => by
    unfold dgI idN
    rw [dg_pk (fun j hj => by omega) (by omega)]
    omega
  have init : ∀ S : Sto, (∀ x : Nat, x ≠ 72 → S x = c x) → (∀ i : Int, 0 ≤ i → i < 0 → S 72 i = i) → G LY X 21 [rv 69, rv 3, rv 46, iv 0, none, none, none] [] S := by
    refine downI (P := fun k => ∀ S : Sto, (∀ x : Nat, x ≠ 72 → S x = c x) → (∀ i : Int, 0 ≤ i → i < k → S 72 i = i) → G LY X 21 [rv 69, rv 3, rv 46, iv k, none, none, none] [] S) (a := 0) (b := t 75 9) (by omega) ?_ ?_
    · intro S k1 k2
      have S3 : S 3 0 = t 75 9 := by rw [k1 3 (by decide), hc, up_row (by decide), hb, up_row (by decide), a1 3 (by decide) (by decide) (by decide), e30]
      refine kb_X3_findLeastHarm_21 C r ?_
      rw [S3]
      refine ⟨⟨⟨by omega, by omega⟩, ⟨by omega, by omega⟩⟩, fun _ => ?_, fun z => absurd z (by omega)⟩
      have := loop 720 (idN (t 75 9).toNat) (-1) al S (Nat.le_refl _) h0 (fun x x1 x2 x3 => by rw [k1 x x3, hc, up_row x1, hb, up_row x1]) (fun i i0 i1 => by rw [k2 i i0 i1, idd i i0 i1]) (by rw [k1 69 (by decide)]; exact c69.1) (Or.inl rfl) (by rw [k1 69 (by decide)]; exact c69.2) hR
      rw [show 720 - ((720 : Nat) : Int) = 0 by decide] at this
      exact this
    · intro k k0 k1' ih S k1 k2
      have S3 : S 3 0 = t 75 9 := by rw [k1 3 (by decide), hc, up_row (by decide), hb, up_row (by decide), a1 3 (by decide) (by decide) (by decide), e30]
      refine kb_X3_findLeastHarm_21 C r ?_
      rw [S3]
      refine ⟨⟨⟨by omega, by omega⟩, ⟨by omega, by omega⟩⟩, fun z => absurd z (by omega), fun _ => ⟨⟨by omega, by omega⟩, ?_⟩⟩
      rintro T hT
      refine ih T (fun x hx => by rw [hT, up_row hx, k1 x hx]) (fun i i0 i1 => ?_)
      rw [hT, up_if]
      by_cases e : i = k
      · rw [if_pos e, e]
      · rw [if_neg e]; exact k2 i i0 (by omega)
  exact init c (fun _ _ => rfl) (fun i i0 i1 => absurd i1 (by omega))
