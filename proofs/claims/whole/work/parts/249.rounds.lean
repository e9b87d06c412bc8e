/-! REST in the reference: a round -/
theorem samN.bst {t t' : Sto} (h : samN t t') (od : Int → Int) (p : Int) : ∀ k : Nat, bstF t' od p k = bstF t od p k
  | 0 => rfl
  | k + 1 => by
    show @ite _ (okF t' od p (20 + k) (wvF t' od p) ≠ 0 ∧ (bstF t' od p k).1 < gnF t' od p (20 + k)) (Classical.propDecidable _) (gnF t' od p (20 + k), (k : Int)) (bstF t' od p k) = @ite _ (okF t od p (20 + k) (wvF t od p) ≠ 0 ∧ (bstF t od p k).1 < gnF t od p (20 + k)) (Classical.propDecidable _) (gnF t od p (20 + k), (k : Int)) (bstF t od p k)
    rw [h.bst od p k, h.ok, h.wv, h.gn]
theorem samN.ch {t t' : Sto} (h : samN t t') (od : Int → Int) (g p : Int) : cho t' od g p = cho t od g p := by
  unfold cho
  rw [h.bst]
theorem LM.mv {u s : Sto} {od : Int → Int} (h : LM u s od) {a p : Int} (ha : nmB s a) : LM u (mvN s a p) od := by
  obtain ⟨h1, h2, h3⟩ := h
  have e75 : mvN s a p 75 = s 75 := mvN_o (by decide) (by decide)
  refine ⟨h1.mv ha, ⟨by rw [e75]; exact h2.1, fun i => ?_⟩, fun c c1 c2 => by rw [mvN_o (by omega) (by omega), h3 c c1 c2]⟩
  rw [begS_81 (s := s) (by rw [e75]) (mvN_o (by decide) (by decide))]
  exact h2.2 i
def okC (c : Nat) (i : Int) : Prop := ¬ (99 ≤ c ∧ c ≤ 107) ∧ c ≠ 76 ∧ c ≠ 77 ∧ ¬ (c = 75 ∧ (i = 53 ∨ i = 54 ∨ i = 55))
/-- all else as in s, or as in s with the ORDERS begun -/
def FR (s S : Sto) : Prop := (∀ (c : Nat) (i : Int), okC c i → S c i = s c i) ∨ (∀ (c : Nat) (i : Int), okC c i → S c i = begS s c i)
theorem begS_at (s : Sto) (c : Nat) (i : Int) : begS s c i = if s 75 22 = 0 then (if c = 81 ∧ 0 ≤ i ∧ i < 0 + 8 then i - 0 else if c = 75 ∧ i = 22 then 1 else s c i) else s c i := by
  unfold begS
  by_cases q : s 75 22 = 0
  · rw [if_pos q, if_pos q]
    rfl
  · rw [if_neg q, if_neg q]
theorem begS_ok {s S : Sto} (h : ∀ (c : Nat) (i : Int), okC c i → S c i = s c i) : ∀ (c : Nat) (i : Int), okC c i → begS S c i = begS s c i := by
  intro c i hc
  rw [begS_at, begS_at, h 75 22 (by unfold okC; omega), h c i hc]
theorem FR.refl (s : Sto) : FR s s := Or.inl (fun _ _ _ => rfl)
theorem FR.trans {s S S' : Sto} (hs : s 75 22 = 0 ∨ s 75 22 = 1) (h1 : FR s S) (h2 : FR S S') : FR s S' := by
  rcases h1 with h1 | h1
  · rcases h2 with h2 | h2
    · exact Or.inl (fun c i hc => by rw [h2 c i hc, h1 c i hc])
    · exact Or.inr (fun c i hc => by rw [h2 c i hc, begS_ok h1 c i hc])
  · rcases h2 with h2 | h2
    · exact Or.inr (fun c i hc => by rw [h2 c i hc, h1 c i hc])
    · have : S 75 22 = 1 := by rw [h1 75 22 (by unfold okC; omega), begS_22 hs]
      exact Or.inr (fun c i hc => by rw [h2 c i hc, begS_1 this, h1 c i hc])
theorem FR.of {s S : Sto} (h : ∀ c : Nat, ¬ (99 ≤ c ∧ c ≤ 107) → S c = begS s c) : FR s S := Or.inr (fun c i hc => by rw [h c (by unfold okC at hc; omega)])
theorem FR.mv {s : Sto} {a p : Int} : FR s (mvN s a p) := Or.inl (fun c i hc => by rw [mvN_o (by unfold okC at hc; omega) (by unfold okC at hc; omega)])
theorem FR.at75 {s S : Sto} (h : FR s S) {i : Int} (hi : i ≠ 22 ∧ i ≠ 53 ∧ i ≠ 54 ∧ i ≠ 55) : S 75 i = s 75 i := by
  rcases h with h | h
  · exact h 75 i (by unfold okC; omega)
  · rw [h 75 i (by unfold okC; omega), begS_75 hi.1]
theorem rwS.nb {T T' : Sto} (h : rwS T T') {a : Int} (ha : 20 ≤ a) (hb : nmB T a) : nmB T' a := by
  have e := (h a ha).1
  refine ⟨by rw [e]; exact hb.1, fun i i0 i1 => ?_⟩
  rw [e] at i1
  rw [(h a ha).2 i i0 (by have := hb.1; omega)]
  exact hb.2 i i0 i1
theorem rwS.refl (T : Sto) : rwS T T := fun _ _ => ⟨rfl, fun _ _ _ => rfl⟩
theorem rwS.trans {T T' T'' : Sto} (h : rwS T T') (h2 : rwS T' T'') : rwS T T'' := fun a ha => ⟨(h2 a ha).1.trans (h a ha).1, fun i i0 i1 => ((h2 a ha).2 i i0 i1).trans ((h a ha).2 i i0 i1)⟩
theorem rwS.mv {T : Sto} {a p : Int} (hp : p < 20) : rwS T (mvN T a p) := fun b hb => by
  refine ⟨by rw [mvN_76]; exact if_neg (by omega), fun i i0 i1 => ?_⟩
  rw [mvN_77]
  exact if_neg (by omega)
theorem rnS_rw (t : Sto) (od : Int → Int) (g : Int) : ∀ k : Nat, k ≤ 20 → rwS t (rnS t od g k)
  | 0, _ => rwS.refl t
  | k + 1, hk => by
    refine (rnS_rw t od g k (by omega)).trans ?_
    show rwS _ (stpF (rnS t od g k) od g k)
    unfold stpF
    by_cases q : cho (rnS t od g k) od g k = -1
    · rw [if_pos q]; exact rwS.refl _
    · rw [if_neg q]; exact rwS.mv (by omega)
/-- what a round leaves alone besides -/
def KP (s S : Sto) : Prop := S 107 = s 107 ∧ ∀ i : Int, i = 53 ∨ i = 54 ∨ i = 55 → S 75 i = s 75 i
theorem KP.to {s S S' : Sto} (h : KP s S) (e : ∀ c : Nat, ¬ (99 ≤ c ∧ c ≤ 106) → S' c = begS S c) : KP s S' := ⟨by rw [e 107 (by decide), begS_row (by decide) (by decide), h.1], fun i hi => by rw [e 75 (by decide), begS_75 (by omega), h.2 i hi]⟩
theorem KP.mv {s S : Sto} (h : KP s S) {a p : Int} : KP s (mvN S a p) := by
  unfold KP
  rw [mvN_o (by decide) (by decide), mvN_o (by decide) (by decide)]
  exact h
set_option maxHeartbeats 4000000 in
theorem t_X12_rounds {u s t : Sto} {od : Int → Int} {g : Int} (hL : LM u s od) (e : samN t s) (hg : s 75 8 = g ∧ 0 ≤ g ∧ g ≤ 10) (hM : ∀ i : Int, 0 ≤ i → i < g → nmB t (20 + i)) : ClI LY 8 MX12_rounds [.inr 75] s (fun r s' => r = rnN t od g (t 75 4).toNat ∧ LM u s' od ∧ samN (rnS t od g (t 75 4).toNat) s' ∧ FR s s' ∧ KP s s') := by
  have hb := hL.2.1.1
  have n1 := (hL.1.nms).1
  rw [e.2.1] at n1
  refine ClI.intro (by decide) rfl (Nat.le_of_ble_eq_true rfl) (fun X C r => ?_)
  refine kb_X12_rounds_0 C r ?_
  have key : ∀ S : Sto, (LM u S od ∧ samN (rnS t od g (0 : Int).toNat) S ∧ FR s S ∧ KP s S) → G LY X 4 [rv 75, iv (rnN t od g (0 : Int).toNat), iv 0, none, none, none, none, none] [] S := by
    refine downI (P := fun p => ∀ S : Sto, (LM u S od ∧ samN (rnS t od g p.toNat) S ∧ FR s S ∧ KP s S) → G LY X 4 [rv 75, iv (rnN t od g p.toNat), iv p, none, none, none, none, none] [] S) (a := 0) (b := t 75 4) n1.1 ?_ ?_
    · rintro S ⟨k1, k2, k3, k4⟩
      refine kb_X12_rounds_4 C r ?_
      rw [k2.2.1, rnS_75]
      exact ⟨⟨⟨by omega, by omega⟩, ⟨by omega, by omega⟩⟩, fun _ => ⟨rfl, k1, k2, k3, k4⟩, fun z => absurd z (by omega)⟩
    · rintro p p0 p1 ih S ⟨k1, k2, k3, k4⟩
      rw [rnS_s t od g p0, rnN_s t od g p0] at ih
      have hM' : ∀ i : Int, 0 ≤ i → i < g → nmB (rnS t od g p.toNat) (20 + i) := fun i i0 i1 => (rnS_rw t od g p.toNat (by omega)).nb (by omega) (hM i i0 i1)
      have T75 := rnS_75 t od g p.toNat
      have bc := rnN_bd t od g p.toNat
      generalize rnS t od g p.toNat = T at *
      generalize rnN t od g p.toNat = N at *
      have hp : 0 ≤ p ∧ p < S 75 4 := by rw [k2.2.1, T75]; exact ⟨p0, p1⟩
      refine kb_X12_rounds_4 C r ?_
      rw [k2.2.1, T75]
      refine ⟨⟨⟨by omega, by omega⟩, ⟨by omega, by omega⟩⟩, fun z => absurd z (by omega), fun _ => ⟨5, _, by decide, t_wofM k1 hp, ?_⟩⟩
      rintro wo y ⟨y1, y2⟩
      have ey : ∀ c : Nat, ¬ (99 ≤ c ∧ c ≤ 106) → y c = begS S c := fun c hc => y1 c (by omega) (by omega) (by omega)
      obtain ⟨ly, sy, _⟩ := k1.work (s' := y) (fun c hc => ey c (by omega))
      have ky : LM u y od ∧ samN T y ∧ FR s y ∧ KP s y := ⟨ly, k2.trans sy, k3.trans hb (FR.of (fun c hc => ey c (by omega))), k4.to ey⟩
      rw [k2.wv] at y2
      have hpT : 0 ≤ p ∧ p < T 75 4 := by rw [T75]; exact ⟨p0, p1⟩
      have lrT : LR u T od := ky.1.1.sam ky.2.1.symm
      have bw := lrT.wvb hpT
      have gb : ∀ k : Int, 0 ≤ k → k < g → -200000 ≤ gnF T od p (20 + k) ∧ gnF T od p (20 + k) ≤ 200000 := fun k k0 k1 => lrT.gnb hpT (hM' k k0 k1)
      have bs := bstF_bd (t := T) (od := od) (p := p) (g := g.toNat) (fun k k0 k1 => (gb k k0 (by omega)).2)
      have inner : ∀ S : Sto, (LM u S od ∧ samN T S ∧ FR s S ∧ KP s S) → G LY X 28 [rv 75, iv N, iv p, iv (bstF T od p (0 : Int).toNat).2, iv (bstF T od p (0 : Int).toNat).1, iv wo, iv 0, none] [] S := by
        refine downI (P := fun i => ∀ S : Sto, (LM u S od ∧ samN T S ∧ FR s S ∧ KP s S) → G LY X 28 [rv 75, iv N, iv p, iv (bstF T od p i.toNat).2, iv (bstF T od p i.toNat).1, iv wo, iv i, none] [] S) (a := 0) (b := g) hg.2.1 ?_ ?_
        · rintro S ⟨k1, k2, k3, k4⟩
          have b1 := bs g.toNat (by omega)
          have ec : (bstF T od p g.toNat).2 = cho T od g p := rfl
          refine kb_X12_rounds_28 C r ?_
          rw [k3.at75 (by decide), hg.1]
          rw [ec] at b1 ⊢
          unfold stpF at ih
          refine ⟨⟨⟨by omega, by omega⟩, ⟨by omega, by omega⟩⟩, fun _ => ⟨⟨by omega, by omega⟩, fun z => ?_, fun z => ?_⟩, fun z => absurd z (by omega)⟩
          · rw [if_neg z, if_neg z] at ih
            refine ⟨0, _, by decide, t_X12_movesName (by omega) (by omega) (by omega), ?_⟩
            rintro f hf
            have hf' : f = mvN S (20 + cho T od g p) p := hf
            rw [hf']
            have nb := k2.nb (hM' (cho T od g p) (by omega) (by omega))
            exact ih _ ⟨k1.mv nb, k2.mv _ _, k3.trans hb FR.mv, k4.mv⟩
          · rw [if_pos z, if_pos z, Int.add_zero] at ih
            exact ih S ⟨k1, k2, k3, k4⟩
        · rintro i i0 i1 ih2 S ⟨k1, k2, k3, k4⟩
          have b1 := bs i.toNat (by omega)
          have gi := gb i i0 i1
          have hp : 0 ≤ p ∧ p < S 75 4 := by rw [k2.2.1]; exact hpT
          have no : (okF T od p (20 + i) (wvF T od p) = 0 ∨ gnF T od p (20 + i) ≤ (bstF T od p i.toNat).1) → ∀ S : Sto, (LM u S od ∧ samN T S ∧ FR s S ∧ KP s S) → G LY X 28 [rv 75, iv N, iv p, iv (bstF T od p i.toNat).2, iv (bstF T od p i.toNat).1, iv wo, iv (i + 1), none] [] S := fun q S' hS' => by
            have := ih2 S' hS'
            rw [bstF_n i0 q] at this
            exact this
          have yes : okF T od p (20 + i) (wvF T od p) ≠ 0 → (bstF T od p i.toNat).1 < gnF T od p (20 + i) → ∀ S : Sto, (LM u S od ∧ samN T S ∧ FR s S ∧ KP s S) → G LY X 28 [rv 75, iv N, iv p, iv i, iv (gnF T od p (20 + i)), iv wo, iv (i + 1), none] [] S := fun q q2 S' hS' => by
            have := ih2 S' hS'
            rw [bstF_y i0 q q2] at this
            exact this
          generalize bstF T od p i.toNat = B at *
          refine kb_X12_rounds_28 C r ?_
          rw [k3.at75 (by decide), hg.1]
          refine ⟨⟨⟨by omega, by omega⟩, ⟨by omega, by omega⟩⟩, fun z => absurd z (by omega), fun _ => ⟨2, _, by decide, t_mayM k1 hp (by omega) (k2.nb (hM' i i0 i1)) (by rw [y2]; exact ⟨by omega, by omega⟩), ?_⟩⟩
          rintro b x ⟨x1, x2, x3⟩
          rw [k2.ok, y2] at x3
          have ex : ∀ c : Nat, ¬ (99 ≤ c ∧ c ≤ 106) → x c = begS S c := fun c hc => x1 c (by omega) (by omega) (by omega)
          obtain ⟨lx, sx, _⟩ := k1.work (s' := x) (fun c hc => ex c (by omega))
          have kx : LM u x od ∧ samN T x ∧ FR s x ∧ KP s x := ⟨lx, k2.trans sx, k3.trans hb (FR.of (fun c hc => ex c (by omega))), k4.to ex⟩
          refine ⟨⟨by omega, by omega⟩, fun z => ⟨7, _, by decide, t_gainM lx (a := 20 + i) (by rw [kx.2.1.2.1]; exact hpT) (by omega) (kx.2.1.nb (hM' i i0 i1)), ?_⟩, fun z => no (Or.inl (by omega)) x kx⟩
          rintro gn w ⟨w1, w2⟩
          rw [kx.2.1.gn] at w2
          obtain ⟨lw, sw, _⟩ := lx.work (s' := w) (fun c hc => w1 c (by omega))
          have kw : LM u w od ∧ samN T w ∧ FR s w ∧ KP s w := ⟨lw, kx.2.1.trans sw, kx.2.2.1.trans hb (FR.of (fun c hc => w1 c (by omega))), kx.2.2.2.to (fun c hc => w1 c (by omega))⟩
          rw [w2]
          exact ⟨⟨⟨by omega, by omega⟩, ⟨by omega, by omega⟩⟩, fun z2 => yes (by omega) z2 w kw, fun z2 => no (Or.inr z2) w kw⟩
      exact inner y ky
  exact key s ⟨hL, e, FR.refl s, rfl, fun _ _ => rfl⟩
