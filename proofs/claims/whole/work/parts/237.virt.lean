/-! NAMES THOUGHT OF: the store t has the land's NAMES as they would be; the class's Queue in the store u knows them by their keys -/
theorem quS_uniqN {s : Sto} (h : NMS s) {o : Int} {od pl pl' : Int → Int} (hO : OdR (s 75 9) o od) (h1 : PlR (s 75 9) od pl) (h2 : PlR (s 75 9) od pl') : (∀ p : Int, 0 ≤ p → p < s 75 4 → sqS s pl p = sqS s pl' p) ∧ quS s pl = quS s pl' := by
  obtain ⟨n1, n2, n3, n4, n5⟩ := h
  have e : ∀ p : Int, 0 ≤ p → p < s 75 4 → sqS s pl p = sqS s pl' p := by
    intro p p1 p2
    have g := n2 p p1 p2
    refine sfx_congr _ (by omega) (fun k k1 k2 => ?_)
    show rkF (s 75 9) (s 82 0) pl (s 77 (6 * p + k)) = rkF (s 75 9) (s 82 0) pl' (s 77 (6 * p + k))
    unfold rkF
    by_cases q : s 77 (6 * p + k) < s 75 9
    · rw [if_pos q, if_pos q, h1.uniq h2 hO (g.2 k k1 k2).1 q]
    · rw [if_neg q, if_neg q]
  refine ⟨e, srtL_congr _ (fun p q p1 p2 q1 q2 => ?_)⟩
  unfold AHR
  rw [e p p1 (by omega), e q q1 (by omega)]
theorem WV.uniqN {s : Sto} (h : NMS s) {o : Int} {od : Int → Int} (hO : OdR (s 75 9) o od) {p v v' : Int} (h1 : WV s od p v) (h2 : WV s od p v') : v = v' := by
  obtain ⟨pl, i, a1, a2, a3, a4, a5⟩ := h1
  obtain ⟨pl', i', b1, b2, b3, b4, b5⟩ := h2
  rw [(quS_uniqN h hO b1 a1).2] at b4
  have hn := h.1
  have R : RowR (fun i => (quS s pl).getD (s 75 4 - 1 - i).toNat 0) ((s 75 4).toNat : Nat) (quS s pl) := by
    rw [Int.toNat_of_nonneg hn.1]
    refine ⟨?_, fun i _ _ => rfl⟩
    unfold quS
    rw [srtL_len, Int.toNat_of_nonneg hn.1]
  have := RowR.inj (row := fun i => (quS s pl).getD (s 75 4 - 1 - i).toNat 0) R (i := i) (j := i') a2 (by omega) b2 (by omega) (a4.trans b4.symm)
  rw [a5, b5, this]
theorem WV.valN {s : Sto} (h : NMS s) {o : Int} {od : Int → Int} (hO : OdR (s 75 9) o od) {p v : Int} (h1 : WV s od p v) : v = wvF s od p := h1.uniqN h hO (Classical.epsilon_spec (p := fun v => WV s od p v) ⟨v, h1⟩)
theorem WV.exN {s : Sto} (h : NMS s) {o p : Int} {od : Int → Int} (hO : OdR (s 75 9) o od) (hp : 0 ≤ p ∧ p < s 75 4) : WV s od p (wvF s od p) := by
  refine Classical.epsilon_spec (p := fun v => WV s od p v) ?_
  have hn := h.1
  have hpl : ∀ l : Int, ∃ i : Int, (0 ≤ l ∧ l < s 75 9) → 0 ≤ i ∧ i < s 75 9 ∧ od i = l := by
    intro l
    by_cases q : 0 ≤ l ∧ l < s 75 9
    · obtain ⟨i, g⟩ := hO.onto q.1 q.2
      exact ⟨i, fun _ => g⟩
    · exact ⟨0, fun z => absurd z q⟩
  let pl : Int → Int := fun l => Classical.choose (hpl l)
  have hP : PlR (s 75 9) od pl := by
    intro i i1 i2
    have b := hO.2.1 i i1 i2
    have g := Classical.choose_spec (hpl (od i)) b
    exact hO.2.2.1 _ _ g.1 g.2.1 i1 i2 g.2.2
  have R : RowR (fun i => (quS s pl).getD (s 75 4 - 1 - i).toNat 0) ((s 75 4).toNat : Nat) (quS s pl) := by
    rw [Int.toNat_of_nonneg hn.1]
    refine ⟨?_, fun i _ _ => rfl⟩
    unfold quS
    rw [srtL_len, Int.toNat_of_nonneg hn.1]
  obtain ⟨i, i1, i2, i3⟩ := RowR.onto (row := fun i => (quS s pl).getD (s 75 4 - 1 - i).toNat 0) R (p := p) hp.1 (by omega)
  exact ⟨_, pl, i, hP, i1, by omega, i3, rfl⟩
theorem WV.bdN {s : Sto} (h : NMS s) (hs : STS s) {od : Int → Int} {p v : Int} (h1 : WV s od p v) : -594 ≤ v ∧ v ≤ 594 := by
  obtain ⟨pl, i, a1, a2, a3, a4, a5⟩ := h1
  have := psm_bd (sd := s 83) (fi := s 84) (le := s 85) (ma := s 86) (n := s 75 4) (x := i) (fun j j1 j2 => ⟨(hs j j1 j2).1, (hs j j1 j2).2.1, (hs j j1 j2).2.2.1⟩) ⟨a2, a3⟩ h.1.2 6 (by decide)
  rw [← a5] at this
  omega
theorem mvN_self (s : Sto) (p : Int) : mvN s p p = s := by
  funext c i
  by_cases z : c = 76
  · rw [z, mvN_76]
    show (if i = p then s 76 p else s 76 i) = s 76 i
    by_cases q : i = p
    · rw [if_pos q, q]
    · rw [if_neg q]
  · by_cases z2 : c = 77
    · rw [z2, mvN_77]
      show (if 6 * p ≤ i ∧ i < 6 * p + 6 then s 77 (6 * p + (i - 6 * p)) else s 77 i) = s 77 i
      by_cases q : 6 * p ≤ i ∧ i < 6 * p + 6
      · rw [if_pos q, show 6 * p + (i - 6 * p) = i by omega]
      · rw [if_neg q]
    · rw [mvN_o z z2]
/-- a row of letters in its bounds -/
def nmB (t : Sto) (a : Int) : Prop := (0 ≤ t 76 a ∧ t 76 a ≤ 6) ∧ ∀ i : Int, 0 ≤ i → i < t 76 a → 0 ≤ t 77 (6 * a + i) ∧ t 77 (6 * a + i) < 26
theorem NmR.nb {t : Sto} {a x : Int} (h : NmR x (t 76 a) (fun i => t 77 (6 * a + i))) : nmB t a := ⟨h.1, h.2.1⟩
/-- the class's Queue in u knows the NAMES of t -/
def QR (u t : Sto) (od : Int → Int) : Prop := (u 5 0 = t 75 4 ∧ u 4 1 = t 82 1 ∧ ∀ q : Int, 0 ≤ q → q < t 75 4 → u 8 q = t 79 q ∧ u 9 q = t 80 q) ∧ (∃ pl : Int → Int, PlR (t 75 9) od pl ∧ (∀ l : Int, 0 ≤ l → l < 26 → u 47 l = rkF (t 75 9) (t 82 0) pl l) ∧ ∀ q : Int, 0 ≤ q → q < t 75 4 → u 48 q = keyN 6 (sqS t pl q)) ∧ ∀ x : Int, 0 ≤ x → x < t 75 4 → u 51 x = psm (t 83) (t 84) (t 85) (t 86) (t 75 4) x 6
set_option maxHeartbeats 2000000 in
theorem t_ww {u t : Sto} {od : Int → Int} {o p a name : Int} (hm : NMS t) (hO : OdR (t 75 9) o od) (hQ : QR u t od) (hp : 0 ≤ p ∧ p < t 75 4) (hN : NmR name (t 76 a) (fun i => t 77 (6 * a + i))) : ClI LY 2 MX7_worthWith [.inr 46, .inr 3, .inl p, .inl name] u (fun r s' => s' = u ∧ r = wvF (mvN t a p) od p) := by
  obtain ⟨⟨q1, q2, q3⟩, ⟨pl, q4, q5, q6⟩, q7⟩ := hQ
  have hna : nmB t a := hN.nb
  have m2 : NMS (mvN t a p) := hm.mv hna
  obtain ⟨n1, n2, n3, n4, n5⟩ := hm
  have m9 : mvN t a p 75 = t 75 := mvN_o (by decide) (by decide)
  have hr : ∀ l : Int, 0 ≤ l → l < 26 → u 47 l = rkF (t 75 9) (t 82 0) pl l ∧ (rkF (t 75 9) (t 82 0) pl l = -1 ∨ (1 ≤ rkF (t 75 9) (t 82 0) pl l ∧ rkF (t 75 9) (t 82 0) pl l < 32)) := fun l l0 l1 => ⟨q5 l l0 l1, rk_bd hO.1 (fun z => q4.bd hO l0 z) ⟨l0, l1⟩⟩
  have kb : ∀ x : List Int, dgs x → x.length ≤ 6 → rg (keyN 6 x) := fun x x1 x2 => by
    have := keyN_bd 6 x x1 x2
    exact ⟨by omega, by omega⟩
  have hkn : rg (keyN 6 (sfx (rkF (t 75 9) (t 82 0) pl) (fun i => t 77 (6 * a + i)) (t 76 a) (t 76 a).toNat)) := by
    have := sfx_dgs (rk := rkF (t 75 9) (t 82 0) pl) (f := fun i => t 77 (6 * a + i)) (n := t 76 a) (fun k k1 k2 => (hr _ (hna.2 k k1 k2).1 (hna.2 k k1 k2).2).2) (t 76 a).toNat (by have := hna.1; omega)
    exact kb _ this.1 (Nat.le_trans this.2 (by have := hna.1; omega))
  refine (t_X7_worthWith (s := u) (p := p) (name := name) (rk := rkF (t 75 9) (t 82 0) pl) (by omega) (by omega) hN hr (fun q z1 z2 => ?_) hkn (by omega) (fun q z1 z2 => ?_)).mono ?_
  · rw [q6 q z1 (by omega)]
    have := sqS_dgs ⟨n1, n2, n3, n4, n5⟩ hO q4 z1 (by omega)
    exact kb _ this.1 this.2
  · rw [(q3 q z1 (by omega)).1, (q3 q z1 (by omega)).2]
    exact n3 q z1 (by omega)
  · rintro r s' ⟨rfl, hr'⟩
    refine ⟨rfl, ?_⟩
    obtain ⟨pl', p1, p2⟩ := (WV.exN m2 (o := o) (by rw [m9]; exact hO) (p := p) (by rw [m9]; exact hp)).cnt m2 (o := o) (by rw [m9]; exact hO)
    rw [m9] at p1
    rw [p2, m9, mvN_o (c := 82) (by decide) (by decide), mvN_o (c := 83) (by decide) (by decide), mvN_o (c := 84) (by decide) (by decide), mvN_o (c := 85) (by decide) (by decide), mvN_o (c := 86) (by decide) (by decide), mvN_o (c := 79) (by decide) (by decide), mvN_o (c := 80) (by decide) (by decide)]
    rw [← with_join (key := up s' 48 p (keyN 6 (sfx (rkF (t 75 9) (t 82 0) pl) (fun i => t 77 (6 * a + i)) (t 76 a) (t 76 a).toNat)) 48) ⟨n1, n2, n3, n4, n5⟩ hO q4 p1 hp hna (fun q z1 z2 => ?_)]
    · rw [hr', q1, q2]
      have ec : cntI (fun q => q ≠ p ∧ KR (up s' 48 p (keyN 6 (sfx (rkF (t 75 9) (t 82 0) pl) (fun i => t 77 (6 * a + i)) (t 76 a) (t 76 a).toNat)) 48) (t 82 1) (s' 8) (s' 9) q p) (t 75 4).toNat = cntI (fun q => q ≠ p ∧ KR (up s' 48 p (keyN 6 (sfx (rkF (t 75 9) (t 82 0) pl) (fun i => t 77 (6 * a + i)) (t 76 a) (t 76 a).toNat)) 48) (t 82 1) (t 79) (t 80) q p) (t 75 4).toNat := by
        refine cntI_congr _ (fun q z1 z2 => ?_)
        unfold KR tieR
        rw [(q3 q z1 (by omega)).1, (q3 q z1 (by omega)).2, (q3 p hp.1 hp.2).1, (q3 p hp.1 hp.2).2]
      rw [ec]
      generalize up s' 48 p _ 48 = key
      have b1 := cntI_bd (fun q => q ≠ p ∧ KR key (t 82 1) (t 79) (t 80) q p) (t 75 4).toNat
      have b2 := cntI_lt (fun q => q ≠ p ∧ KR key (t 82 1) (t 79) (t 80) q p) hp.1 (fun z => z.1 rfl) (t 75 4).toNat (by omega)
      exact q7 _ b1.1 (by omega)
    · rw [up_if]
      by_cases z : q = p
      · rw [if_pos z, if_pos z]
      · rw [if_neg z, if_neg z, q6 q z1 z2]
/-- the FEE, between two rows of NAMES -/
def feF (t : Sto) (p a : Int) : Int := lv (t 82 3) (t 82 4) (t 82 2) (fun i => t 77 (6 * p + i)) (fun i => t 77 (6 * a + i)) (t 76 p) (t 76 a)
/-- the verdict of NAMING: 1 or 0 -/
noncomputable def okF (t : Sto) (od : Int → Int) (p a wo : Int) : Int := vdF (hdF (Classical.epsilon (fun fa => FaR (t 75 9) od (fun i => t 77 (6 * p + i)) (fun i => t 77 (6 * a + i)) (t 76 p) (t 76 a) (t 79 p) (t 80 p) (t 78 p) wo fa)) (t 96) (t 97) (t 94) (t 95)) (t 93) (t 75 30) (t 75 30).toNat
/-- told of fees, in bounds -/
def FES (t : Sto) : Prop := (0 ≤ t 82 2 ∧ t 82 2 ≤ 99) ∧ (0 ≤ t 82 3 ∧ t 82 3 ≤ 99) ∧ (0 ≤ t 82 4 ∧ t 82 4 ≤ 99)
theorem feF_bd {t : Sto} {p a : Int} (h : FES t) (hp : nmB t p) (ha : nmB t a) : 0 ≤ feF t p a ∧ feF t p a ≤ 1188 := lv_bd h.2.1 h.2.2 h.1 _ _ hp.1 ha.1
theorem okF_of {t : Sto} {od fa : Int → Int} {p a wo z : Int} {vd le cd : Int → Int} (hN : NamingR (t 75 30) z vd le cd (t 93) (t 94) (t 95) (t 96) (t 97)) (h : FaR (t 75 9) od (fun i => t 77 (6 * p + i)) (fun i => t 77 (6 * a + i)) (t 76 p) (t 76 a) (t 79 p) (t 80 p) (t 78 p) wo fa) : vdF (hdF fa (t 96) (t 97) (t 94) (t 95)) (t 93) (t 75 30) (t 75 30).toNat = okF t od p a wo := by
  unfold okF
  exact vdF_fa hN (h.uniq (Classical.epsilon_spec (p := fun fa => FaR (t 75 9) od (fun i => t 77 (6 * p + i)) (fun i => t 77 (6 * a + i)) (t 76 p) (t 76 a) (t 79 p) (t 80 p) (t 78 p) wo fa) ⟨fa, h⟩))
/-- the same NAMES and all that is told of them -/
def samN (t t' : Sto) : Prop := (∀ c : Nat, 76 ≤ c → c ≤ 97 → c ≠ 81 → c ≠ 91 → c ≠ 92 → t' c = t c) ∧ t' 75 4 = t 75 4 ∧ t' 75 9 = t 75 9 ∧ t' 75 30 = t 75 30
theorem samN.mv {t t' : Sto} (h : samN t t') (a p : Int) : samN (mvN t a p) (mvN t' a p) := by
  obtain ⟨h1, h2, h3, h4⟩ := h
  have e76 := h1 76 (by decide) (by decide) (by decide) (by decide) (by decide)
  have e77 := h1 77 (by decide) (by decide) (by decide) (by decide) (by decide)
  refine ⟨fun c c1 c2 c3 c4 c5 => ?_, ?_, ?_, ?_⟩
  · by_cases z : c = 76
    · rw [z, mvN_76, mvN_76, e76]
    · by_cases z2 : c = 77
      · rw [z2, mvN_77, mvN_77, e77]
      · rw [mvN_o z z2, mvN_o z z2, h1 c c1 c2 c3 c4 c5]
  · rw [mvN_o (by decide) (by decide), mvN_o (by decide) (by decide), h2]
  · rw [mvN_o (by decide) (by decide), mvN_o (by decide) (by decide), h3]
  · rw [mvN_o (by decide) (by decide), mvN_o (by decide) (by decide), h4]
theorem samN.symm {t t' : Sto} (h : samN t t') : samN t' t := ⟨fun c c1 c2 c3 c4 c5 => (h.1 c c1 c2 c3 c4 c5).symm, h.2.1.symm, h.2.2.1.symm, h.2.2.2.symm⟩
theorem samN.trans {t t' t'' : Sto} (h : samN t t') (h2 : samN t' t'') : samN t t'' := ⟨fun c c1 c2 c3 c4 c5 => (h2.1 c c1 c2 c3 c4 c5).trans (h.1 c c1 c2 c3 c4 c5), h2.2.1.trans h.2.1, h2.2.2.1.trans h.2.2.1, h2.2.2.2.trans h.2.2.2⟩
theorem samN.wv {t t' : Sto} (h : samN t t') (od : Int → Int) (p : Int) : wvF t' od p = wvF t od p := wvF_congr (fun c c1 c2 _ c4 => h.1 c c1 (by omega) c4 (by omega) (by omega)) h.2.1 h.2.2.1
theorem samN.fe {t t' : Sto} (h : samN t t') (p a : Int) : feF t' p a = feF t p a := by
  unfold feF
  rw [h.1 76 (by decide) (by decide) (by decide) (by decide) (by decide), h.1 77 (by decide) (by decide) (by decide) (by decide) (by decide), h.1 82 (by decide) (by decide) (by decide) (by decide) (by decide)]
theorem samN.ok {t t' : Sto} (h : samN t t') (od : Int → Int) (p a wo : Int) : okF t' od p a wo = okF t od p a wo := by
  unfold okF
  obtain ⟨h1, h2, h3, h4⟩ := h
  rw [h1 76 (by decide) (by decide) (by decide) (by decide) (by decide), h1 77 (by decide) (by decide) (by decide) (by decide) (by decide), h1 78 (by decide) (by decide) (by decide) (by decide) (by decide), h1 79 (by decide) (by decide) (by decide) (by decide) (by decide), h1 80 (by decide) (by decide) (by decide) (by decide) (by decide), h1 93 (by decide) (by decide) (by decide) (by decide) (by decide), h1 94 (by decide) (by decide) (by decide) (by decide) (by decide), h1 95 (by decide) (by decide) (by decide) (by decide) (by decide), h1 96 (by decide) (by decide) (by decide) (by decide) (by decide), h1 97 (by decide) (by decide) (by decide) (by decide) (by decide), h3, h4]
