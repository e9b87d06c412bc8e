/-! A PLACE IN THE QUEUE is the number of those ahead -/
def KR (key : Int → Int) (w : Int) (ag co : Int → Int) (p q : Int) : Prop := key p < key q ∨ (key p = key q ∧ tieR w ag co p q)
theorem KR.asym {key ag co : Int → Int} {w p q : Int} (h : KR key w ag co p q) : ¬ KR key w ag co q p := by
  unfold KR tieR at *
  omega
theorem KR.trans {key ag co : Int → Int} {w p q t : Int} (h : KR key w ag co p q) (h2 : KR key w ag co q t) : KR key w ag co p t := by
  unfold KR tieR at *
  omega
theorem KR.tot {key ag co : Int → Int} {w p q : Int} (hw : 0 ≤ w ∧ w ≤ 2) (h : p ≠ q) (n : ¬ KR key w ag co p q) : KR key w ag co q p := by
  unfold KR tieR at *
  omega
noncomputable def oneIf (c : Prop) : Int := @ite _ c (Classical.propDecidable _) 1 0
theorem oneIf_t {c : Prop} (h : c) : oneIf c = 1 := @if_pos c (Classical.propDecidable _) h Int 1 0
theorem oneIf_f {c : Prop} (h : ¬ c) : oneIf c = 0 := @if_neg c (Classical.propDecidable _) h Int 1 0
noncomputable def cntI (f : Int → Prop) : Nat → Int
  | 0 => 0
  | n + 1 => cntI f n + oneIf (f n)
noncomputable def cntL (f : Int → Prop) : List Int → Int
  | [] => 0
  | x :: l => cntL f l + oneIf (f x)
theorem oneIf_bd (c : Prop) : 0 ≤ oneIf c ∧ oneIf c ≤ 1 := by
  by_cases h : c
  · rw [oneIf_t h]; decide
  · rw [oneIf_f h]; decide
theorem cntI_bd (f : Int → Prop) : ∀ n : Nat, 0 ≤ cntI f n ∧ cntI f n ≤ n
  | 0 => ⟨Int.le_refl 0, Int.le_refl 0⟩
  | n + 1 => by
    have h1 := cntI_bd f n
    have h2 := oneIf_bd (f n)
    show 0 ≤ cntI f n + oneIf (f n) ∧ cntI f n + oneIf (f n) ≤ _
    omega
theorem cntI_lt (f : Int → Prop) {p : Int} (hp : 0 ≤ p) (nf : ¬ f p) : ∀ n : Nat, p < n → cntI f n < n
  | 0, h => absurd h (by omega)
  | n + 1, h => by
    have h2 := oneIf_bd (f n)
    show cntI f n + oneIf (f n) < _
    by_cases q : p = n
    · rw [q] at nf
      rw [oneIf_f nf]
      have := cntI_bd f n
      omega
    · have := cntI_lt f hp nf n (by omega)
      omega
theorem cntI_congr {f g : Int → Prop} : ∀ n : Nat, (∀ q : Int, 0 ≤ q → q < n → (f q ↔ g q)) → cntI f n = cntI g n
  | 0, _ => rfl
  | n + 1, h => by
    show cntI f n + oneIf (f n) = cntI g n + oneIf (g n)
    rw [cntI_congr n (fun q a b => h q a (by omega)), propext (h n (by omega) (by omega))]
theorem cntL_ins {ah : Int → Int → Prop} (f : Int → Prop) (p : Int) : ∀ l : List Int, cntL f (insL ah p l) = cntL f l + oneIf (f p)
  | [] => rfl
  | x :: l => by
    by_cases q : ah p x
    · rw [insL_t q]
      show cntL f (insL ah p l) + oneIf (f x) = cntL f l + oneIf (f x) + oneIf (f p)
      rw [cntL_ins f p l]; omega
    · rw [insL_f q]; rfl
theorem cntL_srt {ah : Int → Int → Prop} (f : Int → Prop) : ∀ n : Nat, cntL f (srtL ah n) = cntI f n
  | 0 => rfl
  | n + 1 => by
    show cntL f (insL ah n (srtL ah n)) = cntI f n + oneIf (f n)
    rw [cntL_ins, cntL_srt f n]
theorem insL_srt {key ag co : Int → Int} {w : Int} (hw : 0 ≤ w ∧ w ≤ 2) {p : Int} : ∀ l : List Int, p ∉ l → l.Pairwise (fun a b => KR key w ag co b a) → (insL (KR key w ag co) p l).Pairwise (fun a b => KR key w ag co b a)
  | [], _, _ => List.pairwise_singleton _ _
  | x :: l, hp, h => by
    have hx := List.pairwise_cons.mp h
    have ne : p ≠ x := fun z => hp (by rw [z]; exact List.mem_cons_self)
    by_cases q : KR key w ag co p x
    · rw [insL_t q]
      refine List.pairwise_cons.mpr ⟨fun y hy => ?_, insL_srt hw l (fun z => hp (List.mem_cons_of_mem _ z)) hx.2⟩
      rcases (insL_mem l y).mp hy with z | z
      · rw [z]; exact q
      · exact hx.1 y z
    · rw [insL_f q]
      have k := KR.tot hw ne q
      refine List.pairwise_cons.mpr ⟨fun y hy => ?_, h⟩
      rcases List.mem_cons.mp hy with z | z
      · rw [z]; exact k
      · exact (hx.1 y z).trans k
theorem srtL_srt {key ag co : Int → Int} {w : Int} (hw : 0 ≤ w ∧ w ≤ 2) : ∀ n : Nat, (srtL (KR key w ag co) n).Pairwise (fun a b => KR key w ag co b a)
  | 0 => List.Pairwise.nil
  | n + 1 => insL_srt hw _ (fun q => by have := (srtL_mem n _).mp q; omega) (srtL_srt hw n)
theorem cntL_all {f : Int → Prop} : ∀ l : List Int, (∀ x ∈ l, f x) → cntL f l = l.length
  | [], _ => rfl
  | x :: l, h => by
    show cntL f l + oneIf (f x) = ((l.length + 1 : Nat) : Int)
    rw [cntL_all l (fun y hy => h y (List.mem_cons_of_mem _ hy)), oneIf_t (h x List.mem_cons_self)]
    omega
theorem cntL_at {key ag co : Int → Int} {w : Int} : ∀ (l : List Int) (k : Nat), k < l.length → l.Pairwise (fun a b => KR key w ag co b a) → cntL (fun q => q ≠ l.getD k 0 ∧ KR key w ag co q (l.getD k 0)) l = l.length - 1 - k
  | [], k, h, _ => absurd h (by simp)
  | x :: l, 0, _, h => by
    have hx := List.pairwise_cons.mp h
    show cntL (fun q => q ≠ x ∧ KR key w ag co q x) l + oneIf (x ≠ x ∧ KR key w ag co x x) = ((l.length + 1 : Nat) : Int) - 1 - ((0 : Nat) : Int)
    rw [oneIf_f (fun z => z.1 rfl), cntL_all l (fun y hy => ⟨fun z => by
      have := hx.1 y hy
      rw [z] at this
      exact this.asym this, hx.1 y hy⟩)]
    omega
  | x :: l, k + 1, hk, h => by
    have hx := List.pairwise_cons.mp h
    have hk' : k < l.length := by simp at hk; omega
    have hm : l.getD k 0 ∈ l := by
      rw [List.getD_eq_getElem?_getD, List.getElem?_eq_getElem hk']
      exact List.getElem_mem hk'
    show cntL (fun q => q ≠ l.getD k 0 ∧ KR key w ag co q (l.getD k 0)) l + oneIf (x ≠ l.getD k 0 ∧ KR key w ag co x (l.getD k 0)) = ((l.length + 1 : Nat) : Int) - 1 - ((k + 1 : Nat) : Int)
    rw [oneIf_f (fun z => (hx.1 _ hm).asym z.2), cntL_at l k hk' hx.2]
    omega
theorem place_cnt {key ag co : Int → Int} {w : Int} (hw : 0 ≤ w ∧ w ≤ 2) {n : Nat} {i p : Int} (h0 : 0 ≤ i) (h1 : i < n) (e : (srtL (KR key w ag co) n).getD ((n : Int) - 1 - i).toNat 0 = p) : i = cntI (fun q => q ≠ p ∧ KR key w ag co q p) n := by
  have := cntL_at (srtL (KR key w ag co) n) ((n : Int) - 1 - i).toNat (by rw [srtL_len]; omega) (srtL_srt hw n)
  rw [e, cntL_srt, srtL_len] at this
  rw [this]
  omega
set_option maxHeartbeats 2000000 in
theorem t_X7_worthWith {p name nb : Int} {g rk : Int → Int} {s : Sto} (hn : 0 ≤ s 5 0 ∧ s 5 0 ≤ 20) (hp : 0 ≤ p ∧ p < s 5 0) (hN : NmR name nb g) (hr : ∀ l : Int, 0 ≤ l → l < 26 → s 47 l = rk l ∧ (rk l = -1 ∨ (1 ≤ rk l ∧ rk l < 32))) (hk : ∀ q : Int, 0 ≤ q → q < s 5 0 → rg (s 48 q)) (hkn : rg (keyN 6 (sfx rk g nb nb.toNat))) (hw : 0 ≤ s 4 1 ∧ s 4 1 ≤ 2) (hA : ∀ q : Int, 0 ≤ q → q < s 5 0 → rg (s 8 q) ∧ rg (s 9 q)) : ClI LY 2 MX7_worthWith [.inr 46, .inr 3, .inl p, .inl name] s (fun r s' => s' = s ∧ r = s 51 (cntI (fun q => q ≠ p ∧ KR (up s 48 p (keyN 6 (sfx rk g nb nb.toNat)) 48) (s 4 1) (s 8) (s 9) q p) (s 5 0).toNat)) := by
  refine ClI.intro (by decide) rfl (Nat.le_of_ble_eq_true rfl) (fun X C r => ?_)
  refine kb_X7_worthWith_0 C r ⟨⟨by omega, by omega⟩, 1, _, by decide, t_X7_keyOf hN hr, ?_⟩
  rintro k t ⟨ht, hkk⟩
  rw [ht]
  refine ⟨⟨by omega, by omega⟩, ?_⟩
  rintro u hu
  rw [← hkk] at r hkn
  have e : ∀ c : Nat, c ≠ 48 → u c = s c := fun c hc => by rw [hu, up_row hc]
  have ek : ∀ q : Int, 0 ≤ q → q < s 5 0 → rg (u 48 q) := fun q q1 q2 => by
    rw [hu, up_if]
    by_cases z : q = p
    · rw [if_pos z]; exact hkn
    · rw [if_neg z]; exact hk q q1 q2
  rw [← hu] at r
  refine (show G LY X 25 [rv 46, rv 3, iv p, iv name, iv (s 48 p), iv (cntI (fun q => q ≠ p ∧ KR (u 48) (s 4 1) (s 8) (s 9) q p) (0 : Int).toNat), iv 0] [] u from downI (P := fun q => G LY X 25 [rv 46, rv 3, iv p, iv name, iv (s 48 p), iv (cntI (fun q => q ≠ p ∧ KR (u 48) (s 4 1) (s 8) (s 9) q p) q.toNat), iv q] [] u) (a := 0) (b := s 5 0) hn.1 ?_ ?_)
  · have cb := cntI_bd (fun q => q ≠ p ∧ KR (u 48) (s 4 1) (s 8) (s 9) q p) (s 5 0).toNat
    have cl := cntI_lt (fun q => q ≠ p ∧ KR (u 48) (s 4 1) (s 8) (s 9) q p) hp.1 (fun z => z.1 rfl) (s 5 0).toNat (by omega)
    refine kb_X7_worthWith_25 C r ⟨by rw [e 5 (by decide)]; exact ⟨⟨by omega, by omega⟩, ⟨by omega, by omega⟩⟩, fun _ => ⟨⟨by omega, by omega⟩, ?_⟩, fun z => absurd z (by rw [e 5 (by decide)]; omega)⟩
    rintro t2 ht2
    have : t2 = s := by
      rw [ht2, hu]
      funext c j
      by_cases z : c = 48 ∧ j = p
      · rw [z.1, z.2, up_at]
      · rw [up_ne z, up_ne z]
    rw [this]
    exact ⟨⟨by omega, by omega⟩, rfl, rfl⟩
  · intro q q0 q1 ih
    rw [show (q + 1).toNat = q.toNat + 1 by omega] at ih
    have ih : G LY X 25 [rv 46, rv 3, iv p, iv name, iv (s 48 p), iv (cntI (fun q => q ≠ p ∧ KR (u 48) (s 4 1) (s 8) (s 9) q p) q.toNat + oneIf ((q.toNat : Int) ≠ p ∧ KR (u 48) (s 4 1) (s 8) (s 9) (q.toNat : Int) p)), iv (q + 1)] [] u := ih
    rw [Int.toNat_of_nonneg q0] at ih
    refine kb_X7_worthWith_25 C r ⟨by rw [e 5 (by decide)]; exact ⟨⟨by omega, by omega⟩, ⟨by omega, by omega⟩⟩, fun z => absurd z (by rw [e 5 (by decide)]; omega), fun _ => ⟨⟨⟨by omega, by omega⟩, ⟨by omega, by omega⟩⟩, fun z => ?_, fun z => ⟨0, _, by decide, t_X7_isAhead (p := q) (q := p) (by omega) (by omega) ⟨ek q q0 q1, ek p hp.1 hp.2⟩ (by rw [e 4 (by decide)]; exact hw) (by rw [e 8 (by decide)]; exact ⟨(hA q q0 q1).1, (hA p hp.1 hp.2).1⟩) (by rw [e 9 (by decide)]; exact ⟨(hA q q0 q1).2, (hA p hp.1 hp.2).2⟩), ?_⟩⟩⟩
    · rw [oneIf_f (fun y => y.1 z), Int.add_zero] at ih
      exact ih
    · rintro x t3 ⟨ht3, x1, x2⟩
      rw [ht3]
      rw [e 4 (by decide), e 8 (by decide), e 9 (by decide)] at x2
      refine ⟨by omega, fun y => ?_, fun y => ?_⟩
      · rw [oneIf_f (fun y2 => by have := x2.mpr y2.2; omega), Int.add_zero] at ih
        exact ih
      · rw [oneIf_t ⟨z, x2.mp (by omega)⟩] at ih
        exact ih
