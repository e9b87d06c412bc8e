/-! facts alike, verdict alike -/
theorem evL_fa {fa fa' op ar : Int → Int} {a b : Int} (hf : ∀ j : Int, 0 ≤ j → j < 10 → fa j = fa' j) (hx : ∀ i : Int, a ≤ i → i < b → op i = 1 → 0 ≤ ar i ∧ ar i < 10) : ∀ n : Nat, a + n ≤ b → evL fa op ar a n = evL fa' op ar a n
  | 0, _ => rfl
  | n + 1, h => by
    show stepV fa (op (a + n)) (ar (a + n)) (evL fa op ar a n) = stepV fa' (op (a + n)) (ar (a + n)) (evL fa' op ar a n)
    rw [evL_fa hf hx n (by omega)]
    unfold stepV
    by_cases z : op (a + n) = 1
    · have q := hx (a + n) (by omega) (by omega) z
      rw [hf _ q.1 q.2]
    · rw [if_neg z, if_neg z]
theorem vdF_congr {hd hd' wd : Int → Int} {n : Int} (h : ∀ l : Int, 0 ≤ l → l < n → hd l = hd' l) : ∀ m : Nat, (m : Int) ≤ n → vdF hd wd n m = vdF hd' wd n m
  | 0, _ => rfl
  | m + 1, hm => by
    show (if hd (n - (m + 1 : Nat)) = 1 then 1 - wd (n - (m + 1 : Nat)) else vdF hd wd n m) = (if hd' (n - (m + 1 : Nat)) = 1 then 1 - wd (n - (m + 1 : Nat)) else vdF hd' wd n m)
    rw [h _ (by omega) (by omega), vdF_congr h m (by omega)]
theorem vdF_fa {n z : Int} {vd le cd wd fr to op ar fa fa' : Int → Int} (hN : NamingR n z vd le cd wd fr to op ar) (hf : ∀ j : Int, 0 ≤ j → j < 10 → fa j = fa' j) : vdF (hdF fa op ar fr to) wd n n.toNat = vdF (hdF fa' op ar fr to) wd n n.toNat := by
  obtain ⟨N1, N2, N3, N4, N5⟩ := hN
  refine vdF_congr (fun l l0 l1 => ?_) _ (by omega)
  obtain ⟨g1, g2, g3, g4, g5, g6, g7⟩ := N5 l l0 l1
  unfold hdF
  rw [evL_fa (b := to l) hf (fun i i0 i1 q => by
    have := N3 i (by omega) (by omega)
    unfold TokR at this
    omega) (to l - fr l).toNat (by omega)]
