section SP
variable {w : jW} {Q : jV → jW → Prop} {K x y z a b c d e n p k : Int}
theorem sM_keen13 (hp : 0 ≤ p ∧ p < 9) (h4 : w 45 24 ≤ 4) (hf : ∀ i, 0 ≤ i → i < w 45 24 → c67 (w 59 i)) (hc : c67 (w 49 p)) (m : Nat) : ∀ j : Nat, (w 45 24 - j).toNat = m → 1 ≤ j → (j : Int) ≤ w 45 24 →
    AW mM_keenArm 13 [jR 45, jI p, jI (nr (w 59) (w 49 p) (j - 1)), jI j] [] w Q = Q (jI (wayF (w 49 p) (w 59 (nr (w 59) (w 49 p) (w 45 24 - 1).toNat)))) w := by
  induction m with
  | zero =>
    intro j hm h1 hj
    have := nr_in (f := w 59) (c := w 49 p) (j - 1)
    rw [bM_keenArm_13, if_neg (by omega), if_pos hp, if_pos (by omega), sM_wayTo hc (hf _ (by omega) (by omega)), bM_keenArm_77, show (w 45 24 - 1).toNat = j - 1 by omega]
  | succ m ih =>
    intro j hm h1 hj
    have ih' := ih (j + 1) (by omega) (by omega) (by omega)
    have r := nr_in (f := w 59) (c := w 49 p) (j - 1)
    have e : nr (w 59) (w 49 p) (j + 1 - 1) = if stF (w 49 p) (w 59 (j : Int)) < stF (w 49 p) (w 59 (nr (w 59) (w 49 p) (j - 1))) then (j : Int) else nr (w 59) (w 49 p) (j - 1) := by
      obtain ⟨t, rfl⟩ : ∃ t, j = t + 1 := ⟨j - 1, by omega⟩
      rw [show t + 1 + 1 - 1 = t + 1 by omega, show t + 1 - 1 = t by omega]
      rfl
    rw [bM_keenArm_13, if_pos (by omega), if_pos hp, if_pos (by omega), sM_steps hc (hf _ (by omega) (by omega)), bM_keenArm_36, if_pos hp, if_pos (by omega), sM_steps hc (hf _ (by omega) (by omega)), bM_keenArm_51, n32s (by omega) (by omega)]
    by_cases q : stF (w 49 p) (w 59 (j : Int)) < stF (w 49 p) (w 59 (nr (w 59) (w 49 p) (j - 1)))
    · rw [if_pos q]; rw [e, if_pos q] at ih'; exact ih'
    · rw [if_neg q]; rw [e, if_neg q] at ih'; exact ih'
theorem sM_keenArm (hp : 0 ≤ p ∧ p < 9) (h0 : 0 ≤ w 45 24) (h4 : w 45 24 ≤ 4) (hf : ∀ i, 0 ≤ i → i < w 45 24 → c67 (w 59 i)) (hc : c67 (w 49 p)) : AW mM_keenArm 0 [jR 45, jI p, jX, jX] [] w Q = Q (jI (keenR (w 49 p) (w 45 24) (w 59))) w := by
  rw [bM_keenArm_0]
  unfold keenR
  split
  · rfl
  · exact sM_keen13 hp h4 hf hc _ 1 rfl (by omega) (by omega)
theorem sM_plainArm (hp : 0 ≤ p ∧ p < 9) (hf : ∀ i, 0 ≤ i → i < w 45 24 → c67 (w 59 i)) (hc : c67 (w 49 p)) : AW mM_plainArm 0 [jR 45, jI p] [] w Q = Q (jI (if w 45 24 = 1 then wayF (w 49 p) (w 59 0) else -1)) w := by
  rw [bM_plainArm_0]
  by_cases h1 : w 45 24 = 1
  · rw [if_pos h1, if_pos h1, if_pos hp, if_pos (by omega), sM_wayTo hc (hf 0 (by omega) (by omega)), bM_plainArm_23]
  · rw [if_neg h1, if_neg h1]
theorem sM_lazyArm (hp : 0 ≤ p ∧ p < 9) (hf : ∀ i, 0 ≤ i → i < w 45 24 → c67 (w 59 i)) (hc : c67 (w 49 p)) : AW mM_lazyArm 0 [jR 45, jI p] [] w Q = Q (jI (lazyR (w 48 p) (w 49 p) (w 45 24) (w 59))) w := by
  rw [bM_lazyArm_0]
  unfold lazyR
  by_cases h1 : w 45 24 = 1
  · have h := hf 0 (by omega) (by omega)
    rw [if_pos h1, if_pos h1, if_pos hp, if_pos (by omega), sM_steps hc h, bM_lazyArm_23, if_pos hp]
    split
    · rfl
    · rw [sM_plainArm hp hf hc, bM_lazyArm_37, if_pos h1]
  · rw [if_neg h1, if_neg h1]
theorem sM_torn7 (hp : 0 ≤ p ∧ p < 9) (h0 : 0 ≤ w 45 24) (h4 : w 45 24 ≤ 4) (hf : ∀ i, 0 ≤ i → i < w 45 24 → c67 (w 59 i)) (hc : c67 (w 49 p)) (m : Nat) : ∀ j : Nat, (w 45 24 - j).toNat = m → (j : Int) ≤ w 45 24 →
    AW mM_tornArm 7 [jR 45, jI p, jI (sumD (w 59) (w 49 p) j), jI (sumE (w 59) (w 49 p) j), jI j] [] w Q = Q (jI (tornR (w 49 p) (w 45 24) (w 59))) w := by
  induction m with
  | zero =>
    intro j hm hj
    have d1 := sumD_in (f := w 59) hc j (fun i a b => hf i a (by omega))
    have d2 := sumE_in (f := w 59) hc j (fun i a b => hf i a (by omega))
    rw [bM_tornArm_7, if_neg (by omega)]
    unfold tornR
    split
    · rw [bM_tornArm_84]
    · rw [sM_wayBy (by omega) (by omega), bM_tornArm_84, show (w 45 24).toNat = j by omega]
  | succ m ih =>
    intro j hm hj
    have ih' := ih (j + 1) (by omega) (by omega)
    have d1 := sumD_in (f := w 59) hc j (fun i a b => hf i a (by omega))
    have d2 := sumE_in (f := w 59) hc j (fun i a b => hf i a (by omega))
    have f1 := hf j (by omega) (by omega)
    rw [bM_tornArm_7, if_pos (by omega), if_pos (by omega), if_pos hp, if_pos (by omega), if_pos hp, td f1.1, td hc.1, tm f1.1, tm hc.1, n32s (x := w 59 (j : Int) / 10) (by omega) (by omega), n32s (x := w 49 p / 10) (by omega) (by omega), n32s (x := w 59 (j : Int) / 10 - w 49 p / 10) (by omega) (by omega), n32s (x := w 59 (j : Int) % 10 - w 49 p % 10) (by omega) (by omega), n32s (by omega) (by omega), n32s (by omega) (by omega), n32s (by omega) (by omega)]
    exact ih'
theorem sM_tornArm (hp : 0 ≤ p ∧ p < 9) (h0 : 0 ≤ w 45 24) (h4 : w 45 24 ≤ 4) (hf : ∀ i, 0 ≤ i → i < w 45 24 → c67 (w 59 i)) (hc : c67 (w 49 p)) : AW mM_tornArm 0 [jR 45, jI p, jX, jX, jX] [] w Q = Q (jI (tornR (w 49 p) (w 45 24) (w 59))) w := by
  rw [bM_tornArm_0]
  exact sM_torn7 hp h0 h4 hf hc _ 0 rfl (by omega)
theorem sM_armOf (hp : 0 ≤ p ∧ p < 9) (h0 : 0 ≤ w 45 24) (h4 : w 45 24 ≤ 4) (hf : ∀ i, 0 ≤ i → i < w 45 24 → c67 (w 59 i)) (hc : c67 (w 49 p)) : AW mM_armOf 0 [jR 45, jI p] [] w Q = Q (jI (armR (w 47 p) (w 48 p) (w 49 p) (w 45 24) (w 59))) w := by
  rw [bM_armOf_0, if_pos hp]
  unfold armR
  split
  · rw [sM_keenArm hp h0 h4 hf hc, bM_armOf_45]
  · split
    · rw [sM_lazyArm hp hf hc, bM_armOf_51]
    · split
      · rw [sM_keenArm hp h0 h4 hf hc, bM_armOf_57, sM_turned keenR_in (by omega), bM_armOf_61]
      · split
        · rw [sM_lazyArm hp hf hc, bM_armOf_67, sM_turned lazyR_in (by omega), bM_armOf_71]
        · split
          · rw [sM_tornArm hp h0 h4 hf hc, bM_armOf_77]
          · rw [sM_plainArm hp hf hc, bM_armOf_83]
/-- the arm of a post for a single lost one -/
def armO (v : jW) (p c : Int) : Int := armR (v 3 p) (v 4 p) (v 5 p) 1 (fun _ => c)
/-- the arm of a post for those that are lost -/
def armN (v : jW) (p : Int) : Int := armR (v 3 p) (v 4 p) (v 5 p) (lsN (v 7) (v 1 4).toNat) (lsF (v 6) (v 7) (fun _ => 0) (v 1 4).toNat)
theorem armO_in {v : jW} : -1 ≤ armO v p c ∧ armO v p c ≤ 8 := armR_in
theorem sM_one : AW mM_one 0 [jR 45, jI c] [] w Q = Q (jI 0) (jup (jup w 45 24 1) 59 0 c) := by
  rw [bM_one_0, if_pos (by omega)]
theorem sG_seeOne : AW mG_seeOne 0 [jR 28, jI c] [] w Q = Q (jI 0) (jup (jup w 29 0 c) 28 1 1) := by
  rw [bG_seeOne_0, if_pos (by omega)]
theorem sM_armFor (hp : 0 ≤ p ∧ p < 9) (hc : c67 c) (hq : c67 (w 49 p)) : AW mM_armFor 0 [jR 45, jI p, jI c] [] w Q = Q (jI (armR (w 47 p) (w 48 p) (w 49 p) 1 (fun _ => c))) (jup (jup w 45 24 1) 59 0 c) := by
  rw [bM_armFor_0, sM_one, bM_armFor_5, sM_armOf hp]
  · rw [bM_armFor_10]
    simp (disch := omega) only [jupn, jups, up1_s]
    rw [armR_cg (by omega) (g := fun _ => c)]
    intro i h0 h1
    have : i = 0 := by omega
    subst this
    exact up1_s
  · simp (disch := omega) only [jupn, jups, up1_s]; omega
  · simp (disch := omega) only [jupn, jups, up1_s]; omega
  · simp (disch := omega) only [jupn, jups, up1_s]
    intro i h0 h1
    have : i = 0 := by omega
    subst this
    rw [up1_s]; exact hc
  · simp (disch := omega) only [jupn]; exact hq
end SP
