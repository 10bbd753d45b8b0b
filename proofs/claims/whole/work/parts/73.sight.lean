/-! what the posts see -/
def lsN (ws : Int → Int) : Nat → Int
  | 0 => 0
  | m + 1 => if ws (m : Int) < 5 then lsN ws m + 1 else lsN ws m
def lsF (wc ws f : Int → Int) : Nat → (Int → Int)
  | 0 => f
  | m + 1 => if ws (m : Int) < 5 then up1 (lsF wc ws f m) (lsN ws m) (wc (m : Int)) else lsF wc ws f m
theorem lsN_y {ws : Int → Int} {m : Nat} (h : ws (m : Int) < 5) : lsN ws (m + 1) = lsN ws m + 1 := if_pos h
theorem lsN_n {ws : Int → Int} {m : Nat} (h : ¬ ws (m : Int) < 5) : lsN ws (m + 1) = lsN ws m := if_neg h
theorem lsF_y {wc ws f : Int → Int} {m : Nat} (h : ws (m : Int) < 5) : lsF wc ws f (m + 1) = up1 (lsF wc ws f m) (lsN ws m) (wc (m : Int)) := if_pos h
theorem lsF_n {wc ws f : Int → Int} {m : Nat} (h : ¬ ws (m : Int) < 5) : lsF wc ws f (m + 1) = lsF wc ws f m := if_neg h
theorem lsN_in {ws : Int → Int} (m : Nat) : 0 ≤ lsN ws m ∧ lsN ws m ≤ (m : Int) := by
  induction m with
  | zero => exact ⟨by show (0 : Int) ≤ 0; omega, by show (0 : Int) ≤ 0; omega⟩
  | succ m ih => unfold lsN; split <;> omega
theorem ls_cg {wc ws f wc' ws' g : Int → Int} (m : Nat) (h : ∀ i, 0 ≤ i → i < (m : Int) → wc i = wc' i ∧ ws i = ws' i) : lsN ws m = lsN ws' m ∧ Eqn (lsN ws m) (lsF wc ws f m) (lsF wc' ws' g m) := by
  induction m with
  | zero => exact ⟨rfl, fun i a b => by have : i < 0 := b; omega⟩
  | succ m ih =>
    obtain ⟨e1, e2⟩ := ih (fun i a b => h i a (by omega))
    obtain ⟨e3, e4⟩ := h (m : Int) (by omega) (by omega)
    unfold lsN lsF
    rw [e4]
    split
    · refine ⟨by rw [e1], ?_⟩
      rw [e3, ← e1]
      exact e2.push _
    · exact ⟨e1, e2⟩
theorem lsF_in {wc ws f : Int → Int} {P : Int → Prop} (m : Nat) (h : ∀ i, 0 ≤ i → i < (m : Int) → P (wc i)) : ∀ i, 0 ≤ i → i < lsN ws m → P (lsF wc ws f m i) := by
  induction m with
  | zero => intro i a b; have : i < 0 := b; omega
  | succ m ih =>
    have ih' := ih (fun i a b => h i a (by omega))
    unfold lsN lsF
    split
    · intro i a b
      unfold up1
      split
      · exact h m (by omega) (by omega)
      · exact ih' i a (by omega)
    · exact ih'
section SO
variable {w : jW} {Q : jV → jW → Prop} {K x y z a b c d e n p k : Int}
theorem sG_seeAll7 (h4 : w 1 4 ≤ 4) (m : Nat) : ∀ j : Nat, (w 1 4 - j).toNat = m → (j : Int) ≤ w 1 4 →
    AW mG_seeAll 7 [jR 28, jR 1, jI j] [] (jup (jwr w 29 (lsF (w 6) (w 7) (w 29) j)) 28 1 (lsN (w 7) j)) Q = Q (jI 0) (jup (jwr w 29 (lsF (w 6) (w 7) (w 29) (w 1 4).toNat)) 28 1 (lsN (w 7) (w 1 4).toNat)) := by
  induction m with
  | zero =>
    intro j hm hj
    have e : (w 1 4).toNat = j := by omega
    rw [bG_seeAll_7]
    simp (disch := omega) only [jupn, jwr_n]
    rw [if_neg (by omega), e]
  | succ m ih =>
    intro j hm hj
    have := ih (j + 1) (by omega) (by omega)
    have ln := lsN_in (ws := w 7) j
    rw [bG_seeAll_7]
    simp (disch := omega) only [jupn, jwr_n]
    rw [if_pos (by omega), bL_isLost_0, if_pos (by omega)]
    simp (disch := omega) only [jupn, jwr_n, bG_seeAll_20]
    rw [n32s (by omega) (by omega)]
    by_cases c : w 7 (j : Int) < 5
    · rw [if_pos c, if_neg (by omega), if_pos (by omega)]
      simp (disch := omega) only [jups, up1_s]
      rw [if_pos (by omega), n32s (by omega) (by omega)]
      rw [lsF_y c, lsN_y c] at this
      rw [← this]
      congr 1
      funext o
      by_cases e1 : o = 28
      · subst e1; simp (disch := omega) only [jups, jupn, jwr_n]; funext t; unfold up1; split <;> rfl
      · by_cases e2 : o = 29
        · subst e2; simp (disch := omega) only [jups, jupn, jwr_n, jwr_s]
        · simp (disch := omega) only [jupn, jwr_n]
    · rw [if_neg c]
      simp only [if_true]
      rw [lsF_n c, lsN_n c] at this
      exact this
theorem sG_seeAll (h0 : 0 ≤ w 1 4) (h4 : w 1 4 ≤ 4) : AW mG_seeAll 0 [jR 28, jR 1, jX] [] w Q = Q (jI 0) (jup (jwr w 29 (lsF (w 6) (w 7) (w 29) (w 1 4).toNat)) 28 1 (lsN (w 7) (w 1 4).toNat)) := by
  rw [bG_seeAll_0]
  have := sG_seeAll7 (Q := Q) h4 _ 0 rfl (by omega)
  rw [← this]
  congr 1
  show jup w 28 1 0 = jup (jwr w 29 (w 29)) 28 1 0
  rw [jwr_e rfl]
theorem sM_ata7 (h4 : w 45 7 ≤ 4) (m : Nat) : ∀ j : Nat, (w 45 7 - j).toNat = m → (j : Int) ≤ w 45 7 →
    AW mM_asThingsAre 7 [jR 45, jI j] [] (jup (jwr w 59 (lsF (w 50) (w 51) (w 59) j)) 45 24 (lsN (w 51) j)) Q = Q (jI 0) (jup (jwr w 59 (lsF (w 50) (w 51) (w 59) (w 45 7).toNat)) 45 24 (lsN (w 51) (w 45 7).toNat)) := by
  induction m with
  | zero =>
    intro j hm hj
    have e : (w 45 7).toNat = j := by omega
    rw [bM_asThingsAre_7]
    simp (disch := omega) only [jups, up1_n, jupn, jwr_n]
    rw [if_neg (by omega), e]
  | succ m ih =>
    intro j hm hj
    have := ih (j + 1) (by omega) (by omega)
    have ln := lsN_in (ws := w 51) j
    rw [bM_asThingsAre_7]
    simp (disch := omega) only [jups, up1_n, jupn, jwr_n]
    rw [if_pos (by omega), bM_isLost_0, if_pos (by omega)]
    simp (disch := omega) only [jupn, jwr_n, bM_asThingsAre_20]
    rw [n32s (by omega) (by omega)]
    by_cases c : w 51 (j : Int) < 5
    · rw [if_pos c, if_neg (by omega), if_pos (by omega)]
      simp (disch := omega) only [jups, up1_s]
      rw [if_pos (by omega), n32s (by omega) (by omega)]
      rw [lsF_y c, lsN_y c] at this
      rw [← this]
      congr 1
      funext o
      by_cases e1 : o = 45
      · subst e1; simp (disch := omega) only [jups, jupn, jwr_n]; funext t; unfold up1; split <;> rfl
      · by_cases e2 : o = 59
        · subst e2; simp (disch := omega) only [jups, jupn, jwr_n, jwr_s]
        · simp (disch := omega) only [jupn, jwr_n]
    · rw [if_neg c]
      simp only [if_true]
      rw [lsF_n c, lsN_n c] at this
      exact this
theorem sM_ata (h0 : 0 ≤ w 45 7) (h4 : w 45 7 ≤ 4) : AW mM_asThingsAre 0 [jR 45, jX] [] w Q = Q (jI 0) (jup (jwr w 59 (lsF (w 50) (w 51) (w 59) (w 45 7).toNat)) 45 24 (lsN (w 51) (w 45 7).toNat)) := by
  rw [bM_asThingsAre_0]
  have := sM_ata7 (Q := Q) h4 _ 0 rfl (by omega)
  rw [← this]
  congr 1
  show jup w 45 24 0 = jup (jwr w 59 (w 59)) 45 24 0
  rw [jwr_e rfl]
/-- the class's arms -/
theorem sG_turned (h : -1 ≤ a ∧ a ≤ 8) (hb : 0 ≤ b ∧ b ≤ 8) : AW mG_turned 0 [jI a, jI b] [] w Q = Q (jI (turnR a b)) w := by
  rw [bG_turned_0]
  unfold turnR
  split
  · rfl
  · split
    · rfl
    · rw [n32s (by omega) (by omega), Int.tmod_eq_emod_of_nonneg (by omega)]
theorem sM_turned (h : -1 ≤ a ∧ a ≤ 8) (hb : 0 ≤ b ∧ b ≤ 8) : AW mM_turned 0 [jI a, jI b] [] w Q = Q (jI (turnR a b)) w := by
  rw [bM_turned_0]
  unfold turnR
  by_cases c : a = -1
  · rw [if_pos (by omega), if_pos c]
  · rw [if_neg (by omega), if_neg c]
    split
    · rfl
    · rw [n32s (by omega) (by omega), Int.tmod_eq_emod_of_nonneg (by omega)]
theorem sG_keen18 (h4 : w 28 1 ≤ 4) (hf : ∀ i, 0 ≤ i → i < w 28 1 → c67 (w 29 i)) (hc : c67 c) (m : Nat) : ∀ j : Nat, (w 28 1 - j).toNat = m → 1 ≤ j → (j : Int) ≤ w 28 1 →
    AW mG_keenArm 18 [jR 28, jI c, jI (w 29 (nr (w 29) c (j - 1))), jI j] [] w Q = Q (jI (wayF c (w 29 (nr (w 29) c (w 28 1 - 1).toNat)))) w := by
  induction m with
  | zero =>
    intro j hm h1 hj
    have := nr_in (f := w 29) (c := c) (j - 1)
    rw [bG_keenArm_18, if_neg (by omega), sX_wayBetween hc (hf _ (by omega) (by omega)), bG_keenArm_62, show (w 28 1 - 1).toNat = j - 1 by omega]
  | succ m ih =>
    intro j hm h1 hj
    have ih' := ih (j + 1) (by omega) (by omega) (by omega)
    have r := nr_in (f := w 29) (c := c) (j - 1)
    have e : nr (w 29) c (j + 1 - 1) = if stF c (w 29 (j : Int)) < stF c (w 29 (nr (w 29) c (j - 1))) then (j : Int) else nr (w 29) c (j - 1) := by
      obtain ⟨t, rfl⟩ : ∃ t, j = t + 1 := ⟨j - 1, by omega⟩
      rw [show t + 1 + 1 - 1 = t + 1 by omega, show t + 1 - 1 = t by omega]
      rfl
    rw [bG_keenArm_18, if_pos (by omega), if_pos (by omega), sX_stepsBetween hc (hf _ (by omega) (by omega)), bG_keenArm_36, sX_stepsBetween hc (hf _ (by omega) (by omega)), bG_keenArm_41, n32s (by omega) (by omega)]
    by_cases q : stF c (w 29 (j : Int)) < stF c (w 29 (nr (w 29) c (j - 1)))
    · rw [if_pos q, if_pos (by omega)]; rw [e, if_pos q] at ih'; exact ih'
    · rw [if_neg q]; rw [e, if_neg q] at ih'; exact ih'
theorem sG_keenArm (h0 : 0 ≤ w 28 1) (h4 : w 28 1 ≤ 4) (hf : ∀ i, 0 ≤ i → i < w 28 1 → c67 (w 29 i)) (hc : c67 c) : AW mG_keenArm 0 [jR 28, jI c, jX, jX] [] w Q = Q (jI (keenR c (w 28 1) (w 29))) w := by
  rw [bG_keenArm_0]
  unfold keenR
  split
  · rfl
  · rw [if_pos (by omega)]
    exact sG_keen18 h4 hf hc _ 1 rfl (by omega) (by omega)
theorem sG_lazyArm (h4 : w 28 1 ≤ 4) (hf : ∀ i, 0 ≤ i → i < w 28 1 → c67 (w 29 i)) (hc : c67 c) : AW mG_lazyArm 0 [jR 28, jI a, jI c] [] w Q = Q (jI (lazyR a c (w 28 1) (w 29))) w := by
  rw [bG_lazyArm_0]
  unfold lazyR
  split
  · have h := hf 0 (by omega) (by omega)
    rw [if_pos (by omega), sX_stepsBetween hc h, bG_lazyArm_18]
    split
    · rfl
    · rw [if_pos (by omega), sX_wayBetween hc h, bG_lazyArm_34]
  · rfl
theorem sG_torn16 (h4 : w 28 1 ≤ 4) (hf : ∀ i, 0 ≤ i → i < w 28 1 → c67 (w 29 i)) (hc : c67 c) (m : Nat) : ∀ j : Nat, (w 28 1 - j).toNat = m → (j : Int) ≤ w 28 1 →
    AW mG_tornArm 16 [jR 28, jI c, jI (sumD (w 29) c j), jI (sumE (w 29) c j), jI j] [] w Q = Q (jI (wayR (sumD (w 29) c (w 28 1).toNat) (sumE (w 29) c (w 28 1).toNat))) w := by
  induction m with
  | zero =>
    intro j hm hj
    have d1 := sumD_in (f := w 29) hc j (fun i a b => hf i a (by omega))
    have d2 := sumE_in (f := w 29) hc j (fun i a b => hf i a (by omega))
    rw [bG_tornArm_16, if_neg (by omega), sX_wayBy (by omega) (by omega), bG_tornArm_72, show (w 28 1).toNat = j by omega]
  | succ m ih =>
    intro j hm hj
    have ih' := ih (j + 1) (by omega) (by omega)
    have d1 := sumD_in (f := w 29) hc j (fun i a b => hf i a (by omega))
    have d2 := sumE_in (f := w 29) hc j (fun i a b => hf i a (by omega))
    have f1 := hf j (by omega) (by omega)
    rw [bG_tornArm_16, if_pos (by omega), if_pos (by omega), if_pos (by omega), td f1.1, td hc.1, tm f1.1, tm hc.1, n32s (x := w 29 (j : Int) / 10) (by omega) (by omega), n32s (x := c / 10) (by omega) (by omega), n32s (x := w 29 (j : Int) / 10 - c / 10) (by omega) (by omega), n32s (x := w 29 (j : Int) % 10 - c % 10) (by omega) (by omega), n32s (by omega) (by omega), n32s (by omega) (by omega), n32s (by omega) (by omega)]
    exact ih'
theorem sG_tornArm (h0 : 0 ≤ w 28 1) (h4 : w 28 1 ≤ 4) (hf : ∀ i, 0 ≤ i → i < w 28 1 → c67 (w 29 i)) (hc : c67 c) : AW mG_tornArm 0 [jR 28, jI c, jX, jX, jX] [] w Q = Q (jI (tornR c (w 28 1) (w 29))) w := by
  rw [bG_tornArm_0]
  unfold tornR
  split
  · rfl
  · exact sG_torn16 h4 hf hc _ 0 rfl (by omega)
theorem sG_armBy (h0 : 0 ≤ w 28 1) (h4 : w 28 1 ≤ 4) (hf : ∀ i, 0 ≤ i → i < w 28 1 → c67 (w 29 i)) (hc : c67 c) : AW mG_armBy 0 [jR 28, jI k, jI a, jI c] [] w Q = Q (jI (armR k a c (w 28 1) (w 29))) w := by
  rw [bG_armBy_0]
  unfold armR
  split
  · rw [sG_keenArm h0 h4 hf hc, bG_armBy_41]
  · split
    · rw [sG_lazyArm h4 hf hc, bG_armBy_48]
    · split
      · rw [sG_keenArm h0 h4 hf hc, bG_armBy_54, sG_turned keenR_in (by omega), bG_armBy_58]
      · split
        · rw [sG_lazyArm h4 hf hc, bG_armBy_65, sG_turned lazyR_in (by omega), bG_armBy_69]
        · split
          · rw [sG_tornArm h0 h4 hf hc, bG_armBy_75]
          · split
            · rw [if_pos (by omega), sX_wayBetween hc (hf 0 (by omega) (by omega)), bG_armBy_94]
            · rfl
end SO
