section SW
variable {w v u : jW} {Q : jV → jW → Prop} {K x y z a b c d e n p k : Int}
theorem sm_s {f : Int → Int} {m : Nat} : sm f (m + 1) = sm f m + f (m : Int) := rfl
def lost1 (f : Int → Int) (k : Int) : Int := if f k < 5 then 1 else 0
def sure1 (f : Int → Int) (k : Int) : Int := if f k < 5 then 0 else 1
def not1 (f : Int → Int) (x k : Int) : Int := if f k = x then 0 else 1
theorem lost1_in {f : Int → Int} : 0 ≤ lost1 f k ∧ lost1 f k ≤ 1 := by unfold lost1; split <;> omega
theorem sure1_in {f : Int → Int} : 0 ≤ sure1 f k ∧ sure1 f k ≤ 1 := by unfold sure1; split <;> omega
theorem not1_in {f : Int → Int} : 0 ≤ not1 f x k ∧ not1 f x k ≤ 1 := by unfold not1; split <;> omega
theorem lost_sure {f g : Int → Int} (m : Nat) (h : ∀ i, 0 ≤ i → i < (m : Int) → f i = g i) : sm (lost1 f) m = (m : Int) - sm (sure1 g) m := by
  induction m with
  | zero => rfl
  | succ m ih =>
    have a := ih (fun i q1 q2 => h i q1 (by omega))
    have b := h m (by omega) (by omega)
    rw [sm_s, sm_s]
    unfold lost1 sure1 at *
    rw [b]
    split <;> omega
theorem sL_lostCount4 (h4 : w 1 4 ≤ 4) (m : Nat) : ∀ j : Nat, (w 1 4 - j).toNat = m → (j : Int) ≤ w 1 4 → AW mL_lostCount 4 [jR 1, jI (sm (lost1 (w 7)) j), jI j] [] w Q = Q (jI (sm (lost1 (w 7)) (w 1 4).toNat)) w := by
  induction m with
  | zero =>
    intro j hm hj
    rw [bL_lostCount_4, if_neg (by omega), show (w 1 4).toNat = j by omega]
  | succ m ih =>
    intro j hm hj
    have si := sm_in (f := lost1 (w 7)) (lo := 0) (hi := 1) j (fun _ _ _ => lost1_in)
    have ih' := ih (j + 1) (by omega) (by omega)
    rw [sm_s] at ih'
    rw [bL_lostCount_4, if_pos (by omega), bL_isLost_0, if_pos (by omega)]
    by_cases q : w 7 (j : Int) < 5
    · rw [if_pos q, bL_lostCount_18, if_neg (by omega), n32s (by omega) (by omega), n32s (by omega) (by omega)]
      rw [show lost1 (w 7) (j : Int) = 1 from if_pos q] at ih'; exact ih'
    · rw [if_neg q, bL_lostCount_18, if_pos rfl, n32s (by omega) (by omega), n32s (by omega) (by omega)]
      rw [show lost1 (w 7) (j : Int) = 0 from if_neg q] at ih'; exact ih'
theorem sL_lostCount (h0 : 0 ≤ w 1 4) (h4 : w 1 4 ≤ 4) : AW mL_lostCount 0 [jR 1, jX, jX] [] w Q = Q (jI (sm (lost1 (w 7)) (w 1 4).toNat)) w := by
  rw [bL_lostCount_0]
  exact sL_lostCount4 h4 _ 0 rfl (by omega)
theorem sM_sureOnes4 (h4 : w 45 7 ≤ 4) (m : Nat) : ∀ j : Nat, (w 45 7 - j).toNat = m → (j : Int) ≤ w 45 7 → AW mM_sureOnes 4 [jR 45, jI (sm (sure1 (w 51)) j), jI j] [] w Q = Q (jI (sm (sure1 (w 51)) (w 45 7).toNat)) w := by
  induction m with
  | zero =>
    intro j hm hj
    rw [bM_sureOnes_4, if_neg (by omega), show (w 45 7).toNat = j by omega]
  | succ m ih =>
    intro j hm hj
    have si := sm_in (f := sure1 (w 51)) (lo := 0) (hi := 1) j (fun _ _ _ => sure1_in)
    have ih' := ih (j + 1) (by omega) (by omega)
    rw [sm_s] at ih'
    rw [bM_sureOnes_4, if_pos (by omega), bM_isLost_0, if_pos (by omega)]
    by_cases q : w 51 (j : Int) < 5
    · rw [if_pos q, bM_sureOnes_17, if_neg (by omega), n32s (by omega) (by omega)]
      rw [show sure1 (w 51) (j : Int) = 0 from if_pos q, Int.add_zero] at ih'; exact ih'
    · rw [if_neg q, bM_sureOnes_17, if_pos rfl, n32s (by omega) (by omega), n32s (by omega) (by omega)]
      rw [show sure1 (w 51) (j : Int) = 1 from if_neg q] at ih'; exact ih'
theorem sM_sureOnes (h0 : 0 ≤ w 45 7) (h4 : w 45 7 ≤ 4) : AW mM_sureOnes 0 [jR 45, jX, jX] [] w Q = Q (jI (sm (sure1 (w 51)) (w 45 7).toNat)) w := by
  rw [bM_sureOnes_0]
  exact sM_sureOnes4 h4 _ 0 rfl (by omega)
theorem sL_bogCount4 (hb : ∀ c, 0 ≤ c → c < 67 → w 2 c = 0 ∨ w 2 c = 1) (m : Nat) : ∀ j : Nat, 67 - j = m → j ≤ 67 → AW mL_bogCount 4 [jR 1, jI (sm (w 2) j), jI j] [] w Q = Q (jI (sm (w 2) 67)) w := by
  induction m with
  | zero =>
    intro j hm hj
    rw [bL_bogCount_4, if_neg (by omega), show j = 67 by omega]
  | succ m ih =>
    intro j hm hj
    have si := sm_in (f := w 2) (lo := 0) (hi := 1) j (fun i q1 q2 => by have := hb i q1 (by omega); omega)
    have ih' := ih (j + 1) (by omega) (by omega)
    have := hb j (by omega) (by omega)
    rw [sm_s] at ih'
    rw [bL_bogCount_4, if_pos (by omega), if_pos (by omega), n32s (by omega) (by omega), n32s (by omega) (by omega)]
    exact ih'
theorem sM_bogs84 {y1 : jV} (m : Nat) : ∀ j : Nat, 67 - j = m → j ≤ 67 → AW mM_status 84 [jR 45, y1, jI (sm (not1 (w 46) 0) j), jI j] [] w Q = Q (jI (sm (not1 (w 46) 0) 67)) w := by
  induction m with
  | zero =>
    intro j hm hj
    rw [bM_status_84, if_neg (by omega), show j = 67 by omega]
  | succ m ih =>
    intro j hm hj
    have si := sm_in (f := not1 (w 46) 0) (lo := 0) (hi := 1) j (fun i q1 q2 => not1_in)
    have ih' := ih (j + 1) (by omega) (by omega)
    rw [sm_s] at ih'
    rw [bM_status_84, if_pos (by omega), if_pos (by omega)]
    by_cases q : w 46 (j : Int) = 0
    · rw [if_pos q, n32s (by omega) (by omega)]
      rw [show not1 (w 46) 0 (j : Int) = 0 from if_pos q, Int.add_zero] at ih'; exact ih'
    · rw [if_neg q, n32s (by omega) (by omega), n32s (by omega) (by omega)]
      rw [show not1 (w 46) 0 (j : Int) = 1 from if_neg q] at ih'; exact ih'
theorem sS_filled4 (m : Nat) : ∀ j : Nat, 8 - j = m → j ≤ 8 → AW mS_filledCount 4 [jR 22, jI (sm (not1 (w 23) (-1)) j), jI j] [] w Q = Q (jI (sm (not1 (w 23) (-1)) 8)) w := by
  induction m with
  | zero =>
    intro j hm hj
    rw [bS_filledCount_4, if_neg (by omega), show j = 8 by omega]
  | succ m ih =>
    intro j hm hj
    have si := sm_in (f := not1 (w 23) (-1)) (lo := 0) (hi := 1) j (fun i q1 q2 => not1_in)
    have ih' := ih (j + 1) (by omega) (by omega)
    rw [sm_s] at ih'
    rw [bS_filledCount_4, if_pos (by omega), if_pos (by omega)]
    by_cases q : w 23 (j : Int) = -1
    · rw [if_pos q, n32s (by omega) (by omega), n32s (by omega) (by omega)]
      rw [show not1 (w 23) (-1) (j : Int) = 0 from if_pos q] at ih'; exact ih'
    · rw [if_neg q, n32s (by omega) (by omega), n32s (by omega) (by omega)]
      rw [show not1 (w 23) (-1) (j : Int) = 1 from if_neg q] at ih'; exact ih'
theorem sM_filled122 {y1 : jV} (m : Nat) : ∀ j : Nat, 8 - j = m → j ≤ 8 → AW mM_status 122 [jR 45, y1, jI (sm (not1 (w 53) (-1)) j), jI j] [] w Q = Q (jI (sm (not1 (w 53) (-1)) 8)) w := by
  induction m with
  | zero =>
    intro j hm hj
    rw [bM_status_122, if_neg (by omega), show j = 8 by omega]
  | succ m ih =>
    intro j hm hj
    have si := sm_in (f := not1 (w 53) (-1)) (lo := 0) (hi := 1) j (fun i q1 q2 => not1_in)
    have ih' := ih (j + 1) (by omega) (by omega)
    rw [sm_s] at ih'
    rw [bM_status_122, if_pos (by omega), if_pos (by omega)]
    by_cases q : w 53 (j : Int) = -1
    · rw [if_pos q, n32s (by omega) (by omega)]
      rw [show not1 (w 53) (-1) (j : Int) = 0 from if_pos q, Int.add_zero] at ih'; exact ih'
    · rw [if_neg q, n32s (by omega) (by omega), n32s (by omega) (by omega)]
      rw [show not1 (w 53) (-1) (j : Int) = 1 from if_neg q] at ih'; exact ih'
end SW
