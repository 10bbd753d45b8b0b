/-! Arrays.fill -/
/-- x from a to b -/
def cf (f : Int → Int) (a b x : Int) : Int → Int := fun j => if a ≤ j ∧ j < b then x else f j
theorem sJ_fill5_39 {Q : jV → jW → Prop} {x : Int} (m : Nat) : ∀ (k : Int) (w : jW), (67 - k).toNat = m → 0 ≤ k → k ≤ 67 → AW mJ_fill 5 [jR 39, jI x, jI k, jI 67] [] w Q = Q (jI 0) (jwr w 39 (cf (w 39) k 67 x)) := by
  induction m with
  | zero =>
    intro k w hm h0 h1
    rw [bJ_fill_r39_5, if_neg (by omega), jwr_e]
    funext t; unfold cf; rw [if_neg (by omega)]
  | succ m ih =>
    intro k w hm h0 h1
    rw [bJ_fill_r39_5, if_pos (by omega), if_pos (by omega), n32s (by omega) (by omega), ih (k + 1) _ (by omega) (by omega) (by omega), jwr_j, jups]
    congr 2
    funext t
    unfold cf up1
    by_cases e : t = k
    · rw [if_neg (by omega), if_pos e, if_pos (by omega)]
    · by_cases e2 : k ≤ t ∧ t < 67
      · rw [if_pos (by omega), if_pos e2]
      · rw [if_neg (by omega), if_neg e, if_neg e2]
theorem sJ_fill_39 {Q : jV → jW → Prop} {x : Int} {w : jW} : AW mJ_fill 0 [jR 39, jI x, jX, jX] [] w Q = Q (jI 0) (jwr w 39 (cf (w 39) 0 67 x)) := by
  rw [bJ_fill_r39_0]
  exact sJ_fill5_39 _ 0 w rfl (by omega) (by omega)
theorem sJ_fill5_35 {Q : jV → jW → Prop} {x : Int} (m : Nat) : ∀ (k : Int) (w : jW), (10 - k).toNat = m → 0 ≤ k → k ≤ 10 → AW mJ_fill 5 [jR 35, jI x, jI k, jI 10] [] w Q = Q (jI 0) (jwr w 35 (cf (w 35) k 10 x)) := by
  induction m with
  | zero =>
    intro k w hm h0 h1
    rw [bJ_fill_r35_5, if_neg (by omega), jwr_e]
    funext t; unfold cf; rw [if_neg (by omega)]
  | succ m ih =>
    intro k w hm h0 h1
    rw [bJ_fill_r35_5, if_pos (by omega), if_pos (by omega), n32s (by omega) (by omega), ih (k + 1) _ (by omega) (by omega) (by omega), jwr_j, jups]
    congr 2
    funext t
    unfold cf up1
    by_cases e : t = k
    · rw [if_neg (by omega), if_pos e, if_pos (by omega)]
    · by_cases e2 : k ≤ t ∧ t < 10
      · rw [if_pos (by omega), if_pos e2]
      · rw [if_neg (by omega), if_neg e, if_neg e2]
theorem sJ_fill_35 {Q : jV → jW → Prop} {x : Int} {w : jW} : AW mJ_fill 0 [jR 35, jI x, jX, jX] [] w Q = Q (jI 0) (jwr w 35 (cf (w 35) 0 10 x)) := by
  rw [bJ_fill_r35_0]
  exact sJ_fill5_35 _ 0 w rfl (by omega) (by omega)
theorem sJ_fill5_43 {Q : jV → jW → Prop} {x : Int} (m : Nat) : ∀ (k : Int) (w : jW), (20 - k).toNat = m → 0 ≤ k → k ≤ 20 → AW mJ_fill 5 [jR 43, jI x, jI k, jI 20] [] w Q = Q (jI 0) (jwr w 43 (cf (w 43) k 20 x)) := by
  induction m with
  | zero =>
    intro k w hm h0 h1
    rw [bJ_fill_r43_5, if_neg (by omega), jwr_e]
    funext t; unfold cf; rw [if_neg (by omega)]
  | succ m ih =>
    intro k w hm h0 h1
    rw [bJ_fill_r43_5, if_pos (by omega), if_pos (by omega), n32s (by omega) (by omega), ih (k + 1) _ (by omega) (by omega) (by omega), jwr_j, jups]
    congr 2
    funext t
    unfold cf up1
    by_cases e : t = k
    · rw [if_neg (by omega), if_pos e, if_pos (by omega)]
    · by_cases e2 : k ≤ t ∧ t < 20
      · rw [if_pos (by omega), if_pos e2]
      · rw [if_neg (by omega), if_neg e, if_neg e2]
theorem sJ_fill_43 {Q : jV → jW → Prop} {x : Int} {w : jW} : AW mJ_fill 0 [jR 43, jI x, jX, jX] [] w Q = Q (jI 0) (jwr w 43 (cf (w 43) 0 20 x)) := by
  rw [bJ_fill_r43_0]
  exact sJ_fill5_43 _ 0 w rfl (by omega) (by omega)
theorem sJ_fill5_33 {Q : jV → jW → Prop} {x : Int} (m : Nat) : ∀ (k : Int) (w : jW), (49 - k).toNat = m → 0 ≤ k → k ≤ 49 → AW mJ_fill 5 [jR 33, jI x, jI k, jI 49] [] w Q = Q (jI 0) (jwr w 33 (cf (w 33) k 49 x)) := by
  induction m with
  | zero =>
    intro k w hm h0 h1
    rw [bJ_fill_r33_5, if_neg (by omega), jwr_e]
    funext t; unfold cf; rw [if_neg (by omega)]
  | succ m ih =>
    intro k w hm h0 h1
    rw [bJ_fill_r33_5, if_pos (by omega), if_pos (by omega), n32s (by omega) (by omega), ih (k + 1) _ (by omega) (by omega) (by omega), jwr_j, jups]
    congr 2
    funext t
    unfold cf up1
    by_cases e : t = k
    · rw [if_neg (by omega), if_pos e, if_pos (by omega)]
    · by_cases e2 : k ≤ t ∧ t < 49
      · rw [if_pos (by omega), if_pos e2]
      · rw [if_neg (by omega), if_neg e, if_neg e2]
theorem sJ_fill_33 {Q : jV → jW → Prop} {x : Int} {w : jW} : AW mJ_fill 0 [jR 33, jI x, jX, jX] [] w Q = Q (jI 0) (jwr w 33 (cf (w 33) 0 49 x)) := by
  rw [bJ_fill_r33_0]
  exact sJ_fill5_33 _ 0 w rfl (by omega) (by omega)
theorem sJ_fill5_34 {Q : jV → jW → Prop} {x : Int} (m : Nat) : ∀ (k : Int) (w : jW), (49 - k).toNat = m → 0 ≤ k → k ≤ 49 → AW mJ_fill 5 [jR 34, jI x, jI k, jI 49] [] w Q = Q (jI 0) (jwr w 34 (cf (w 34) k 49 x)) := by
  induction m with
  | zero =>
    intro k w hm h0 h1
    rw [bJ_fill_r34_5, if_neg (by omega), jwr_e]
    funext t; unfold cf; rw [if_neg (by omega)]
  | succ m ih =>
    intro k w hm h0 h1
    rw [bJ_fill_r34_5, if_pos (by omega), if_pos (by omega), n32s (by omega) (by omega), ih (k + 1) _ (by omega) (by omega) (by omega), jwr_j, jups]
    congr 2
    funext t
    unfold cf up1
    by_cases e : t = k
    · rw [if_neg (by omega), if_pos e, if_pos (by omega)]
    · by_cases e2 : k ≤ t ∧ t < 49
      · rw [if_pos (by omega), if_pos e2]
      · rw [if_neg (by omega), if_neg e, if_neg e2]
theorem sJ_fill_34 {Q : jV → jW → Prop} {x : Int} {w : jW} : AW mJ_fill 0 [jR 34, jI x, jX, jX] [] w Q = Q (jI 0) (jwr w 34 (cf (w 34) 0 49 x)) := by
  rw [bJ_fill_r34_0]
  exact sJ_fill5_34 _ 0 w rfl (by omega) (by omega)
theorem sJ_fill5_44 {Q : jV → jW → Prop} {x : Int} (m : Nat) : ∀ (k : Int) (w : jW), (67 - k).toNat = m → 0 ≤ k → k ≤ 67 → AW mJ_fill 5 [jR 44, jI x, jI k, jI 67] [] w Q = Q (jI 0) (jwr w 44 (cf (w 44) k 67 x)) := by
  induction m with
  | zero =>
    intro k w hm h0 h1
    rw [bJ_fill_r44_5, if_neg (by omega), jwr_e]
    funext t; unfold cf; rw [if_neg (by omega)]
  | succ m ih =>
    intro k w hm h0 h1
    rw [bJ_fill_r44_5, if_pos (by omega), if_pos (by omega), n32s (by omega) (by omega), ih (k + 1) _ (by omega) (by omega) (by omega), jwr_j, jups]
    congr 2
    funext t
    unfold cf up1
    by_cases e : t = k
    · rw [if_neg (by omega), if_pos e, if_pos (by omega)]
    · by_cases e2 : k ≤ t ∧ t < 67
      · rw [if_pos (by omega), if_pos e2]
      · rw [if_neg (by omega), if_neg e, if_neg e2]
theorem sJ_fill_44 {Q : jV → jW → Prop} {x : Int} {w : jW} : AW mJ_fill 0 [jR 44, jI x, jX, jX] [] w Q = Q (jI 0) (jwr w 44 (cf (w 44) 0 67 x)) := by
  rw [bJ_fill_r44_0]
  exact sJ_fill5_44 _ 0 w rfl (by omega) (by omega)
