/-! keeping and taking back -/
theorem jup_jwr {w : jW} {o : Nat} {f : Int → Int} {k v : Int} : jup (jwr w o f) o k v = jwr w o (up1 f k v) := by
  rw [jwr_up, jwr_s]
  funext p; unfold jwr; split <;> rfl
def KG (w : jW) (k1 k2 k3 : Int) (g : Int → Int) : Prop := (∀ c, 0 ≤ c → c < k1 → g c = w 46 c) ∧ (∀ p, 0 ≤ p → p < k2 → g (67 + p) = w 47 p ∧ g (75 + p) = w 48 p ∧ g (83 + p) = w 49 p) ∧ (∀ p, 0 ≤ p → p < k3 → g (91 + p) = w 50 p ∧ g (95 + p) = w 51 p)
theorem sM_keep83_57 {w : jW} {Q : jV → jW → Prop} (hQ : ∀ g, KG w 67 8 4 g → g 99 = w 45 0 → g 100 = w 45 2 → g 101 = w 45 3 → g 102 = w 45 7 → g 103 = w 45 10 → Q (jI 0) (jwr w 57 g)) (m : Nat) :
    ∀ k g, (4 - k).toNat = m → 0 ≤ k → k ≤ 4 → KG w 67 8 k g → AW mM_keep 83 [jR 45, jR 57, jI k] [] (jwr w 57 g) Q := by
  induction m with
  | zero =>
    intro k g hm h0 h1 hg
    have hk : k = 4 := by omega
    subst hk
    rw [bM_keep_r57_83, if_neg (by omega), if_pos (by omega), if_pos (by omega), if_pos (by omega), if_pos (by omega), if_pos (by omega)]
    simp (disch := omega) only [jup_jwr, jwr_n]
    refine hQ _ ?_ ?_ ?_ ?_ ?_ ?_
    · obtain ⟨a, b, c⟩ := hg
      refine ⟨?_, ?_, ?_⟩
      · intro c q1 q2; simp (disch := omega) only [up1_n]; exact a c q1 q2
      · intro c q1 q2; simp (disch := omega) only [up1_n]; exact b c q1 q2
      · intro d q1 q2; simp (disch := omega) only [up1_n]; exact c d q1 q2
    all_goals simp (disch := omega) only [up1_n, up1_s]
  | succ m ih =>
    intro k g hm h0 h1 hg
    rw [bM_keep_r57_83, if_pos (by omega), if_pos (by omega), n32s (x := 91 + k) (by omega) (by omega), n32s (x := 95 + k) (by omega) (by omega), n32s (x := k + 1) (by omega) (by omega), if_pos (by omega), if_pos (by omega), if_pos (by omega)]
    simp (disch := omega) only [jup_jwr, jwr_n]
    refine ih (k + 1) _ (by omega) (by omega) (by omega) ?_
    obtain ⟨a, b, c⟩ := hg
    refine ⟨?_, ?_, ?_⟩
    · intro c q1 q2; simp (disch := omega) only [up1_n]; exact a c q1 q2
    · intro c q1 q2; simp (disch := omega) only [up1_n]; exact b c q1 q2
    · intro d q1 q2
      by_cases e : d = k
      · subst e; simp (disch := omega) only [up1_n, up1_s]; exact ⟨trivial, trivial⟩
      · simp (disch := omega) only [up1_n]; exact c d q1 (by omega)
theorem sM_keep33_57 {w : jW} {Q : jV → jW → Prop} (hQ : ∀ g, KG w 67 8 4 g → g 99 = w 45 0 → g 100 = w 45 2 → g 101 = w 45 3 → g 102 = w 45 7 → g 103 = w 45 10 → Q (jI 0) (jwr w 57 g)) (m : Nat) :
    ∀ k g, (8 - k).toNat = m → 0 ≤ k → k ≤ 8 → KG w 67 k 0 g → AW mM_keep 33 [jR 45, jR 57, jI k] [] (jwr w 57 g) Q := by
  induction m with
  | zero =>
    intro k g hm h0 h1 hg
    have hk : k = 8 := by omega
    subst hk
    rw [bM_keep_r57_33, if_neg (by omega)]
    exact sM_keep83_57 hQ _ 0 g rfl (by omega) (by omega) hg
  | succ m ih =>
    intro k g hm h0 h1 hg
    rw [bM_keep_r57_33, if_pos (by omega), if_pos (by omega), n32s (x := 67 + k) (by omega) (by omega), n32s (x := 75 + k) (by omega) (by omega), n32s (x := 83 + k) (by omega) (by omega), n32s (x := k + 1) (by omega) (by omega), if_pos (by omega), if_pos (by omega), if_pos (by omega), if_pos (by omega), if_pos (by omega)]
    simp (disch := omega) only [jup_jwr, jwr_n]
    refine ih (k + 1) _ (by omega) (by omega) (by omega) ?_
    obtain ⟨a, b, c⟩ := hg
    refine ⟨?_, ?_, ?_⟩
    · intro c q1 q2; simp (disch := omega) only [up1_n]; exact a c q1 q2
    · intro d q1 q2
      by_cases e : d = k
      · subst e; simp (disch := omega) only [up1_n, up1_s]; exact ⟨trivial, trivial, trivial⟩
      · simp (disch := omega) only [up1_n]; exact b d q1 (by omega)
    · intro d q1 q2; omega
theorem sM_keep_57 {w : jW} {Q : jV → jW → Prop} (hb : ∀ c, 0 ≤ c → c < 67 → w 46 c = 0 ∨ w 46 c = 1) (hQ : ∀ g, KG w 67 8 4 g → g 99 = w 45 0 → g 100 = w 45 2 → g 101 = w 45 3 → g 102 = w 45 7 → g 103 = w 45 10 → Q (jI 0) (jwr w 57 g)) :
    AW mM_keep 0 [jR 45, jR 57, jX] [] w Q := by
  have L : ∀ (m : Nat) k g, (67 - k).toNat = m → 0 ≤ k → k ≤ 67 → KG w k 0 0 g → AW mM_keep 2 [jR 45, jR 57, jI k] [] (jwr w 57 g) Q := by
    intro m
    induction m with
    | zero =>
      intro k g hm h0 h1 hg
      have hk : k = 67 := by omega
      subst hk
      rw [bM_keep_r57_2, if_neg (by omega)]
      exact sM_keep33_57 hQ _ 0 g rfl (by omega) (by omega) hg
    | succ m ih =>
      intro k g hm h0 h1 hg
      have go : ∀ v, w 46 k = v → AW mM_keep 2 [jR 45, jR 57, jI (k + 1)] [] (jwr w 57 (up1 g k v)) Q := by
        intro v hv
        refine ih (k + 1) _ (by omega) (by omega) (by omega) ?_
        obtain ⟨a, b, c⟩ := hg
        refine ⟨?_, ?_, ?_⟩
        · intro d q1 q2
          by_cases e : d = k
          · subst e; simp (disch := omega) only [up1_n, up1_s]; exact hv.symm
          · simp (disch := omega) only [up1_n]; exact a d q1 (by omega)
        · intro d q1 q2; omega
        · intro d q1 q2; omega
      have hk := hb k h0 (by omega)
      rw [bM_keep_r57_2, if_pos (by omega), if_pos (by omega), n32s (x := k + 1) (by omega) (by omega)]
      simp (disch := omega) only [jup_jwr, jwr_n]
      split
      · rename_i e; rw [if_pos (by omega)]; exact go 0 e
      · rename_i e; rw [if_pos (by omega)]; exact go 1 (by omega)
  rw [bM_keep_r57_0]
  have := L _ 0 (w 57) rfl (by omega) (by omega) ⟨fun c q1 q2 => by omega, fun c q1 q2 => by omega, fun c q1 q2 => by omega⟩
  rwa [jwr_e rfl] at this
theorem sM_keep83_58 {w : jW} {Q : jV → jW → Prop} (hQ : ∀ g, KG w 67 8 4 g → g 99 = w 45 0 → g 100 = w 45 2 → g 101 = w 45 3 → g 102 = w 45 7 → g 103 = w 45 10 → Q (jI 0) (jwr w 58 g)) (m : Nat) :
    ∀ k g, (4 - k).toNat = m → 0 ≤ k → k ≤ 4 → KG w 67 8 k g → AW mM_keep 83 [jR 45, jR 58, jI k] [] (jwr w 58 g) Q := by
  induction m with
  | zero =>
    intro k g hm h0 h1 hg
    have hk : k = 4 := by omega
    subst hk
    rw [bM_keep_r58_83, if_neg (by omega), if_pos (by omega), if_pos (by omega), if_pos (by omega), if_pos (by omega), if_pos (by omega)]
    simp (disch := omega) only [jup_jwr, jwr_n]
    refine hQ _ ?_ ?_ ?_ ?_ ?_ ?_
    · obtain ⟨a, b, c⟩ := hg
      refine ⟨?_, ?_, ?_⟩
      · intro c q1 q2; simp (disch := omega) only [up1_n]; exact a c q1 q2
      · intro c q1 q2; simp (disch := omega) only [up1_n]; exact b c q1 q2
      · intro d q1 q2; simp (disch := omega) only [up1_n]; exact c d q1 q2
    all_goals simp (disch := omega) only [up1_n, up1_s]
  | succ m ih =>
    intro k g hm h0 h1 hg
    rw [bM_keep_r58_83, if_pos (by omega), if_pos (by omega), n32s (x := 91 + k) (by omega) (by omega), n32s (x := 95 + k) (by omega) (by omega), n32s (x := k + 1) (by omega) (by omega), if_pos (by omega), if_pos (by omega), if_pos (by omega)]
    simp (disch := omega) only [jup_jwr, jwr_n]
    refine ih (k + 1) _ (by omega) (by omega) (by omega) ?_
    obtain ⟨a, b, c⟩ := hg
    refine ⟨?_, ?_, ?_⟩
    · intro c q1 q2; simp (disch := omega) only [up1_n]; exact a c q1 q2
    · intro c q1 q2; simp (disch := omega) only [up1_n]; exact b c q1 q2
    · intro d q1 q2
      by_cases e : d = k
      · subst e; simp (disch := omega) only [up1_n, up1_s]; exact ⟨trivial, trivial⟩
      · simp (disch := omega) only [up1_n]; exact c d q1 (by omega)
theorem sM_keep33_58 {w : jW} {Q : jV → jW → Prop} (hQ : ∀ g, KG w 67 8 4 g → g 99 = w 45 0 → g 100 = w 45 2 → g 101 = w 45 3 → g 102 = w 45 7 → g 103 = w 45 10 → Q (jI 0) (jwr w 58 g)) (m : Nat) :
    ∀ k g, (8 - k).toNat = m → 0 ≤ k → k ≤ 8 → KG w 67 k 0 g → AW mM_keep 33 [jR 45, jR 58, jI k] [] (jwr w 58 g) Q := by
  induction m with
  | zero =>
    intro k g hm h0 h1 hg
    have hk : k = 8 := by omega
    subst hk
    rw [bM_keep_r58_33, if_neg (by omega)]
    exact sM_keep83_58 hQ _ 0 g rfl (by omega) (by omega) hg
  | succ m ih =>
    intro k g hm h0 h1 hg
    rw [bM_keep_r58_33, if_pos (by omega), if_pos (by omega), n32s (x := 67 + k) (by omega) (by omega), n32s (x := 75 + k) (by omega) (by omega), n32s (x := 83 + k) (by omega) (by omega), n32s (x := k + 1) (by omega) (by omega), if_pos (by omega), if_pos (by omega), if_pos (by omega), if_pos (by omega), if_pos (by omega)]
    simp (disch := omega) only [jup_jwr, jwr_n]
    refine ih (k + 1) _ (by omega) (by omega) (by omega) ?_
    obtain ⟨a, b, c⟩ := hg
    refine ⟨?_, ?_, ?_⟩
    · intro c q1 q2; simp (disch := omega) only [up1_n]; exact a c q1 q2
    · intro d q1 q2
      by_cases e : d = k
      · subst e; simp (disch := omega) only [up1_n, up1_s]; exact ⟨trivial, trivial, trivial⟩
      · simp (disch := omega) only [up1_n]; exact b d q1 (by omega)
    · intro d q1 q2; omega
theorem sM_keep_58 {w : jW} {Q : jV → jW → Prop} (hb : ∀ c, 0 ≤ c → c < 67 → w 46 c = 0 ∨ w 46 c = 1) (hQ : ∀ g, KG w 67 8 4 g → g 99 = w 45 0 → g 100 = w 45 2 → g 101 = w 45 3 → g 102 = w 45 7 → g 103 = w 45 10 → Q (jI 0) (jwr w 58 g)) :
    AW mM_keep 0 [jR 45, jR 58, jX] [] w Q := by
  have L : ∀ (m : Nat) k g, (67 - k).toNat = m → 0 ≤ k → k ≤ 67 → KG w k 0 0 g → AW mM_keep 2 [jR 45, jR 58, jI k] [] (jwr w 58 g) Q := by
    intro m
    induction m with
    | zero =>
      intro k g hm h0 h1 hg
      have hk : k = 67 := by omega
      subst hk
      rw [bM_keep_r58_2, if_neg (by omega)]
      exact sM_keep33_58 hQ _ 0 g rfl (by omega) (by omega) hg
    | succ m ih =>
      intro k g hm h0 h1 hg
      have go : ∀ v, w 46 k = v → AW mM_keep 2 [jR 45, jR 58, jI (k + 1)] [] (jwr w 58 (up1 g k v)) Q := by
        intro v hv
        refine ih (k + 1) _ (by omega) (by omega) (by omega) ?_
        obtain ⟨a, b, c⟩ := hg
        refine ⟨?_, ?_, ?_⟩
        · intro d q1 q2
          by_cases e : d = k
          · subst e; simp (disch := omega) only [up1_n, up1_s]; exact hv.symm
          · simp (disch := omega) only [up1_n]; exact a d q1 (by omega)
        · intro d q1 q2; omega
        · intro d q1 q2; omega
      have hk := hb k h0 (by omega)
      rw [bM_keep_r58_2, if_pos (by omega), if_pos (by omega), n32s (x := k + 1) (by omega) (by omega)]
      simp (disch := omega) only [jup_jwr, jwr_n]
      split
      · rename_i e; rw [if_pos (by omega)]; exact go 0 e
      · rename_i e; rw [if_pos (by omega)]; exact go 1 (by omega)
  rw [bM_keep_r58_0]
  have := L _ 0 (w 58) rfl (by omega) (by omega) ⟨fun c q1 q2 => by omega, fun c q1 q2 => by omega, fun c q1 q2 => by omega⟩
  rwa [jwr_e rfl] at this
