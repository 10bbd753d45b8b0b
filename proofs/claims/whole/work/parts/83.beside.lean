/-! steps beside -/
section SY
variable {w v u : jW} {Q : jV → jW → Prop} {K x y z a b c d e n p k : Int}
theorem jcmd1 : jcmd 1 = -10 := by decide
theorem jcmd2 : jcmd 2 = 10 := by decide
theorem jcmd3 : jcmd 3 = -1 := by decide
theorem jcmd4 : jcmd 4 = 1 := by decide
theorem jcmd0 : jcmd 0 = 0 := by decide
def besR (n c k : Int) : Int := if cellB n (c + jcmd k) then c + jcmd k else -1
theorem sM_beside (hn : 3 ≤ w 45 0 ∧ w 45 0 ≤ 7) (hc : cellB (w 45 0) c) (hk : 1 ≤ k ∧ k ≤ 4) : AW mM_beside 0 [jR 45, jI c, jI k, jX, jX] [] w Q = Q (jI (besR (w 45 0) c k)) w := by
  have h67 := cell67 hn.2 hc
  obtain ⟨c0, c1, c2⟩ := hc
  have R : ∀ r s, -1 ≤ r → r ≤ 7 → -1 ≤ s → s ≤ 7 → ∀ y1 y2, AW mM_beside 62 [jR 45, y1, y2, jI r, jI s] [jI (jb (0 ≤ r ∧ r ≤ w 45 0 - 1))] w Q = Q (jI (if (0 ≤ r ∧ r < w 45 0) ∧ 0 ≤ s ∧ s < w 45 0 then 10 * r + s else -1)) w := by
    intro r s h1 h2 h3 h4 y1 y2
    rw [bM_beside_62, jb_ite]
    by_cases q : 0 ≤ r ∧ r ≤ w 45 0 - 1
    · rw [if_pos q, sM_within, bM_beside_77, jb_ite, n32s (x := w 45 0 - 1) (by omega) (by omega), n32s (x := 10 * r) (by omega) (by omega)]
      by_cases q2 : 0 ≤ s ∧ s ≤ w 45 0 - 1
      · rw [if_pos q2, if_pos (by omega), n32s (by omega) (by omega)]
      · rw [if_neg q2, if_neg (by omega)]
    · rw [if_neg q, if_neg (by omega)]
  have E : ∀ r s t, t = 10 * r + s → (0 ≤ r → -1 ≤ s → s ≤ 7 → (cellB (w 45 0) t ↔ ((0 ≤ r ∧ r < w 45 0) ∧ 0 ≤ s ∧ s < w 45 0))) := by
    intro r s t ht h1 h2 h3
    unfold cellB
    omega
  rw [bM_beside_0]
  have hk4 : k = 1 ∨ k = 2 ∨ k = 3 ∨ k = 4 := by omega
  unfold besR
  rcases hk4 with rfl | rfl | rfl | rfl
  · rw [if_pos rfl, bM_beside_23, if_neg (by omega), if_neg (by omega), td c0, tm c0, n32s (x := c / 10) (by omega) (by omega), n32s (x := c / 10 + -1) (by omega) (by omega), n32s (x := c % 10 + 0) (by omega) (by omega), n32s (x := w 45 0 - 1) (by omega) (by omega), sM_within, R _ _ (by omega) (by omega) (by omega) (by omega), jcmd1]
    congr 2
    by_cases q : cellB (w 45 0) (c + -10)
    · rw [if_pos q, if_pos (by unfold cellB at q; omega)]; omega
    · rw [if_neg q, if_neg (by unfold cellB at q; omega)]
  · rw [if_neg (by omega), if_pos rfl, bM_beside_23, if_neg (by omega), if_neg (by omega), td c0, tm c0, n32s (x := c / 10) (by omega) (by omega), n32s (x := c / 10 + 1) (by omega) (by omega), n32s (x := c % 10 + 0) (by omega) (by omega), n32s (x := w 45 0 - 1) (by omega) (by omega), sM_within, R _ _ (by omega) (by omega) (by omega) (by omega), jcmd2]
    congr 2
    by_cases q : cellB (w 45 0) (c + 10)
    · rw [if_pos q, if_pos (by unfold cellB at q; omega)]; omega
    · rw [if_neg q, if_neg (by unfold cellB at q; omega)]
  · rw [if_neg (by omega), if_neg (by omega), bM_beside_23, if_pos rfl, td c0, tm c0, n32s (x := c / 10) (by omega) (by omega), n32s (x := c / 10 + 0) (by omega) (by omega), n32s (x := c % 10 + -1) (by omega) (by omega), n32s (x := w 45 0 - 1) (by omega) (by omega), sM_within, R _ _ (by omega) (by omega) (by omega) (by omega), jcmd3]
    congr 2
    by_cases q : cellB (w 45 0) (c + -1)
    · rw [if_pos q, if_pos (by unfold cellB at q; omega)]; omega
    · rw [if_neg q, if_neg (by unfold cellB at q; omega)]
  · rw [if_neg (by omega), if_neg (by omega), bM_beside_23, if_neg (by omega), if_pos rfl, td c0, tm c0, n32s (x := c / 10) (by omega) (by omega), n32s (x := c / 10 + 0) (by omega) (by omega), n32s (x := c % 10 + 1) (by omega) (by omega), n32s (x := w 45 0 - 1) (by omega) (by omega), sM_within, R _ _ (by omega) (by omega) (by omega) (by omega), jcmd4]
    congr 2
    by_cases q : cellB (w 45 0) (c + 1)
    · rw [if_pos q, if_pos (by unfold cellB at q; omega)]; omega
    · rw [if_neg q, if_neg (by unfold cellB at q; omega)]
end SY
