section SZ3
variable {w v u : jW} {Q : jV → jW → Prop} {K x y z a b c d e n p k : Int}
/-- the reference's step; he can go -/
theorem VM.goesBy (h : VM w v) (hp : 0 ≤ p ∧ p < v 1 4) (hk : 0 ≤ k ∧ k ≤ 4) (hc : canB v (v 6 p) k) : AW mM_goesBy 0 [jR 45, jI p, jI k, jX] [] w Q =
    Q (jI (v 6 p + jcmd k)) (jup (jup w 50 p (v 6 p + jcmd k)) 51 p (moveS (v 1 1) (v 6 p + jcmd k) (v 7 p) k)) := by
  have kk := h.wk
  have e := h.eq
  have kt := h.kt hp
  rw [bM_goesBy_0, bM_isLost_0, if_pos (by omega), kt.1.2]
  have G : ∀ l : Int, (l = 0 ↔ ¬ v 7 p < 5) → ∀ u, u = jup w 50 p (v 6 p + jcmd k) → AW mM_goesBy 27 [jR 45, jI p, jI k, jI l] [] u Q =
      Q (jI (v 6 p + jcmd k)) (jup (jup w 50 p (v 6 p + jcmd k)) 51 p (moveS (v 1 1) (v 6 p + jcmd k) (v 7 p) k)) := by
    intro l hl u hu
    have u50 : u 50 p = v 6 p + jcmd k := by rw [hu, jups, up1_s]
    have u51 : u 51 p = v 7 p := by rw [hu, jupn (by omega)]; exact kt.1.2
    have u45 : u 45 2 = v 1 1 := by rw [hu, jupn (by omega)]; exact e.2.1
    have us : jup u 51 p (v 7 p) = u := jup_same u51
    rw [bM_goesBy_27, u50, u51, u45, ← hu]
    have p4 : 0 ≤ p ∧ p < 4 := by omega
    simp only [if_pos p4]
    unfold moveS
    by_cases q : v 6 p + jcmd k = v 1 1
    · rw [if_pos q, if_pos q]
    · rw [if_neg q, if_neg q]
      by_cases q2 : l = 0
      · rw [if_pos q2, if_neg (fun t => hl.mp q2 t.1), us]
      · rw [if_neg q2]
        have q5 : v 7 p < 5 := by omega
        by_cases q3 : 0 < k
        · rw [if_pos q3, if_pos ⟨q5, by omega⟩, n32s (by omega) (by omega)]
          unfold jmax
          congr 2
          split <;> split <;> omega
        · rw [if_neg q3, if_neg (fun t => t.2 (by omega)), us]
  have B : ∀ l : Int, (l = 0 ↔ ¬ v 7 p < 5) → AW mM_goesBy 5 [jR 45, jI p, jI k, jX] [jI l] w Q =
      Q (jI (v 6 p + jcmd k)) (jup (jup w 50 p (v 6 p + jcmd k)) 51 p (moveS (v 1 1) (v 6 p + jcmd k) (v 7 p) k)) := by
    intro l hl
    rw [bM_goesBy_5]
    by_cases q : 0 < k
    · have cb : dryB (v 1 0) (v 2) (v 6 p + jcmd k) := hc.elim (fun t => absurd t (by omega)) id
      rw [if_pos q, if_pos (by omega), kt.1.1, sM_beside (by omega) (by rw [e.1]; exact kt.2.1.1) (by omega), bM_goesBy_26, if_pos (by omega)]
      unfold besR
      rw [if_pos (by rw [e.1]; exact cb.1)]
      exact G l hl _ rfl
    · have k0 : k = 0 := by omega
      rw [if_neg q]
      refine G l hl w ?_
      rw [k0, jcmd0, Int.add_zero]
      exact (jup_same kt.1.1).symm
  split
  · exact B 1 (by omega)
  · exact B 0 (by omega)
end SZ3
