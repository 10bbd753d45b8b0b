theorem jup_same {w : jW} {o : Nat} {k v : Int} (h : w o k = v) : jup w o k v = w := by
  rw [jwr_up, jwr_e]
  funext j
  unfold up1
  split
  · rename_i e; rw [e, h]
  · rfl
def moveS (home c s k : Int) : Int := if c = home then 9 else if s < 5 ∧ k ≠ 0 then (if s ≤ 0 then 0 else s - 1) else s
section SZ2
variable {w v u : jW} {Q : jV → jW → Prop} {K x y z a b c d e n p k : Int}
theorem sL_move (hp : 0 ≤ p ∧ p < 4) (hk : 0 ≤ k ∧ k ≤ 4) (hc : c67 (w 6 p)) (hs : 0 ≤ w 7 p ∧ w 7 p ≤ 9) : AW mL_move 0 [jR 1, jI p, jI k] [] w Q = Q (jI 0) (jup (jup w 6 p (w 6 p + jcmd k)) 7 p (moveS (w 1 1) (w 6 p + jcmd k) (w 7 p) k)) := by
  have jc := jcmd_in (k := k)
  rw [bL_move_0, if_pos (by omega), if_pos (by omega), if_pos (by omega), if_pos (by omega), n32s (by omega) (by omega)]
  simp (disch := omega) only [jups, up1_s]
  unfold moveS
  by_cases q : w 6 p + jcmd k = w 1 1
  · rw [if_pos q, if_pos (by omega), if_pos q]
  · rw [if_neg q, if_neg q, bL_isLost_0, if_pos (by omega)]
    simp (disch := omega) only [jupn]
    by_cases q2 : w 7 p < 5
    · rw [if_pos q2, bL_move_43, if_neg (by omega)]
      by_cases q3 : k = 0
      · rw [if_pos q3, if_neg (fun t => t.2 q3), jup_same (w := jup w 6 p (w 6 p + jcmd k)) (o := 7) (k := p) (by simp (disch := omega) only [jupn])]
      · rw [if_neg q3, if_pos (by omega), if_pos (by omega), if_pos ⟨q2, q3⟩]
        simp (disch := omega) only [jupn]
        rw [n32s (by omega) (by omega)]
        unfold jmax
        congr 2
        split <;> split <;> omega
    · rw [if_neg q2, bL_move_43, if_pos rfl, if_neg (fun t => q2 t.1), jup_same (w := jup w 6 p (w 6 p + jcmd k)) (o := 7) (k := p) (by simp (disch := omega) only [jupn])]
end SZ2
