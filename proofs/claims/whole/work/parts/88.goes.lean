section SZ4
variable {w v u : jW} {Q : jV → jW → Prop} {K x y z a b c d e n p k : Int}
theorem INV.can (h : INV K w) (hp : 0 ≤ p ∧ p < w 1 4) (hk : 0 ≤ k ∧ k ≤ 4) : AW mL_canGo 0 [jR 1, jI p, jI k] [] w Q = Q (jI (jb (canB w (w 6 p) k))) w := by
  have kk := h.wk
  have kt := h.1.kt hp
  have jc := jcmd_in (k := k)
  rw [bL_canGo_0, if_pos (by omega), if_pos (by omega), n32s (by omega) (by omega), sL_isDry kk.2.2.2, bL_canGo_17, if_pos (by rw [jb_01]; trivial)]
  congr 2
  apply jb_congr
  constructor
  · exact Or.inr
  · rintro (t | t)
    · rw [t, jcmd0, Int.add_zero]; exact kt.1
    · exact t
end SZ4
