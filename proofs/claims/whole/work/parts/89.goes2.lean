section SZ5
variable {w v u : jW} {Q : jV → jW → Prop} {K x y z a b c d e n p k : Int}
theorem moveS_in {h c s k : Int} (hs : 0 ≤ s ∧ s ≤ 9) : 0 ≤ moveS h c s k ∧ moveS h c s k ≤ 9 := by
  unfold moveS
  repeat' split
  all_goals omega
/-- one walker steps, on both sides -/
theorem INV.step (h : INV K w) (hp : 0 ≤ p ∧ p < w 1 4) (hc : dryB (w 1 0) (w 2) c) (hs : 0 ≤ x ∧ x ≤ 9) :
    INV K (jup (jup (jup (jup w 6 p c) 7 p x) 50 p c) 51 p x) := by
  obtain ⟨hcc, hm, hl⟩ := h
  refine ⟨?_, ?_, ?_⟩
  · unfold OKC LOk at hcc ⊢
    simp only [jwr_n, jwr_s, jupn, jups, up1_e, ne_eq, Nat.reduceEqDiff, not_false_eq_true, not_true_eq_false, if_true, if_false, Int.reduceEq, Int.reduceLT, Int.reduceLE, Int.reduceNeg, Int.reduceSub, Int.reduceAdd, Int.reduceMul, true_and, and_true, and_self, or_true, true_or, or_false, false_or, or_self] at hcc ⊢
    obtain ⟨⟨h1, h2, h3, h4, h5, h6, h7⟩, h8⟩ := hcc
    refine ⟨⟨h1, h2, h3, h4, h5, h6, ?_⟩, h8⟩
    intro i q1 q2
    by_cases e : i = p
    · simp only [if_pos e]; exact ⟨hc, hs⟩
    · simp only [if_neg e]; exact h7 i q1 q2
  · unfold RM Ra at hm ⊢
    simp only [jwr_n, jwr_s, jupn, jups, up1_e, ne_eq, Nat.reduceEqDiff, not_false_eq_true, not_true_eq_false, if_true, if_false, Int.reduceEq, Int.reduceLT, Int.reduceLE, Int.reduceNeg, Int.reduceSub, Int.reduceAdd, Int.reduceMul, true_and, and_true, and_self, or_true, true_or, or_false, false_or, or_self] at hm ⊢
    obtain ⟨h1, h2, h3, h4, h5, h6, h7, h8⟩ := hm
    exact ⟨h1, h2, h3, h4, h5, h6.up p c, h7.up p x, h8⟩
  · unfold LK at hl ⊢
    simp only [jwr_n, jwr_s, jupn, jups, up1_e, ne_eq, Nat.reduceEqDiff, not_false_eq_true, not_true_eq_false] at hl ⊢
    exact hl
end SZ5
