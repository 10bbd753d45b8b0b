/-! the calls that set something -/
section SE
variable {w : jW} {Q : jV → jW → Prop} {K x y z : Int}
theorem sX_side : AW mX_side 0 [jR 0, jI x, jX] [] w Q = if 3 ≤ x ∧ w 1 0 ≤ x ∧ x ≤ 7 then Q (jI (w 1 0)) (jup w 1 0 x) else Q (jI (-2)) (rX w (-2)) := by
  simp only [bX_side_0, bX_side_8, bX_side_17, bL_canHaveSide_0, sX_refuse2, if_true, if_false, Int.reduceEq, Int.reduceLT, Int.reduceLE, Int.reduceNeg, Int.reduceSub, Int.reduceAdd, Int.reduceMul, true_and, and_true, and_self, or_true, true_or, or_false, false_or, or_self]
  repeat' split
  all_goals first | rfl | (exfalso; omega)
theorem sM_side : AW mM_side 0 [jR 45, jI x, jX] [] w Q = if (3 ≤ x ∧ x ≤ 7) ∧ w 45 0 ≤ x then Q (jI (w 45 0)) (jup w 45 0 x) else Q (jI (-2)) (rM w (-2)) := by
  simp only [bM_side_0, bM_side_7, bM_side_24, sM_within, jb_ite, sM_no2, if_true, if_false, Int.reduceEq, Int.reduceLT, Int.reduceLE, Int.reduceNeg, Int.reduceSub, Int.reduceAdd, Int.reduceMul, true_and, and_true, and_self, or_true, true_or, or_false, false_or, or_self]
  repeat' split
  all_goals first | rfl | (exfalso; omega)
theorem p_side (h : INV K w) : Both mX_side mM_side [jR 0, jI x, jX] [jR 45, jI x, jX] K w := by
  unfold Both
  have e : w 45 0 = w 1 0 := h.2.1.1.1
  rw [sX_side]
  split
  · rw [sM_side]
    simp only [jupn, jups, up1_e, ne_eq, Nat.reduceEqDiff, not_false_eq_true, not_true_eq_false]
    rw [e, if_pos (by omega)]
    obtain ⟨hc, hm, hl⟩ := h.k
    refine ⟨rfl, ⟨?_, ?_, ?_⟩, ?_⟩
    · unfold OKC LOk at hc ⊢
      simp only [jupn, jups, up1_e, ne_eq, Nat.reduceEqDiff, not_false_eq_true, not_true_eq_false, if_true, if_false, Int.reduceEq, Int.reduceLT, Int.reduceLE, Int.reduceNeg, Int.reduceSub, Int.reduceAdd, Int.reduceMul, true_and, and_true, and_self, or_true, true_or, or_false, false_or, or_self] at hc ⊢
      obtain ⟨⟨h1, ⟨h2, h2'⟩, h3, h4, h5, h6, h7⟩, hr⟩ := hc
      refine ⟨⟨by omega, ⟨by unfold cellB at h2 ⊢; omega, h2'⟩, h3, h4, h5, ?_, ?_⟩, hr⟩
      · intro p hp hp'
        obtain ⟨q1, q2, q3⟩ := h6 p hp hp'
        exact ⟨q1, q2, by unfold cellB at q3 ⊢; omega⟩
      · intro p hp hp'
        obtain ⟨⟨q1, q2⟩, q3⟩ := h7 p hp hp'
        exact ⟨⟨by unfold cellB at q1 ⊢; omega, q2⟩, q3⟩
    · unfold RM Ra at hm ⊢
      simp only [jupn, jups, up1_e, ne_eq, Nat.reduceEqDiff, not_false_eq_true, not_true_eq_false, if_true, if_false, Int.reduceEq, Int.reduceLT, Int.reduceLE, Int.reduceNeg, Int.reduceSub, Int.reduceAdd, Int.reduceMul, true_and, and_true, and_self, or_true, true_or, or_false, false_or, or_self] at hm ⊢
      obtain ⟨⟨a1, a4⟩, h2⟩ := hm
      exact ⟨a4, h2⟩
    · unfold LK at hl ⊢
      simp only [jupn, jups, up1_e, ne_eq, Nat.reduceEqDiff, not_false_eq_true, not_true_eq_false] at hl ⊢
      exact hl
    · intro o ho
      rw [jupn (by omega), jupn (by omega)]
  · rw [sM_side]
    simp only [rX_n, jupn, jups, up1_e, ne_eq, Nat.reduceEqDiff, not_false_eq_true, not_true_eq_false]
    rw [e, if_neg (by omega)]
    exact h.ref (by omega) (by omega)
theorem sX_home (hn : w 1 0 ≤ 7) : AW mX_home 0 [jR 0, jI x, jX] [] w Q = if cellB (w 1 0) x then (if w 2 x = 0 then Q (jI (w 1 1)) (jup w 1 1 x) else Q (jI (-5)) (rX w (-5))) else Q (jI (-2)) (rX w (-2)) := by
  simp only [bX_home_0, bX_home_9, bX_home_18, bX_home_28, bX_home_37, sL_isCell hn, sL_isDry hn, jb_ite, sX_refuse2, sX_refuse5, if_true, if_false, Int.reduceEq, Int.reduceLT, Int.reduceLE, Int.reduceNeg, Int.reduceSub, Int.reduceAdd, Int.reduceMul, true_and, and_true, and_self, or_true, true_or, or_false, false_or, or_self]
  by_cases h : cellB (w 1 0) x
  · rw [if_pos h, if_pos h]
    by_cases hz : w 2 x = 0
    · rw [if_pos ⟨h, hz⟩, if_pos hz]
    · rw [if_neg (fun q => hz q.2), if_neg hz]
  · rw [if_neg h, if_neg h]
theorem sM_home (hn : w 45 0 ≤ 7) (hx : in32 x) : AW mM_home 0 [jR 45, jI x, jX] [] w Q = if cellB (w 45 0) x then (if w 46 x = 0 then Q (jI (w 45 2)) (jup w 45 2 x) else Q (jI (-5)) (rM w (-5))) else Q (jI (-2)) (rM w (-2)) := by
  unfold in32 at hx
  have hx' : in64 x := by unfold in64; omega
  simp only [bM_home_0, bM_home_6, bM_home_15, bM_home_31, sM_isCell hx', jb_ite, sM_no2, sM_no5, if_true, if_false, Int.reduceEq, Int.reduceLT, Int.reduceLE, Int.reduceNeg, Int.reduceSub, Int.reduceAdd, Int.reduceMul, true_and, and_true, and_self, or_true, true_or, or_false, false_or, or_self]
  by_cases h : cellB (w 45 0) x
  · have := cell67 hn h
    rw [if_pos h, if_pos h, if_pos ⟨h.1, this⟩]
  · rw [if_neg h, if_neg h]
theorem p_home (h : INV K w) (hx : in32 x) : Both mX_home mM_home [jR 0, jI x, jX] [jR 45, jI x, jX] K w := by
  unfold Both
  have e : w 45 0 = w 1 0 := h.2.1.1.1
  have hn : w 1 0 ≤ 7 := h.1.1.1.2
  rw [sX_home hn]
  by_cases hc0 : cellB (w 1 0) x
  · have h67 := cell67 hn hc0
    have e2 : w 46 x = w 2 x := h.2.1.2.1 x hc0.1 h67
    rw [if_pos hc0]
    split
    · rename_i hz
      rw [sM_home (by simp only [jupn, jups, up1_e, ne_eq, Nat.reduceEqDiff, not_false_eq_true, not_true_eq_false]; omega) hx]
      simp only [jupn, jups, up1_e, ne_eq, Nat.reduceEqDiff, not_false_eq_true, not_true_eq_false]
      rw [e, if_pos hc0, e2, if_pos hz]
      obtain ⟨hc, hm, hl⟩ := h.k
      refine ⟨by rw [hm.1.2.1], ⟨?_, ?_, ?_⟩, ?_⟩
      · unfold OKC LOk at hc ⊢
        simp only [jupn, jups, up1_e, ne_eq, Nat.reduceEqDiff, not_false_eq_true, not_true_eq_false, if_true, if_false, Int.reduceEq, Int.reduceLT, Int.reduceLE, Int.reduceNeg, Int.reduceSub, Int.reduceAdd, Int.reduceMul, true_and, and_true, and_self, or_true, true_or, or_false, false_or, or_self] at hc ⊢
        obtain ⟨⟨h1, h2, h3⟩, hr⟩ := hc
        exact ⟨⟨h1, ⟨hc0, hz⟩, h3⟩, hr⟩
      · unfold RM Ra at hm ⊢
        simp only [jupn, jups, up1_e, ne_eq, Nat.reduceEqDiff, not_false_eq_true, not_true_eq_false, if_true, if_false, Int.reduceEq, Int.reduceLT, Int.reduceLE, Int.reduceNeg, Int.reduceSub, Int.reduceAdd, Int.reduceMul, true_and, and_true, and_self, or_true, true_or, or_false, false_or, or_self] at hm ⊢
        obtain ⟨⟨a1, a2, a4⟩, h2⟩ := hm
        exact ⟨⟨a1, a4⟩, h2⟩
      · unfold LK at hl ⊢
        simp only [jupn, jups, up1_e, ne_eq, Nat.reduceEqDiff, not_false_eq_true, not_true_eq_false] at hl ⊢
        exact hl
      · intro o ho
        rw [jupn (by omega), jupn (by omega)]
    · rename_i hz
      rw [sM_home (by simp only [rX_n, jupn, jups, up1_e, ne_eq, Nat.reduceEqDiff, not_false_eq_true, not_true_eq_false]; omega) hx]
      simp only [rX_n, jupn, jups, up1_e, ne_eq, Nat.reduceEqDiff, not_false_eq_true, not_true_eq_false]
      rw [e, if_pos hc0, e2, if_neg hz]
      exact h.ref (by omega) (by omega)
  · rw [if_neg hc0, sM_home (by simp only [rX_n, jupn, jups, up1_e, ne_eq, Nat.reduceEqDiff, not_false_eq_true, not_true_eq_false]; omega) hx]
    simp only [rX_n, jupn, jups, up1_e, ne_eq, Nat.reduceEqDiff, not_false_eq_true, not_true_eq_false]
    rw [e, if_neg hc0]
    exact h.ref (by omega) (by omega)
end SE
