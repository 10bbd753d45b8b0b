section SH
variable {w : jW} {Q : jV → jW → Prop} {K x y z k : Int}
theorem p_post (h : INV K w) (hx : in32 z) : Both mX_post mM_post [jR 0, jI x, jI y, jI z] [jR 45, jI x, jI y, jI z] K w := by
  unfold Both
  unfold in32 at hx
  obtain ⟨e1, e2, e3, e4, e5, e6, e7⟩ := h.eq
  obtain ⟨k1, k2, k3⟩ := h.wk
  have h64 : in64 z := by unfold in64; omega
  simp only [bX_post_0, bX_post_4, bX_post_15, bX_post_27, bX_post_36, bX_post_44, bX_post_53, bX_post_64, sX_isKind, sX_isWithin, sL_isCell k3.2, jb_ite, sX_refuse2, sX_refuse6, bL_hasRoomForPost_0, bL_addPost_0]
  simp only [bM_post_0, bM_post_6, bM_post_16, bM_post_25, bM_post_34, bM_post_50, bM_post_60, sM_within, sM_isCell h64, jb_ite, sM_no2, sM_no6, bM_newPost_0, rX_n, jupn, jups, up1_e, ne_eq, Nat.reduceEqDiff, not_false_eq_true, not_true_eq_false]
  by_cases c1 : 0 ≤ x ∧ x < 6
  · have c1' : 0 ≤ x ∧ x ≤ 5 := by omega
    rw [if_pos c1]
    simp only [if_pos c1']
    by_cases c2 : 0 ≤ y ∧ y ≤ 9
    · rw [if_pos c2]
      simp only [if_pos c2, e1, e3]
      by_cases c3 : cellB (w 1 0) z
      · simp only [if_pos c3]
        by_cases c4 : w 1 3 < 8
        · have c5 : 0 ≤ w 1 3 ∧ w 1 3 < 8 := by omega
          have c6 : 0 ≤ w 1 3 ∧ w 1 3 < 9 := by omega
          have c7 : ¬ w 1 3 = 8 := by omega
          simp only [if_pos c4, if_pos c5, if_pos c6, if_neg c7, if_true, if_false, Int.reduceEq, Int.reduceLT, Int.reduceLE, Int.reduceNeg, Int.reduceSub, Int.reduceAdd, Int.reduceMul, true_and, and_true, and_self, or_true, true_or, or_false, false_or, or_self]
          rw [n32s (by omega) (by omega)]
          obtain ⟨hc, hm, hl⟩ := h.k
          refine ⟨rfl, ⟨?_, ?_, ?_⟩, ?_⟩
          · unfold OKC LOk SOk at hc ⊢
            simp only [jupn, jups, up1_e, ne_eq, Nat.reduceEqDiff, not_false_eq_true, not_true_eq_false, if_true, if_false, Int.reduceEq, Int.reduceLT, Int.reduceLE, Int.reduceNeg, Int.reduceSub, Int.reduceAdd, Int.reduceMul, true_and, and_true, and_self, or_true, true_or, or_false, false_or, or_self] at hc ⊢
            obtain ⟨⟨h1, h2, h3, h4, h5, h6, h7⟩, h8, ⟨h9, h9'⟩, h10⟩ := hc
            refine ⟨⟨h1, h2, by omega, h4, h5, ?_, h7⟩, h8, ⟨?_, h9'⟩, h10⟩
            · intro p q1 q2
              by_cases e : p = w 1 3
              · simp only [if_pos e]; exact ⟨by omega, c2, c3⟩
              · simp only [if_neg e]; exact h6 p q1 (by omega)
            · intro s q1 q2
              have := h9 s q1 q2
              omega
          · unfold RM Ra at hm ⊢
            simp only [jupn, jups, up1_e, ne_eq, Nat.reduceEqDiff, not_false_eq_true, not_true_eq_false, if_true, if_false, Int.reduceEq, Int.reduceLT, Int.reduceLE, Int.reduceNeg, Int.reduceSub, Int.reduceAdd, Int.reduceMul, true_and, and_true, and_self, or_true, true_or, or_false, false_or, or_self] at hm ⊢
            obtain ⟨⟨a1, a2, a3, a4, a5, a6, a7⟩, h2, h3, h4, h5, h6, h7, h8⟩ := hm
            exact ⟨⟨a1, a2, a3, a5, a6, a7⟩, h2, h3.push x, h4.push y, h5.push z, h6, h7, h8⟩
          · unfold LK at hl ⊢
            simp only [jupn, jups, up1_e, ne_eq, Nat.reduceEqDiff, not_false_eq_true, not_true_eq_false] at hl ⊢
            exact hl
          · intro o ho
            simp (disch := omega) only [jupn]
        · have c7 : w 1 3 = 8 := by omega
          simp only [if_neg c4, if_pos c7, if_true, if_false, Int.reduceEq, Int.reduceLT, Int.reduceLE, Int.reduceNeg, Int.reduceSub, Int.reduceAdd, Int.reduceMul, true_and, and_true, and_self, or_true, true_or, or_false, false_or, or_self, rX_n, jupn, jups, up1_e, ne_eq, Nat.reduceEqDiff, not_false_eq_true, not_true_eq_false]
          exact h.ref (by omega) (by omega)
      · simp only [if_neg c3]
        exact h.ref (by omega) (by omega)
    · rw [if_neg c2]
      simp only [if_neg c2]
      exact h.ref (by omega) (by omega)
  · have c1' : ¬ (0 ≤ x ∧ x ≤ 5) := by omega
    rw [if_neg c1]
    simp only [if_neg c1']
    exact h.ref (by omega) (by omega)
theorem p_walker (h : INV K w) (hx : in32 x) : Both mX_walker mM_walker [jR 0, jI x, jI y] [jR 45, jI x, jI y] K w := by
  unfold Both
  unfold in32 at hx
  obtain ⟨e1, e2, e3, e4, e5, e6, e7⟩ := h.eq
  obtain ⟨k1, k2, k3⟩ := h.wk
  have h64 : in64 x := by unfold in64; omega
  simp only [bX_walker_0, bX_walker_9, bX_walker_20, bX_walker_29, bX_walker_39, bX_walker_48, bX_walker_56, bX_walker_65, bX_walker_75, sX_isWithin, sL_isCell k3.2, sL_isDry k3.2, jb_ite, sX_refuse2, sX_refuse5, sX_refuse6, bL_hasRoomForWalker_0, bL_addWalker_0]
  simp only [bM_walker_0, bM_walker_6, bM_walker_16, bM_walker_25, bM_walker_41, bM_walker_56, bM_walker_65, sM_within, sM_isCell h64, jb_ite, sM_no2, sM_no5, sM_no6, bM_newWalker_0, rX_n, jupn, jups, up1_e, ne_eq, Nat.reduceEqDiff, not_false_eq_true, not_true_eq_false, e1, e4]
  by_cases c3 : cellB (w 1 0) x
  · have h67 := cell67 k3.2 c3
    have c3' : 0 ≤ x ∧ x < 67 := ⟨c3.1, h67⟩
    have e2 : w 46 x = w 2 x := h.2.1.2.1 x c3.1 h67
    simp only [if_pos c3, if_pos c3', e2]
    by_cases c2 : 0 ≤ y ∧ y ≤ 9
    · simp only [if_pos c2]
      by_cases cz : w 2 x = 0
      · have cd : dryB (w 1 0) (w 2) x := ⟨c3, cz⟩
        simp only [if_pos cd, if_pos cz]
        by_cases c4 : w 1 4 < 4
        · have c5 : 0 ≤ w 1 4 ∧ w 1 4 < 4 := by omega
          have c7 : ¬ w 1 4 = 4 := by omega
          simp only [if_pos c4, if_pos c5, if_neg c7, if_true, if_false, Int.reduceEq, Int.reduceLT, Int.reduceLE, Int.reduceNeg, Int.reduceSub, Int.reduceAdd, Int.reduceMul, true_and, and_true, and_self, or_true, true_or, or_false, false_or, or_self]
          rw [n32s (by omega) (by omega)]
          obtain ⟨hc, hm, hl⟩ := h.k
          refine ⟨rfl, ⟨?_, ?_, ?_⟩, ?_⟩
          · unfold OKC LOk SOk at hc ⊢
            simp only [jupn, jups, up1_e, ne_eq, Nat.reduceEqDiff, not_false_eq_true, not_true_eq_false, if_true, if_false, Int.reduceEq, Int.reduceLT, Int.reduceLE, Int.reduceNeg, Int.reduceSub, Int.reduceAdd, Int.reduceMul, true_and, and_true, and_self, or_true, true_or, or_false, false_or, or_self] at hc ⊢
            obtain ⟨⟨h1, h2, h3, h4, h5, h6, h7⟩, h8⟩ := hc
            refine ⟨⟨h1, h2, h3, by omega, h5, h6, ?_⟩, h8⟩
            intro p q1 q2
            by_cases e : p = w 1 4
            · simp only [if_pos e]; exact ⟨⟨c3, cz⟩, c2⟩
            · simp only [if_neg e]; exact h7 p q1 (by omega)
          · unfold RM Ra at hm ⊢
            simp only [jupn, jups, up1_e, ne_eq, Nat.reduceEqDiff, not_false_eq_true, not_true_eq_false, if_true, if_false, Int.reduceEq, Int.reduceLT, Int.reduceLE, Int.reduceNeg, Int.reduceSub, Int.reduceAdd, Int.reduceMul, true_and, and_true, and_self, or_true, true_or, or_false, false_or, or_self] at hm ⊢
            obtain ⟨⟨a1, a2, a3, a4, a5, a6, a7⟩, h2, h3, h4, h5, h6, h7, h8⟩ := hm
            exact ⟨⟨a1, a2, a3, a4, a6, a7⟩, h2, h3, h4, h5, h6.push x, h7.push y, h8⟩
          · unfold LK at hl ⊢
            simp only [jupn, jups, up1_e, ne_eq, Nat.reduceEqDiff, not_false_eq_true, not_true_eq_false] at hl ⊢
            exact hl
          · intro o ho
            simp (disch := omega) only [jupn]
        · have c7 : w 1 4 = 4 := by omega
          simp only [if_neg c4, if_pos c7, if_true, if_false, Int.reduceEq, Int.reduceLT, Int.reduceLE, Int.reduceNeg, Int.reduceSub, Int.reduceAdd, Int.reduceMul, true_and, and_true, and_self, or_true, true_or, or_false, false_or, or_self, rX_n, jupn, jups, up1_e, ne_eq, Nat.reduceEqDiff, not_false_eq_true, not_true_eq_false]
          exact h.ref (by omega) (by omega)
      · have cd : ¬ dryB (w 1 0) (w 2) x := fun q => cz q.2
        simp only [if_neg cd, if_neg cz, rX_n, jupn, jups, up1_e, ne_eq, Nat.reduceEqDiff, not_false_eq_true, not_true_eq_false]
        exact h.ref (by omega) (by omega)
    · simp only [if_neg c2]
      exact h.ref (by omega) (by omega)
  · simp only [if_neg c3]
    exact h.ref (by omega) (by omega)
theorem sM_isWalker (h0 : 0 ≤ w 45 7) (h4 : w 45 7 ≤ 4) : AW mM_isWalker 0 [jR 45, jI x] [] w Q = Q (jI (jb (0 ≤ x ∧ x < w 45 7))) w := by
  rw [bM_isWalker_0, sM_within, bM_isWalker_11, if_pos (by rw [jb_01]; trivial), n32s (by omega) (by omega), jb_congr (d := 0 ≤ x ∧ x < w 45 7) (by omega)]
theorem sL_hasWalker : AW mL_hasWalker 0 [jR 1, jI x] [] w Q = Q (jI (jb (0 ≤ x ∧ x < w 1 4))) w := by
  rw [bL_hasWalker_0]
  repeat' split
  all_goals first | rw [jb_pos (by omega)] | rw [jb_neg (by omega)]
theorem p_sure (h : INV K w) : Both mX_sure mM_sure [jR 0, jI x, jI y, jX] [jR 45, jI x, jI y, jX] K w := by
  unfold Both
  obtain ⟨e1, e2, e3, e4, e5, e6, e7⟩ := h.eq
  obtain ⟨k1, k2, k3⟩ := h.wk
  simp only [bX_sure_0, bX_sure_8, bX_sure_19, bX_sure_28, sX_isWithin, sL_hasWalker, jb_ite, sX_refuse2]
  have hW : ∀ {v Q}, v 45 7 = w 1 4 → AW mM_isWalker 0 [jR 45, jI x] [] v Q = Q (jI (jb (0 ≤ x ∧ x < w 1 4))) v := by
    intro v Q q
    rw [sM_isWalker (by omega) (by omega), q]
  by_cases c1 : 0 ≤ x ∧ x < w 1 4
  · have c4 : 0 ≤ x ∧ x < 4 := by omega
    rw [if_pos c1]
    by_cases c2 : 0 ≤ y ∧ y ≤ 9
    · simp only [if_pos c2, if_pos c4]
      rw [bM_sure_0, hW (by simp only [jupn, jups, up1_e, ne_eq, Nat.reduceEqDiff, not_false_eq_true, not_true_eq_false]; exact e4), bM_sure_5, jb_ite, if_pos c1, sM_within, bM_sure_15, jb_ite, if_pos c2, if_pos c4, if_pos c4]
      simp only [jupn, jups, up1_e, ne_eq, Nat.reduceEqDiff, not_false_eq_true, not_true_eq_false]
      obtain ⟨hc, hm, hl⟩ := h.k
      refine ⟨by rw [hm.2.2.2.2.2.2.1 x c1.1 c1.2], ⟨?_, ?_, ?_⟩, ?_⟩
      · unfold OKC LOk at hc ⊢
        simp only [jupn, jups, up1_e, ne_eq, Nat.reduceEqDiff, not_false_eq_true, not_true_eq_false, if_true, if_false, Int.reduceEq, Int.reduceLT, Int.reduceLE, Int.reduceNeg, Int.reduceSub, Int.reduceAdd, Int.reduceMul, true_and, and_true, and_self, or_true, true_or, or_false, false_or, or_self] at hc ⊢
        obtain ⟨⟨h1, h2, h3, h4, h5, h6, h7⟩, h8⟩ := hc
        refine ⟨⟨h1, h2, h3, h4, h5, h6, ?_⟩, h8⟩
        intro p q1 q2
        by_cases e : p = x
        · simp only [if_pos e]; exact ⟨(h7 p q1 q2).1, c2⟩
        · simp only [if_neg e]; exact h7 p q1 q2
      · unfold RM Ra at hm ⊢
        simp only [jupn, jups, up1_e, ne_eq, Nat.reduceEqDiff, not_false_eq_true, not_true_eq_false, if_true, if_false, Int.reduceEq, Int.reduceLT, Int.reduceLE, Int.reduceNeg, Int.reduceSub, Int.reduceAdd, Int.reduceMul, true_and, and_true, and_self, or_true, true_or, or_false, false_or, or_self] at hm ⊢
        obtain ⟨h1, h2, h3, h4, h5, h6, h7, h8⟩ := hm
        exact ⟨h1, h2, h3, h4, h5, h6, h7.up x y, h8⟩
      · unfold LK at hl ⊢
        simp only [jupn, jups, up1_e, ne_eq, Nat.reduceEqDiff, not_false_eq_true, not_true_eq_false] at hl ⊢
        exact hl
      · intro o ho
        simp (disch := omega) only [jupn]
    · simp only [if_neg c2]
      rw [bM_sure_0, hW (by rw [rX_n (by omega)]; exact e4), bM_sure_5, jb_ite, if_pos c1, sM_within, bM_sure_15, jb_ite, if_neg c2, sM_no2, bM_sure_24]
      exact h.ref (by omega) (by omega)
  · rw [if_neg c1, bM_sure_0, hW (by rw [rX_n (by omega)]; exact e4), bM_sure_5, jb_ite, if_neg c1, sM_no2, bM_sure_24]
    exact h.ref (by omega) (by omega)
end SH
