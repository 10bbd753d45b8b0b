section SG
variable {w : jW} {Q : jV → jW → Prop} {K x y z k : Int}
theorem INV.wk (h : INV K w) : (0 ≤ w 1 4 ∧ w 1 4 ≤ 4) ∧ (0 ≤ w 1 3 ∧ w 1 3 ≤ 8) ∧ (3 ≤ w 1 0 ∧ w 1 0 ≤ 7) := ⟨h.1.1.2.2.2.1, h.1.1.2.2.1, h.1.1.1⟩
theorem INV.eq (h : INV K w) : w 45 0 = w 1 0 ∧ w 45 2 = w 1 1 ∧ w 45 3 = w 1 3 ∧ w 45 7 = w 1 4 ∧ w 45 10 = w 1 2 ∧ w 45 11 = w 26 0 ∧ w 45 21 = w 0 3 := by
  obtain ⟨a, b, c, d, e, f, g⟩ := h.2.1.1
  exact ⟨a, b, d, e, c, f, g⟩
theorem INV.nb (h : INV K w) : notBogM w x ↔ notBog w x := by
  unfold notBogM notBog
  obtain ⟨e1, e2, e3, e4, _⟩ := h.eq
  rw [e2, e4, Any.c (by omega) h.2.1.2.2.2.2.2.1]
theorem p_bog (h : INV K w) (hx : in32 x) (hy : y = 0 ∨ y = 1) : Both mX_bog mM_bog [jR 0, jI x, jI y, jX] [jR 45, jI x, jI y, jX] K w := by
  unfold Both
  obtain ⟨e1, e2, e3, e4, _⟩ := h.eq
  obtain ⟨k1, k2, k3⟩ := h.wk
  have h46 : ∀ x, cellB (w 1 0) x → w 46 x = w 2 x ∧ (w 46 x = 0 ∨ w 46 x = 1) := by
    intro x hc
    have h67 := cell67 (by omega) hc
    have := h.2.1.2.1 x hc.1 h67
    have h2 := h.1.1.2.2.2.2.1 x hc.1 h67
    omega
  have nb := h.nb (x := x)
  refine sX_bog (by omega) (by omega) hy ?_ ?_ ?_
  · intro hc
    have : AW mM_bog 0 [jR 45, jI x, jI y, jX] [] (rX w (-2)) (fun r' w2 => Fin K w (jI (-2)) r' w2) := by
      unfold in32 at hx
      rw [bM_bog_0, sM_isCell (by unfold in64; omega), bM_bog_6, jb_ite, rX_n (by omega), e1, if_neg hc, sM_no2, bM_bog_15]
      exact h.ref (by omega) (by omega)
    exact this
  · intro hc hy1 hb
    refine sM_bog ?_ ?_ hx hy ?_ ?_ ?_ ?_ <;> simp only [rX_n, jupn, jups, up1_e, ne_eq, Nat.reduceEqDiff, not_false_eq_true, not_true_eq_false, notBogM, e1, e4] at nb ⊢
    · omega
    · omega
    · exact (h46 x hc).2
    · intro q; exact absurd hc q
    · intro _ _ _; exact h.ref (by omega) (by omega)
    · intro _ q; exact absurd ⟨hy1, nb.mpr hb⟩ q
  · intro hc hb
    have h67 := cell67 (by omega) hc
    refine sM_bog ?_ ?_ hx hy ?_ ?_ ?_ ?_ <;> simp only [jupn, jups, up1_e, ne_eq, Nat.reduceEqDiff, not_false_eq_true, not_true_eq_false, notBogM, e1, e4] at nb ⊢
    · omega
    · omega
    · exact (h46 x hc).2
    · intro q; exact absurd hc q
    · intro _ q1 q2; exact absurd ⟨q1, nb.mp q2⟩ hb
    · intro _ _
      obtain ⟨hcc, hm, hl⟩ := h.k
      refine ⟨by rw [(h46 x hc).1], ⟨?_, ?_, ?_⟩, ?_⟩
      · unfold OKC LOk at hcc ⊢
        simp only [jupn, jups, up1_e, ne_eq, Nat.reduceEqDiff, not_false_eq_true, not_true_eq_false, if_true, if_false, Int.reduceEq, Int.reduceLT, Int.reduceLE, Int.reduceNeg, Int.reduceSub, Int.reduceAdd, Int.reduceMul, true_and, and_true, and_self, or_true, true_or, or_false, false_or, or_self] at hcc ⊢
        obtain ⟨⟨h1, ⟨h2, h2'⟩, h3, h4, h5, h6, h7⟩, hr⟩ := hcc
        have ne1 : y = 1 → w 1 1 ≠ x := fun a b => hb ⟨a, Or.inl b.symm⟩
        have ne2 : y = 1 → ∀ k, 0 ≤ k → k < w 1 4 → w 6 k ≠ x := fun a k q1 q2 b => hb ⟨a, Or.inr ⟨k, q1, q2, b⟩⟩
        refine ⟨⟨h1, ⟨h2, ?_⟩, h3, h4, ?_, h6, ?_⟩, hr⟩
        · split
          · rename_i e
            exact hy.elim id (fun q => absurd e (ne1 q))
          · exact h2'
        · intro c q1 q2
          split
          · exact hy
          · exact h5 c q1 q2
        · intro k q1 q2
          obtain ⟨⟨a1, a2⟩, a3⟩ := h7 k q1 q2
          refine ⟨⟨a1, ?_⟩, a3⟩
          show (if w 6 k = x then y else w 2 (w 6 k)) = 0
          split
          · rename_i e
            exact hy.elim id (fun q => absurd e (ne2 q k q1 q2))
          · exact a2
      · unfold RM Ra at hm ⊢
        simp only [jupn, jups, up1_e, ne_eq, Nat.reduceEqDiff, not_false_eq_true, not_true_eq_false, if_true, if_false, Int.reduceEq, Int.reduceLT, Int.reduceLE, Int.reduceNeg, Int.reduceSub, Int.reduceAdd, Int.reduceMul, true_and, and_true, and_self, or_true, true_or, or_false, false_or, or_self] at hm ⊢
        obtain ⟨a1, a2, a3⟩ := hm
        exact ⟨a1, a2.up x y, a3⟩
      · unfold LK at hl ⊢
        simp only [jupn, jups, up1_e, ne_eq, Nat.reduceEqDiff, not_false_eq_true, not_true_eq_false] at hl ⊢
        exact hl
      · intro o ho
        rw [jupn (by omega), jupn (by omega)]
theorem p_wipe (h : INV K w) : Both mX_wipe mM_wipe [jR 0, jX] [jR 45, jX] K w := by
  unfold Both
  obtain ⟨e1, e2, e3, e4, e5, e6, e7⟩ := h.eq
  rw [bX_wipe_0, bM_wipe_0]
  simp only [jupn, jups, up1_e, ne_eq, Nat.reduceEqDiff, not_false_eq_true, not_true_eq_false]
  obtain ⟨hc, hm, hl⟩ := h.k
  refine ⟨by rw [e6], ⟨?_, ?_, ?_⟩, ?_⟩
  · unfold OKC TOk at hc ⊢
    simp only [jupn, jups, up1_e, ne_eq, Nat.reduceEqDiff, not_false_eq_true, not_true_eq_false, if_true, if_false, Int.reduceEq, Int.reduceLT, Int.reduceLE, Int.reduceNeg, Int.reduceSub, Int.reduceAdd, Int.reduceMul, true_and, and_true, and_self, or_true, true_or, or_false, false_or, or_self] at hc ⊢
    obtain ⟨h1, ⟨h2, h3, h4⟩, h5⟩ := hc
    exact ⟨h1, by intro i q1 q2; omega, h5⟩
  · unfold RM Ra at hm ⊢
    simp only [jupn, jups, up1_e, ne_eq, Nat.reduceEqDiff, not_false_eq_true, not_true_eq_false, if_true, if_false, Int.reduceEq, Int.reduceLT, Int.reduceLE, Int.reduceNeg, Int.reduceSub, Int.reduceAdd, Int.reduceMul, true_and, and_true, and_self, or_true, true_or, or_false, false_or, or_self] at hm ⊢
    obtain ⟨⟨a1, a2, a3, a4, a5, a6, a7⟩, h2, h3, h4, h5, h6, h7, h8, h9⟩ := hm
    exact ⟨⟨a1, a2, a3, a4, a5, a7⟩, h2, h3, h4, h5, h6, h7, h8.le (by rw [← e6]; have := hc.2.1.1; omega), h9⟩
  · unfold LK at hl ⊢
    simp only [jupn, jups, up1_e, ne_eq, Nat.reduceEqDiff, not_false_eq_true, not_true_eq_false] at hl ⊢
    exact hl
  · intro o ho
    rw [jupn (by omega), jupn (by omega)]
theorem p_feed (h : INV K w) : Both mX_feed mM_feed [jR 0, jI x] [jR 45, jI x] K w := by
  unfold Both
  obtain ⟨e1, e2, e3, e4, e5, e6, e7⟩ := h.eq
  obtain ⟨t1, t2, t3⟩ := h.1.2.1
  simp only [bX_feed_0, bX_feed_9, bX_feed_18, bX_feed_26, bX_feed_35, bX_feed_44, sX_isWithin, jb_ite, sX_refuse2, sX_refuse6, bT_hasRoom_0, bT_append_0]
  by_cases c : 0 ≤ x ∧ x ≤ 255
  · rw [if_pos c]
    by_cases c2 : w 26 0 < 250
    · rw [if_pos c2]
      simp only [if_true, if_false, Int.reduceEq, Int.reduceLT, Int.reduceLE, Int.reduceNeg, Int.reduceSub, Int.reduceAdd, Int.reduceMul, true_and, and_true, and_self, or_true, true_or, or_false, false_or, or_self]
      rw [if_pos ⟨t1, c2⟩, n32s (by omega) (by omega)]
      simp only [bM_feed_0, bM_feed_8, bM_feed_17, bM_feed_34, sM_within, jb_ite, sM_no2, sM_no6, jupn, jups, up1_e, ne_eq, Nat.reduceEqDiff, not_false_eq_true, not_true_eq_false]
      rw [if_pos c, e6, if_neg (by omega), if_pos ⟨t1, c2⟩, n32s (by omega) (by omega)]
      obtain ⟨hc, hm, hl⟩ := h.k
      refine ⟨rfl, ⟨?_, ?_, ?_⟩, ?_⟩
      · unfold OKC TOk at hc ⊢
        simp only [jupn, jups, up1_e, ne_eq, Nat.reduceEqDiff, not_false_eq_true, not_true_eq_false, if_true, if_false, Int.reduceEq, Int.reduceLT, Int.reduceLE, Int.reduceNeg, Int.reduceSub, Int.reduceAdd, Int.reduceMul, true_and, and_true, and_self, or_true, true_or, or_false, false_or, or_self] at hc ⊢
        obtain ⟨h1, ⟨h2, h3, h4⟩, h5⟩ := hc
        refine ⟨h1, ⟨by omega, by omega, ?_⟩, h5⟩
        intro i q1 q2
        split
        · exact c
        · exact h4 i q1 (by omega)
      · unfold RM Ra at hm ⊢
        simp only [jupn, jups, up1_e, ne_eq, Nat.reduceEqDiff, not_false_eq_true, not_true_eq_false, if_true, if_false, Int.reduceEq, Int.reduceLT, Int.reduceLE, Int.reduceNeg, Int.reduceSub, Int.reduceAdd, Int.reduceMul, true_and, and_true, and_self, or_true, true_or, or_false, false_or, or_self] at hm ⊢
        obtain ⟨⟨a1, a2, a3, a4, a5, a6, a7⟩, h2, h3, h4, h5, h6, h7, h8, h9⟩ := hm
        exact ⟨⟨a1, a2, a3, a4, a5, a7⟩, h2, h3, h4, h5, h6, h7, h8.push x, h9⟩
      · unfold LK at hl ⊢
        simp only [jupn, jups, up1_e, ne_eq, Nat.reduceEqDiff, not_false_eq_true, not_true_eq_false] at hl ⊢
        exact hl
      · intro o ho
        rw [jupn (by omega), jupn (by omega), jupn (by omega), jupn (by omega)]
    · rw [if_neg c2]
      simp only [if_true, if_false, Int.reduceEq, Int.reduceLT, Int.reduceLE, Int.reduceNeg, Int.reduceSub, Int.reduceAdd, Int.reduceMul, true_and, and_true, and_self, or_true, true_or, or_false, false_or, or_self]
      simp only [bM_feed_0, bM_feed_8, bM_feed_17, bM_feed_34, sM_within, jb_ite, sM_no2, sM_no6, rX_n, jupn, jups, up1_e, ne_eq, Nat.reduceEqDiff, not_false_eq_true, not_true_eq_false]
      rw [if_pos c, e6, if_pos (by omega)]
      exact h.ref (by omega) (by omega)
  · rw [if_neg c]
    simp only [bM_feed_0, bM_feed_8, bM_feed_17, bM_feed_34, sM_within, jb_ite, sM_no2, sM_no6]
    rw [if_neg c]
    exact h.ref (by omega) (by omega)
end SG
