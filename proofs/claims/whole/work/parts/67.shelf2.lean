section SJ
variable {w : jW} {Q : jV → jW → Prop} {K x y z k : Int}
theorem Eqn.zf {N a b : Int} {f g : Int → Int} (h : Eqn N f g) : Eqn N (zf f a b) (zf g a b) := by
  intro j h0 h1
  show (if a ≤ j ∧ j < b then 0 else f j) = (if a ≤ j ∧ j < b then 0 else g j)
  split
  · rfl
  · exact h j h0 h1
theorem INV.sh (h : INV K w) : SOk (w 1 3) (w 23) (w 24) (w 25) := h.1.2.2.1
theorem INV.m53 (h : INV K w) (hx : 0 ≤ x ∧ x < 8) : w 53 x = w 23 x := h.2.1.2.2.2.2.2.2.2.2.1 x hx.1 hx.2
theorem INV.m54 (h : INV K w) (hx : 0 ≤ x ∧ x < 8) : w 54 x = w 24 x := h.2.1.2.2.2.2.2.2.2.2.2.1 x hx.1 hx.2
theorem INV.m55 (h : INV K w) (hx : 0 ≤ x ∧ x < 320) : w 55 x = w 25 x := h.2.1.2.2.2.2.2.2.2.2.2.2.1 x hx.1 hx.2
theorem p_row (h : INV K w) : Both mX_row mM_row [jR 0, jI x, jI y, jI z] [jR 45, jI x, jI y, jI z, jX] K w := by
  unfold Both
  simp only [bX_row_0, bX_row_4, bX_row_14, bX_row_25, bX_row_34, bX_row_45, sX_isShelf, sX_isWithin, jb_ite, sX_refuse2, bS_putRow_0]
  by_cases c1 : 0 ≤ x ∧ x < 8
  · simp only [if_pos c1]
    by_cases c2 : 0 ≤ y ∧ y ≤ 4
    · simp only [if_pos c2]
      by_cases c3 : 0 ≤ z ∧ z ≤ 40
      · simp only [if_pos c3]
        rw [sS_putRow17 c1 _ 0 _ rfl (by omega) (by omega)]
        rw [bM_row_0, sM_isShelf, bM_row_4, jb_ite, if_pos c1, sM_within, bM_row_13, jb_ite, if_pos c2, sM_within, bM_row_23, jb_ite, if_pos c3, if_pos c1, if_pos c1, sM_row50 c1 _ 0 _ rfl (by omega) (by omega)]
        obtain ⟨hc, hm, hl⟩ := h.k
        refine ⟨rfl, ⟨?_, ?_, ?_⟩, ?_⟩
        · unfold OKC SOk at hc ⊢
          simp only [jwr_n, jwr_s, jupn, jups, up1_e, ne_eq, Nat.reduceEqDiff, not_false_eq_true, not_true_eq_false, if_true, if_false, Int.reduceEq, Int.reduceLT, Int.reduceLE, Int.reduceNeg, Int.reduceSub, Int.reduceAdd, Int.reduceMul, true_and, and_true, and_self, or_true, true_or, or_false, false_or, or_self] at hc ⊢
          obtain ⟨h1, h2, ⟨h3, h4⟩, h5⟩ := hc
          refine ⟨h1, h2, ⟨?_, ?_⟩, h5⟩
          · intro s q1 q2
            have := h3 s q1 q2
            by_cases e : s = x
            · simp only [if_pos e]; omega
            · simp only [if_neg e]; exact this
          · intro i q1 q2
            show in64 (if _ then 0 else w 25 i)
            split
            · unfold in64; omega
            · exact h4 i q1 q2
        · unfold RM at hm ⊢
          simp only [jwr_n, jwr_s, jupn, jups, up1_e, ne_eq, Nat.reduceEqDiff, not_false_eq_true, not_true_eq_false, if_true, if_false, Int.reduceEq, Int.reduceLT, Int.reduceLE, Int.reduceNeg, Int.reduceSub, Int.reduceAdd, Int.reduceMul, true_and, and_true, and_self, or_true, true_or, or_false, false_or, or_self] at hm ⊢
          obtain ⟨h1, h2, h3, h4, h5, h6, h7, h8, h9, h10, h11, h12⟩ := hm
          exact ⟨h1, h2, h3, h4, h5, h6, h7, h8, h9.up x y, h10.up x z, h11.zf, h12⟩
        · unfold LK at hl ⊢
          simp only [jwr_n, jwr_s, jupn, jups, up1_e, ne_eq, Nat.reduceEqDiff, not_false_eq_true, not_true_eq_false] at hl ⊢
          exact hl
        · intro o ho
          simp (disch := omega) only [jupn, jwr_n]
      · simp only [if_neg c3]
        rw [bM_row_0, sM_isShelf, bM_row_4, jb_ite, if_pos c1, sM_within, bM_row_13, jb_ite, if_pos c2, sM_within, bM_row_23, jb_ite, if_neg c3, sM_no2, bM_row_32]
        exact h.ref (by omega) (by omega)
    · simp only [if_neg c2]
      rw [bM_row_0, sM_isShelf, bM_row_4, jb_ite, if_pos c1, sM_within, bM_row_13, jb_ite, if_neg c2, sM_no2, bM_row_32]
      exact h.ref (by omega) (by omega)
  · simp only [if_neg c1]
    rw [bM_row_0, sM_isShelf, bM_row_4, jb_ite, if_neg c1, sM_no2, bM_row_32]
    exact h.ref (by omega) (by omega)
theorem p_set (h : INV K w) (hz : in64 z) : Both mX_set mM_set [jR 0, jI x, jI y, jL z, jX, jX] [jR 45, jI x, jI y, jL z, jX] K w := by
  unfold Both
  have so := h.sh
  have sz := sizeR_in (x := x) so
  simp only [bX_set_0, bX_set_8, bX_set_24, bX_set_31, bX_set_42, bX_set_53, sS_whyNoRow, sS_hasElement, jb_ite, bS_putElement_0, bS_putElement_20, sS_cut]
  by_cases c1 : 0 ≤ x ∧ x < 8
  · have d := so.1 x c1.1 c1.2
    have e1 := h.m53 c1
    have e2 := h.m54 c1
    unfold whyR
    rw [if_pos c1]
    by_cases c2 : w 23 x < 10
    · rw [if_pos c2]
      by_cases c3 : w 23 x = -1
      · rw [if_pos c3]
        simp only [if_true, if_false, Int.reduceEq, Int.reduceLT, Int.reduceLE, Int.reduceNeg, Int.reduceSub, Int.reduceAdd, Int.reduceMul, true_and, and_true, and_self, or_true, true_or, or_false, false_or, or_self, sX_refuse4, bX_set_42]
        rw [bM_set_0, sM_isShelf, bM_set_4, jb_ite, if_pos c1, sM_isRow c1, bM_set_19, jb_ite, rX_n (by omega), e1, if_neg (by omega), bM_noRow_0, if_pos c1, if_pos c1, rX_n (by omega), e1, if_pos c2, if_pos (by omega), bM_set_28, sM_no4, bM_set_31]
        exact h.ref (by omega) (by omega)
      · rw [if_neg c3]
        have es : sizeR (w 23) (w 24) x = w 24 x := if_pos ⟨c1, c3, c2⟩
        simp only [if_true, if_false, Int.reduceEq, Int.reduceLT, Int.reduceLE, Int.reduceNeg, Int.reduceSub, Int.reduceAdd, Int.reduceMul, true_and, and_true, and_self, or_true, true_or, or_false, false_or, or_self, es, if_pos c1]
        have c5 : 0 ≤ w 23 x ∧ w 23 x ≤ 4 := by omega
        by_cases c4 : 0 ≤ y ∧ y < w 24 x
        · rw [if_pos c4, n32s (x := x * 40) (by omega) (by omega), n32s (by omega) (by omega), if_pos (by omega)]
          rw [bM_set_0, sM_isShelf, bM_set_4, jb_ite, if_pos c1, sM_isRow c1, bM_set_19, jb_ite, jupn (by omega), e1, if_pos c5, if_pos c1, jupn (by omega), e2, n32s (by omega) (by omega), sM_within, bM_set_45, jb_ite, if_pos (by omega), if_pos c1, jupn (by omega), e1, sM_kept c5, bM_set_75, n32s (x := 40 * x) (by omega) (by omega), n32s (by omega) (by omega), if_pos (by omega), show 40 * x + y = x * 40 + y by omega]
          obtain ⟨hc, hm, hl⟩ := h.k
          refine ⟨rfl, ⟨?_, ?_, ?_⟩, ?_⟩
          · unfold OKC SOk at hc ⊢
            simp only [jwr_n, jwr_s, jupn, jups, up1_e, ne_eq, Nat.reduceEqDiff, not_false_eq_true, not_true_eq_false, if_true, if_false, Int.reduceEq, Int.reduceLT, Int.reduceLE, Int.reduceNeg, Int.reduceSub, Int.reduceAdd, Int.reduceMul, true_and, and_true, and_self, or_true, true_or, or_false, false_or, or_self] at hc ⊢
            obtain ⟨h1, h2, ⟨h3, h4⟩, h5⟩ := hc
            refine ⟨h1, h2, ⟨h3, ?_⟩, h5⟩
            intro i q1 q2
            split
            · exact cutR_in hz
            · exact h4 i q1 q2
          · unfold RM at hm ⊢
            simp only [jwr_n, jwr_s, jupn, jups, up1_e, ne_eq, Nat.reduceEqDiff, not_false_eq_true, not_true_eq_false, if_true, if_false, Int.reduceEq, Int.reduceLT, Int.reduceLE, Int.reduceNeg, Int.reduceSub, Int.reduceAdd, Int.reduceMul, true_and, and_true, and_self, or_true, true_or, or_false, false_or, or_self] at hm ⊢
            obtain ⟨h1, h2, h3, h4, h5, h6, h7, h8, h9, h10, h11, h12⟩ := hm
            exact ⟨h1, h2, h3, h4, h5, h6, h7, h8, h9, h10, h11.up _ _, h12⟩
          · unfold LK at hl ⊢
            simp only [jwr_n, jwr_s, jupn, jups, up1_e, ne_eq, Nat.reduceEqDiff, not_false_eq_true, not_true_eq_false] at hl ⊢
            exact hl
          · intro o ho
            simp (disch := omega) only [jupn, jwr_n]
        · rw [if_neg c4, sX_refuse2, bX_set_42]
          rw [bM_set_0, sM_isShelf, bM_set_4, jb_ite, if_pos c1, sM_isRow c1, bM_set_19, jb_ite, rX_n (by omega), e1, if_pos c5, if_pos c1, rX_n (by omega), e2, n32s (by omega) (by omega), sM_within, bM_set_45, jb_ite, if_neg (by omega), sM_no2, bM_set_54]
          exact h.ref (by omega) (by omega)
    · rw [if_neg c2]
      simp only [if_true, if_false, Int.reduceEq, Int.reduceLT, Int.reduceLE, Int.reduceNeg, Int.reduceSub, Int.reduceAdd, Int.reduceMul, true_and, and_true, and_self, or_true, true_or, or_false, false_or, or_self, sX_refuse3, bX_set_42]
      rw [bM_set_0, sM_isShelf, bM_set_4, jb_ite, if_pos c1, sM_isRow c1, bM_set_19, jb_ite, rX_n (by omega), e1, if_neg (by omega), bM_noRow_0, if_pos c1, rX_n (by omega), e1, if_neg c2, bM_set_28, sM_no3, bM_set_31]
      exact h.ref (by omega) (by omega)
  · unfold whyR
    rw [if_neg c1]
    simp only [if_true, if_false, Int.reduceEq, Int.reduceLT, Int.reduceLE, Int.reduceNeg, Int.reduceSub, Int.reduceAdd, Int.reduceMul, true_and, and_true, and_self, or_true, true_or, or_false, false_or, or_self, sX_refuse2, bX_set_42]
    rw [bM_set_0, sM_isShelf, bM_set_4, jb_ite, if_neg c1, sM_no2, bM_set_13]
    exact h.ref (by omega) (by omega)
/-- nothing changed -/
theorem INV.fin {r r' : jV} (h : INV K w) (e : r = r') : Fin K w r r' w := ⟨e, h.k, fun _ _ => rfl⟩
theorem sM_element (h : INV K w) : AW mM_element 0 [jR 45, jI x, jI y] [] w Q = Q (jL (elR (w 23) (w 24) (w 25) x y)) w := by
  have so := h.sh
  have sz := sizeR_in (x := x) so
  rw [bM_element_0, sM_isShelf, bM_element_4, jb_ite]
  by_cases c1 : 0 ≤ x ∧ x < 8
  · have d := so.1 x c1.1 c1.2
    have e1 := h.m53 c1
    have e2 := h.m54 c1
    rw [if_pos c1, sM_isRow c1, bM_element_12, jb_ite, e1]
    by_cases c2 : 0 ≤ w 23 x ∧ w 23 x ≤ 4
    · have es : sizeR (w 23) (w 24) x = w 24 x := if_pos ⟨c1, by omega, by omega⟩
      rw [if_pos c2, if_pos c1, sM_within, bM_element_28, jb_ite, e2, n32s (by omega) (by omega)]
      unfold elR
      rw [es]
      by_cases c3 : 0 ≤ y ∧ y < w 24 x
      · rw [if_pos (by omega), if_pos c3, n32s (x := 40 * x) (by omega) (by omega), n32s (by omega) (by omega), if_pos (by omega), h.m55 (by omega)]
      · rw [if_neg (by omega), if_neg c3]
    · have es : sizeR (w 23) (w 24) x = 0 := if_neg (by omega)
      rw [if_neg c2]
      unfold elR
      rw [es, if_neg (by omega)]
  · have es : sizeR (w 23) (w 24) x = 0 := if_neg (fun q => c1 q.1)
    rw [if_neg c1]
    unfold elR
    rw [es, if_neg (by omega)]
theorem p_element (h : INV K w) : Both mX_element mM_element [jR 0, jI x, jI y] [jR 45, jI x, jI y] K w := by
  unfold Both
  rw [bX_element_0, sS_elementAt h.sh, bX_element_9, sM_element h]
  exact h.fin rfl
theorem p_holds (h : INV K w) : Both mX_holds mM_holds [jR 0, jI x] [jR 45, jI x] K w := by
  unfold Both
  rw [bX_holds_0, sS_contentOf, bX_holds_8, bM_holds_0, sM_isShelf, bM_holds_4, jb_ite]
  by_cases c1 : 0 ≤ x ∧ x < 8
  · rw [if_pos c1, if_pos c1, if_pos c1, h.m53 c1]; exact h.fin rfl
  · rw [if_neg c1, if_neg c1]; exact h.fin rfl
theorem p_show (h : INV K w) : Both mX_show mM_show [jR 0, jI x, jI y] [jR 45, jI x, jI y] K w := by
  unfold Both
  obtain ⟨k1, k2, k3⟩ := h.wk
  obtain ⟨e1, e2, e3, e4, e5, e6, e7⟩ := h.eq
  simp only [bX_show_0, bX_show_4, bX_show_21, bX_show_30, bX_show_40, sX_isShelf, sL_hasPost, jb_ite, sX_refuse2, bS_putPost_0]
  have go : ∀ v, (v = -1 ∨ 10 ≤ v ∧ v < 10 + w 1 3) → Fin K w (jI 1) (jI 1) (jup (jup w 23 x v) 53 x v) := by
    intro v hv
    obtain ⟨hc, hm, hl⟩ := h.k
    refine ⟨rfl, ⟨?_, ?_, ?_⟩, ?_⟩
    · unfold OKC SOk at hc ⊢
      simp only [jwr_n, jwr_s, jupn, jups, up1_e, ne_eq, Nat.reduceEqDiff, not_false_eq_true, not_true_eq_false, if_true, if_false, Int.reduceEq, Int.reduceLT, Int.reduceLE, Int.reduceNeg, Int.reduceSub, Int.reduceAdd, Int.reduceMul, true_and, and_true, and_self, or_true, true_or, or_false, false_or, or_self] at hc ⊢
      obtain ⟨h1, h2, ⟨h3, h4⟩, h5⟩ := hc
      refine ⟨h1, h2, ⟨?_, h4⟩, h5⟩
      intro s q1 q2
      have := h3 s q1 q2
      by_cases e : s = x
      · simp only [if_pos e]; omega
      · simp only [if_neg e]; exact this
    · unfold RM at hm ⊢
      simp only [jwr_n, jwr_s, jupn, jups, up1_e, ne_eq, Nat.reduceEqDiff, not_false_eq_true, not_true_eq_false, if_true, if_false, Int.reduceEq, Int.reduceLT, Int.reduceLE, Int.reduceNeg, Int.reduceSub, Int.reduceAdd, Int.reduceMul, true_and, and_true, and_self, or_true, true_or, or_false, false_or, or_self] at hm ⊢
      obtain ⟨h1, h2, h3, h4, h5, h6, h7, h8, h9, h10⟩ := hm
      exact ⟨h1, h2, h3, h4, h5, h6, h7, h8, h9.up x v, h10⟩
    · unfold LK at hl ⊢
      simp only [jwr_n, jwr_s, jupn, jups, up1_e, ne_eq, Nat.reduceEqDiff, not_false_eq_true, not_true_eq_false] at hl ⊢
      exact hl
    · intro o ho
      simp (disch := omega) only [jupn, jwr_n]
  by_cases c1 : 0 ≤ x ∧ x < 8
  · simp only [if_pos c1]
    by_cases c2 : y = -1
    · simp only [if_pos c2]
      rw [bM_show_0, sM_isShelf, bM_show_4, jb_ite, if_pos c1, if_pos c2, bM_show_28, if_pos c2, if_pos c1]
      exact go (-1) (Or.inl rfl)
    · simp only [if_neg c2]
      by_cases c3 : 0 ≤ y ∧ y < w 1 3
      · simp only [if_pos c3]
        rw [bM_show_0, sM_isShelf, bM_show_4, jb_ite, if_pos c1, if_neg c2, sM_isPost, bM_show_18, jb_ite, jupn (by omega), e3, if_pos c3, bM_show_28, if_neg c2, if_pos c1]
        rw [n32s (by omega) (by omega)]
        exact go _ (Or.inr (by omega))
      · simp only [if_neg c3]
        rw [bM_show_0, sM_isShelf, bM_show_4, jb_ite, if_pos c1, if_neg c2, sM_isPost, bM_show_18, jb_ite, rX_n (by omega), e3, if_neg c3, sM_no2, bM_show_27]
        exact h.ref (by omega) (by omega)
  · simp only [if_neg c1]
    rw [bM_show_0, sM_isShelf, bM_show_4, jb_ite, if_neg c1, sM_no2, bM_show_27]
    exact h.ref (by omega) (by omega)
end SJ
