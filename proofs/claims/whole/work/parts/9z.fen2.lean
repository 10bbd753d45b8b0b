/-! fen -/
/-- u's draft is w's land -/
def DC (w u : jW) : Prop := (∀ o, (o < 15 ∨ 21 < o) → u o = w o) ∧ (u 15 0 = w 1 0 ∧ u 15 1 = w 1 1 ∧ u 15 2 = w 1 2 ∧ u 15 3 = w 1 3 ∧ u 15 4 = w 1 4) ∧ Eqn 67 (u 16) (w 2) ∧ Eqn 8 (u 17) (w 3) ∧ Eqn 8 (u 18) (w 4) ∧ Eqn 8 (u 19) (w 5) ∧ Eqn 4 (u 20) (w 6) ∧ Eqn 4 (u 21) (w 7)
/-- u's land is w's draft -/
def LC (w u : jW) : Prop := (∀ o, (o < 1 ∨ 7 < o) → u o = w o) ∧ (u 1 0 = w 15 0 ∧ u 1 1 = w 15 1 ∧ u 1 2 = w 15 2 ∧ u 1 3 = w 15 3 ∧ u 1 4 = w 15 4) ∧ Eqn 67 (u 2) (w 16) ∧ Eqn 8 (u 3) (w 17) ∧ Eqn 8 (u 4) (w 18) ∧ Eqn 8 (u 5) (w 19) ∧ Eqn 4 (u 6) (w 20) ∧ Eqn 4 (u 7) (w 21)
section ZA
variable {w u v : jW} {Q : jV → jW → Prop} {K c k a s x : Int}
theorem sL_take15 (hQ : ∀ u, DC w u → Q (jI 0) u) : AW mL_takeFrom 0 [jR 15, jR 1] [] w Q := by
  rw [bL_takeFrom_r15_r1_0]
  simp only [if_true, if_false, Int.reduceEq, Int.reduceLT, Int.reduceLE, Int.reduceNeg, Int.reduceSub, Int.reduceAdd, Int.reduceMul, true_and, and_true, and_self, or_true, true_or, or_false, false_or, or_self, if_pos (show (0 : Int) ≤ 67 by omega), if_pos (show (0 : Int) ≤ 8 by omega), if_pos (show (0 : Int) ≤ 4 by omega)]
  refine hQ _ ⟨fun o ho => ?_, ?_, ?_, ?_, ?_, ?_, ?_, ?_⟩
  · simp (disch := omega) only [jmv_ne, jupn]
  · simp (disch := omega) only [jmv_ne, jupn, jups, up1_n, up1_s]
    exact ⟨trivial, trivial, trivial, trivial, trivial⟩
  all_goals (simp (disch := omega) only [jmv_ne, jupn, jmv_z]; exact Eqn.i (by omega))
theorem sL_take1 (hQ : ∀ u, LC w u → Q (jI 0) u) : AW mL_takeFrom 0 [jR 1, jR 15] [] w Q := by
  rw [bL_takeFrom_r15_0]
  simp only [if_true, if_false, Int.reduceEq, Int.reduceLT, Int.reduceLE, Int.reduceNeg, Int.reduceSub, Int.reduceAdd, Int.reduceMul, true_and, and_true, and_self, or_true, true_or, or_false, false_or, or_self, if_pos (show (0 : Int) ≤ 67 by omega), if_pos (show (0 : Int) ≤ 8 by omega), if_pos (show (0 : Int) ≤ 4 by omega)]
  refine hQ _ ⟨fun o ho => ?_, ?_, ?_, ?_, ?_, ?_, ?_, ?_⟩
  · simp (disch := omega) only [jmv_ne, jupn]
  · simp (disch := omega) only [jmv_ne, jupn, jups, up1_n, up1_s]
    exact ⟨trivial, trivial, trivial, trivial, trivial⟩
  all_goals (simp (disch := omega) only [jmv_ne, jupn, jmv_z]; exact Eqn.i (by omega))
theorem p_fen (h : INV K w) : Both mX_fen mM_fen [jR 0, jX, jX] [jR 45, jX, jX] K w := by
  unfold Both
  have kk := h.wk
  have e := h.eq
  have b46 := h.b46
  have hT : TOk (w 26 0) (w 27) := h.1.2.1
  have hL : LOk (w 1 0) (w 1 1) (w 1 3) (w 1 4) (w 2) (w 3) (w 4) (w 5) (w 6) (w 7) := h.1.1
  have hS : SOk (w 1 3) (w 23) (w 24) (w 25) := h.1.2.2.1
  have hK := h.1.2.2.2
  rw [bX_fen_0]
  refine sL_take15 (fun w1 C => ?_)
  obtain ⟨C1, ⟨C2, C3, C4, C5, C6⟩, C7, C8, C9, C10, C11, C12⟩ := C
  rw [bX_fen_11, bT_readInto_0]
  have D0 : DOk (jup w1 26 2 0) := by
    unfold DOk
    simp (disch := omega) only [jupn]
    rw [C2, C3, C5, C6]
    exact hL.cg C7 (C8.le (by omega)) (C9.le (by omega)) (C10.le (by omega)) (C11.le (by omega)) (C12.le (by omega))
  have e26 : w1 26 = w 26 := C1 26 (by omega)
  have O0 : TO (jup w1 26 2 0) := by
    unfold TO
    rw [jups, up1_n (by omega), up1_s, e26]
    exact ⟨⟨hT.1, hT.2.1⟩, by omega, hT.1⟩
  refine sT_into 250 1 _ rfl (by omega) O0 D0 ?_
  have OK : CF (jup w1 26 2 0) (rdR 250 1 (jup w1 26 2 0)).2 ∧ TT (rdR 250 1 (jup w1 26 2 0)).2 ∧ (jup w1 26 2 0) 15 3 ≤ (rdR 250 1 (jup w1 26 2 0)).2 15 3 ∧ ((rdR 250 1 (jup w1 26 2 0)).1 = -1 ∨ (1 ≤ (rdR 250 1 (jup w1 26 2 0)).1 ∧ DOk (rdR 250 1 (jup w1 26 2 0)).2)) := by
    sorry
  sorry
end ZA
