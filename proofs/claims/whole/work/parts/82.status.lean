section SX1
variable {w v u : jW} {Q : jV → jW → Prop} {K x y z a b c d e n p k : Int}
theorem p_status (h : INV K w) (hx : in32 x) : Both mX_status mM_status [jR 0, jI x] [jR 45, jI x, jX, jX] K w := by
  unfold Both
  unfold in32 at hx
  obtain ⟨e1, e2, e3, e4, e5, e6, e7⟩ := h.eq
  obtain ⟨k1, k2, k3⟩ := h.wk
  rw [bX_status_0]
  by_cases x0 : x = 0
  · rw [if_pos x0, bM_status_0, if_pos x0, e3]; exact h.fin rfl
  rw [if_neg x0]
  by_cases x1 : x = 1
  · rw [if_pos x1, bM_status_0, if_neg x0, if_pos x1, e1]; exact h.fin rfl
  rw [if_neg x1]
  by_cases x2 : x = 2
  · rw [if_pos x2, bM_status_0, if_neg x0, if_neg x1, if_pos x2, e2]; exact h.fin rfl
  rw [if_neg x2]
  by_cases x3 : x = 3
  · rw [if_pos x3, bM_status_0, if_neg x0, if_neg x1, if_neg x2, if_pos x3, e4]; exact h.fin rfl
  rw [if_neg x3]
  by_cases x4 : x = 4
  · have si := sm_in (f := sure1 (w 51)) (lo := 0) (hi := 1) (w 1 4).toNat (fun _ _ _ => sure1_in)
    have ls := lost_sure (f := w 7) (g := w 51) (w 1 4).toNat (fun i q1 q2 => (h.2.1.2.2.2.2.2.2.1 i q1 (by omega)).symm)
    rw [if_pos x4, sL_lostCount k1.1 k1.2, bX_status_91, bM_status_0, if_neg x0, if_neg x1, if_neg x2, if_neg x3, if_pos x4, sM_sureOnes (by omega) (by omega), bM_status_80, e4, n32s (by omega) (by omega)]
    exact h.fin (by rw [ls]; congr 1; omega)
  rw [if_neg x4]
  by_cases x5 : x = 5
  · rw [if_pos x5, bL_bogCount_0]
    refine (sL_bogCount4 h.1.1.2.2.2.2.1 _ 0 rfl (by omega)).mpr ?_
    rw [bX_status_99, bM_status_0, if_neg x0, if_neg x1, if_neg x2, if_neg x3, if_neg x4, if_pos x5]
    refine (sM_bogs84 _ 0 rfl (by omega)).mpr ?_
    refine h.fin (congrArg jI (sm_cg 67 (fun i q1 q2 => ?_)))
    have a := h.2.1.2.1 i q1 q2
    have b := h.1.1.2.2.2.2.1 i q1 q2
    unfold not1
    split <;> omega
  rw [if_neg x5]
  by_cases x6 : x = 6
  · rw [if_pos x6, bM_status_0, if_neg x0, if_neg x1, if_neg x2, if_neg x3, if_neg x4, if_neg x5, if_pos x6, e6]; exact h.fin rfl
  rw [if_neg x6]
  by_cases x7 : x = 7
  · rw [if_pos x7, bM_status_0, if_neg x0, if_neg x1, if_neg x2, if_neg x3, if_neg x4, if_neg x5, if_neg x6, if_pos x7, e5]; exact h.fin rfl
  rw [if_neg x7]
  by_cases x8 : x = 8
  · rw [if_pos x8, bS_filledCount_0]
    refine (sS_filled4 _ 0 rfl (by omega)).mpr ?_
    rw [bX_status_123, bM_status_0, if_neg x0, if_neg x1, if_neg x2, if_neg x3, if_neg x4, if_neg x5, if_neg x6, if_neg x7, if_pos x8]
    refine (sM_filled122 _ 0 rfl (by omega)).mpr ?_
    refine h.fin (congrArg jI (sm_cg 8 (fun i q1 q2 => ?_)))
    have a := h.m53 (x := i) ⟨q1, q2⟩
    unfold not1
    rw [a]
  rw [if_neg x8, bX_refusalsBy_0, sX_isWithin, bX_refusalsBy_9, jb_ite]
  have M : ∀ Q, AW mM_status 0 [jR 45, jI x, jX, jX] [] w Q = (if 12 ≤ x ∧ x ≤ 16 then Q (jI (w 41 (x - 12))) w else Q (jI (-1)) w) := by
    intro Q
    rw [bM_status_0, if_neg x0, if_neg x1, if_neg x2, if_neg x3, if_neg x4, if_neg x5, if_neg x6, if_neg x7, if_neg x8, sM_within, bM_status_157, jb_ite]
    by_cases c : 12 ≤ x ∧ x ≤ 16
    · have r : w 56 (x - 12 + 2) = w 41 (x - 12) := h.2.1.2.2.2.2.2.2.2.2.2.2.2.1 (x - 12) (by omega) (by omega)
      rw [if_pos c, if_pos c, n32s (by omega) (by omega), if_pos (by omega), ← r, show x - 12 + 2 = x - 10 by omega]
    · rw [if_neg c, if_neg c]
  by_cases c : 12 ≤ x ∧ x ≤ 16
  · rw [if_pos c, n32s (by omega) (by omega), if_pos (by omega), bX_status_129, M, if_pos c]; exact h.fin rfl
  · rw [if_neg c, bX_status_129, M, if_neg c]; exact h.fin rfl
end SX1
