section SZ6
variable {w v u : jW} {Q : jV → jW → Prop} {K x y z a b c d e n p k : Int}
theorem p_goes (h : INV K w) : Both mX_goes mM_goes [jR 0, jI x, jI y] [jR 45, jI x, jI y] K w := by
  unfold Both
  have kk := h.wk
  have e := h.eq
  have F := h.ref (a := -2) (by omega) (by omega)
  have F5 := h.ref (a := -5) (by omega) (by omega)
  have VR : ∀ a, VM (rX w a) w := fun a => ⟨h.1, h.2.1.cg (fun o q => rX_n (by omega)) (fun f _ => by rw [rX_n (by omega)]) (fun _ _ => rfl)⟩
  rw [bX_goes_0, sL_hasWalker, bX_goes_8, jb_ite]
  by_cases c : 0 ≤ x ∧ x < w 1 4
  · rw [if_pos c, sX_isWithin, bX_goes_18, jb_ite]
    have kt := h.1.kt c
    by_cases d : 0 ≤ y ∧ y ≤ 4
    · rw [if_pos d, h.can c d, bX_goes_37, jb_ite]
      have M : ∀ u, VM u w → ∀ Q, AW mM_goes 0 [jR 45, jI x, jI y] [] u Q = AW mM_goes 35 [jR 45, jI x, jI y] [jI (jb (canB w (w 6 x) y))] u Q := by
        intro u hu Q
        rw [bM_goes_0, hu.isWalker, bM_goes_5, jb_ite, if_pos c, sM_within, bM_goes_14, jb_ite, if_pos d, if_pos (by omega), (hu.kt c).1.1, hu.can kt.1.1 d]
      by_cases g : canB w (w 6 x) y
      · have V1 : VM (jup (jup w 6 x (w 6 x + jcmd y)) 7 x (moveS (w 1 1) (w 6 x + jcmd y) (w 7 x) y)) w := ⟨h.1, h.2.1.cg (fun o q => by simp (disch := omega) only [jupn]) (fun f _ => by simp (disch := omega) only [jupn]) (fun _ _ => rfl)⟩
        have dr : dryB (w 1 0) (w 2) (w 6 x + jcmd y) := g.elim (fun t => by rw [t, jcmd0, Int.add_zero]; exact kt.1) id
        rw [if_pos g, sL_move (by omega) d kt.2.2 kt.2.1, bX_goes_56, if_pos (by omega), M _ V1, bM_goes_35, jb_ite, if_pos g, V1.goesBy c d g, bM_goes_44, bM_goes_53]
        have S := h.step (x := moveS (w 1 1) (w 6 x + jcmd y) (w 7 x) y) c dr (moveS_in kt.2.1)
        refine ⟨by simp (disch := omega) only [jupn, jups, up1_s], ⟨S.1, S.2.1, S.2.2.le (by omega)⟩, fun o q => by simp (disch := omega) only [jupn]⟩
      · rw [if_neg g, sX_refuse5, bX_goes_46, M _ (VR _), bM_goes_35, jb_ite, if_neg g, sM_no5, bM_goes_53]
        exact F5
    · rw [if_neg d, sX_refuse2, bX_goes_27, bM_goes_0, (VR _).isWalker, bM_goes_5, jb_ite, if_pos c, sM_within, bM_goes_14, jb_ite, if_neg d, sM_no2, bM_goes_23]
      exact F
  · rw [if_neg c, sX_refuse2, bX_goes_27, bM_goes_0, (VR _).isWalker, bM_goes_5, jb_ite, if_neg c, sM_no2, bM_goes_23]
    exact F
end SZ6
