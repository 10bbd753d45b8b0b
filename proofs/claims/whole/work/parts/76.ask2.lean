def xN (w : jW) : jW := jup (jwr w 29 (lsF (w 6) (w 7) (w 29) (w 1 4).toNat)) 28 1 (lsN (w 7) (w 1 4).toNat)
def mN (w : jW) : jW := jup (jwr w 59 (lsF (w 50) (w 51) (w 59) (w 45 7).toNat)) 45 24 (lsN (w 51) (w 45 7).toNat)
section SR
variable {w v : jW} {Q : jV → jW → Prop} {K x y z a b c d e n p k : Int}
theorem SX.xN : SX w (xN w) := SX.t (SX.w (by omega)) (SX.j (by omega))
theorem SMo.mN : SMo w (mN w) := SMo.t (SMo.w (by omega)) SMo.l
theorem OKC.see (h : OKC w) : AW mG_seeAll 0 [jR 28, jR 1, jX] [] w Q = Q (jI 0) (xN w) := by
  have k : 0 ≤ w 1 4 ∧ w 1 4 ≤ 4 := h.1.2.2.2.1
  exact sG_seeAll k.1 k.2
theorem VM.see (h : VM w v) : AW mM_asThingsAre 0 [jR 45, jX] [] w Q = Q (jI 0) (mN w) := by
  have k := h.wk
  have e := h.eq.2.2.2
  exact sM_ata (by omega) (by omega)
theorem OKC.kt (h : OKC w) (hp : 0 ≤ p ∧ p < w 1 4) : dryB (w 1 0) (w 2) (w 6 p) ∧ (0 ≤ w 7 p ∧ w 7 p ≤ 9) ∧ c67 (w 6 p) := by
  obtain ⟨a, b⟩ := h.1.2.2.2.2.2.2 p hp.1 hp.2
  exact ⟨a, b, a.1.1, cell67 h.1.1.2 a.1⟩
/-- the arm in sight, when all the lost are -/
theorem OKC.armN (h : OKC w) (hp : 0 ≤ p ∧ p < w 1 3) : AW mX_armInSight 0 [jR 0, jI p] [] (xN w) Q = Q (jI (armN w p)) (xN w) := by
  have k : 0 ≤ w 1 3 ∧ w 1 3 ≤ 8 := h.1.2.2.1
  have k4 : 0 ≤ w 1 4 ∧ w 1 4 ≤ 4 := h.1.2.2.2.1
  obtain ⟨a, b, d⟩ := h.1.2.2.2.2.2.1 p hp.1 hp.2
  have d67 := cell67 h.1.1.2 d
  have ln := lsN_in (ws := w 7) (w 1 4).toNat
  have lf := lsF_in (wc := w 6) (ws := w 7) (f := w 29) (P := c67) (w 1 4).toNat (fun i q1 q2 => (h.kt ⟨q1, by omega⟩).2.2)
  have cg := (ls_cg (wc := w 6) (ws := w 7) (f := w 29) (wc' := w 6) (ws' := w 7) (g := fun _ => 0) (w 1 4).toNat (fun _ _ _ => ⟨rfl, rfl⟩)).2
  rw [bX_armInSight_0, if_pos (by omega), if_pos (by omega), if_pos (by omega), sG_armBy]
  · rw [bX_armInSight_34]
    unfold xN _root_.Jvm.Pilot.CPointAtWhoIsLostLaw_law_r2185_f8d3f4.armN
    simp (disch := omega) only [jupn, jups, up1_s, jwr_n, jwr_s]
    rw [armR_cg ln.1 cg]
  all_goals (unfold xN; simp (disch := omega) only [jupn, jups, up1_s, jwr_n, jwr_s])
  · omega
  · omega
  · exact lf
  · exact ⟨d.1, d67⟩
theorem VM.armN (h : VM w v) (hp : 0 ≤ p ∧ p < v 1 3) : AW mM_armOf 0 [jR 45, jI p] [] (mN w) Q = Q (jI (armN v p)) (mN w) := by
  have k := h.wk
  have e := h.eq.2.2.2
  obtain ⟨⟨a1, a2, a3⟩, b, c1, d, e9⟩ := h.pt hp
  have ln := lsN_in (ws := w 51) (w 45 7).toNat
  have lf := lsF_in (wc := w 50) (ws := w 51) (f := w 59) (P := c67) (w 45 7).toNat (fun i q1 q2 => by
    have := h.kt (p := i) ⟨q1, by omega⟩
    rw [this.1.1]; exact this.2.2.2)
  have cg := ls_cg (wc := w 50) (ws := w 51) (f := w 59) (wc' := v 6) (ws' := v 7) (g := fun _ => 0) (w 45 7).toNat (fun i q1 q2 => (h.kt (p := i) ⟨q1, by omega⟩).1)
  rw [sM_armOf]
  · unfold mN _root_.Jvm.Pilot.CPointAtWhoIsLostLaw_law_r2185_f8d3f4.armN
    simp (disch := omega) only [jupn, jups, up1_s, jwr_n, jwr_s]
    rw [armR_cg ln.1 cg.2, cg.1, a1, a2, a3, e]
  all_goals (try unfold mN); (try simp (disch := omega) only [jupn, jups, up1_s, jwr_n, jwr_s])
  · omega
  · omega
  · omega
  · exact lf
  · rw [a3]; exact e9
theorem p_arm (h : INV K w) (hx : in32 x) (hy : in32 y) : Both mX_arm mM_arm [jR 0, jI x, jI y] [jR 45, jI x, jI y] K w := by
  unfold Both
  unfold in32 at hx hy
  have k := h.wk
  have F := h.ref (a := -2) (by omega) (by omega)
  rw [bX_arm_0, sL_hasPost, bX_arm_9, jb_ite]
  by_cases c : 0 ≤ x ∧ x < w 1 3
  · rw [if_pos c, sL_isCell k.2.2.2, bX_arm_21, jb_ite]
    by_cases d : cellB (w 1 0) y
    · have d6 : c67 y := ⟨d.1, cell67 k.2.2.2 d⟩
      have V := h.vm (SX.one (c := y))
      have O : OKC (jup (jup w 29 0 y) 28 1 1) := h.1.cg (fun o q => SX.one o (by omega))
      rw [if_pos d, sG_seeOne, bX_arm_39, sX_armOne O (by simp (disch := omega) only [jupn]; exact c) (by simp (disch := omega) only [jups, up1_s]) (by simp (disch := omega) only [jupn, jups, up1_s]) d6, bX_arm_44]
      rw [bM_arm_0, V.isPost, bM_arm_6, jb_ite, if_pos c, V.isCell (by unfold in64; omega), bM_arm_15, jb_ite, if_pos d, V.armFor c d6, bM_arm_24, bM_arm_33]
      refine h.q SX.one (h.2.2.s ?_ ?_) SMo.one ?_
      · simp (disch := omega) only [jupn]
      · simp (disch := omega) only [jupn]
      · unfold armO; simp (disch := omega) only [jupn]
    · rw [if_neg d, sX_refuse2, bX_arm_30, bM_arm_0, sM_isPost, bM_arm_6, jb_ite, rX_n (by omega), h.eq.2.2.1, if_pos c, sM_isCell (by unfold in64; omega), bM_arm_15, jb_ite, rX_n (by omega), h.eq.1, if_neg d, sM_no2, bM_arm_33]
      exact F
  · rw [if_neg c, sX_refuse2, bX_arm_30, bM_arm_0, sM_isPost, bM_arm_6, jb_ite, rX_n (by omega), h.eq.2.2.1, if_neg c, sM_no2, bM_arm_33]
    exact F
end SR
