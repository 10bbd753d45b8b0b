section SZ1
variable {w v u : jW} {Q : jV → jW → Prop} {K x y z a b c d e n p k : Int}
def opR (v : jW) (c i : Int) : Int := if dryB (v 1 0) (v 2) (c + jcmd (i + 1)) then 1 else 0
theorem opR_in : 0 ≤ opR v c n ∧ opR v c n ≤ 1 := by unfold opR; split <;> omega
theorem jcmd_in : -10 ≤ jcmd k ∧ jcmd k ≤ 10 := by
  unfold jcmd
  repeat' split
  all_goals omega
theorem sX_open (hn : w 1 0 ≤ 7) (hc : c67 c) (m : Nat) : ∀ j : Nat, 4 - j = m → j ≤ 4 → AW mX_open 23 [jR 0, jI c, jI (sm (opR w c) j), jI ((j : Int) + 1)] [] w Q = Q (jI (sm (opR w c) 4)) w := by
  induction m with
  | zero =>
    intro j hm hj
    rw [bX_open_23, if_pos (by omega), show j = 4 by omega]
  | succ m ih =>
    intro j hm hj
    have si := sm_in (f := opR w c) (lo := 0) (hi := 1) j (fun i q1 q2 => opR_in)
    have ih' := ih (j + 1) (by omega) (by omega)
    have jc := jcmd_in (k := (j : Int) + 1)
    rw [sm_s] at ih'
    rw [bX_open_23, if_neg (by omega), if_pos (by omega), n32s (x := c + jcmd ((j : Int) + 1)) (by omega) (by omega), sL_isDry hn, bX_open_44, jb_ite, n32s (x := sm (opR w c) j + 1) (by omega) (by omega), n32s (x := sm (opR w c) j + 0) (by omega) (by omega), n32s (x := (j : Int) + 1 + 1) (by omega) (by omega)]
    by_cases q : dryB (w 1 0) (w 2) (c + jcmd ((j : Int) + 1))
    · rw [if_pos q]; rw [show opR w c (j : Int) = 1 from if_pos q] at ih'; exact ih'
    · rw [if_neg q]; rw [show opR w c (j : Int) = 0 from if_neg q] at ih'; exact ih'
theorem sM_open (h : VM w v) (hc : cellB (v 1 0) c) (m : Nat) : ∀ j : Nat, 4 - j = m → j ≤ 4 → AW mM_open 20 [jR 45, jI c, jI (sm (opR v c) j), jI ((j : Int) + 1)] [] w Q = Q (jI (sm (opR v c) 4)) w := by
  induction m with
  | zero =>
    intro j hm hj
    rw [bM_open_20, if_neg (by omega), show j = 4 by omega]
  | succ m ih =>
    intro j hm hj
    have si := sm_in (f := opR v c) (lo := 0) (hi := 1) j (fun i q1 q2 => opR_in)
    have ih' := ih (j + 1) (by omega) (by omega)
    rw [sm_s] at ih'
    rw [bM_open_20, if_pos (by omega), h.can hc (by omega), bM_open_31, jb_ite, n32s (x := sm (opR v c) j + 1) (by omega) (by omega), n32s (x := (j : Int) + 1 + 1) (by omega) (by omega)]
    by_cases q : dryB (v 1 0) (v 2) (c + jcmd ((j : Int) + 1))
    · rw [if_pos (Or.inr q)]; rw [show opR v c (j : Int) = 1 from if_pos q] at ih'; exact ih'
    · rw [if_neg (fun t => t.elim (by omega) q)]; rw [show opR v c (j : Int) = 0 from if_neg q, Int.add_zero] at ih'; exact ih'
theorem p_open (h : INV K w) (hx : in32 x) : Both mX_open mM_open [jR 0, jI x, jX, jX] [jR 45, jI x, jX, jX] K w := by
  unfold Both
  unfold in32 at hx
  have k := h.wk
  have V := h.vm (SX.r (w := w))
  rw [bX_open_0, sL_isCell k.2.2.2, bX_open_9, jb_ite]
  by_cases c : cellB (w 1 0) x
  · rw [if_pos c]
    refine (sX_open k.2.2.2 ⟨c.1, cell67 k.2.2.2 c⟩ _ 0 rfl (by omega)).mpr ?_
    rw [bM_open_0, V.isCell (by unfold in64; omega), bM_open_6, jb_ite, if_pos c]
    refine (sM_open V c _ 0 rfl (by omega)).mpr ?_
    exact h.fin rfl
  · rw [if_neg c, sX_refuse2, bX_open_18, bM_open_0, sM_isCell (by unfold in64; omega), bM_open_6, jb_ite, rX_n (by omega), h.eq.1, if_neg c, sM_no2, bM_open_15]
    exact h.ref (by omega) (by omega)
end SZ1
