section ME
variable {w v : jW} {Q : jV → jW → Prop} {K x y : Int}
theorem LK.PW {f q : Int → Int} (h : LK K w) : LK (K + 2100) (PW w f q) := h.s (PW_n (by omega)) (PW_n (by omega))
theorem INV.vR (h : INV K w) (a : Int) : VM (rX w a) w := ⟨h.1, h.2.1.cg (fun o q => rX_n (by omega)) (fun f _ => by rw [rX_n (by omega)]) (fun _ _ => rfl)⟩
theorem p_path (h : INV K w) (hx : in32 x) (hy : in32 y) : Both mX_path mM_path [jR 0, jI x, jI y] [jR 45, jI x, jI y] K w := by
  unfold Both
  unfold in32 at hx hy
  have k := h.wk
  have F := h.ref (a := -2) (by omega) (by omega)
  have R := h.vR (-2)
  rw [bX_path_0, sL_isCell k.2.2.2, bX_path_9, jb_ite]
  by_cases c : cellB (w 1 0) x
  · rw [if_pos c, sL_isCell k.2.2.2, bX_path_21, jb_ite]
    by_cases d : cellB (w 1 0) y
    · have d6 : c67 y := ⟨d.1, cell67 k.2.2.2 d⟩
      have d6' := d6
      unfold c67 at d6'
      rw [if_pos d]
      refine h.1.measure c (fun f q hf => ?_)
      have V := h.vm (SX.PW (w := w) (f := f) (q := q))
      rw [bX_path_43, sP_stepsTo, if_pos d6', PW_39, bX_path_52, bM_path_0, V.isCell (by unfold in64; omega), bM_path_6, jb_ite, if_pos c, V.isCell (by unfold in64; omega), bM_path_15, jb_ite, if_pos d]
      refine V.pathOf c d6 (fun g => ?_)
      rw [bM_path_24, bM_path_33]
      exact h.q SX.PW h.2.2.PW (SMo.w (by omega)) (by rw [hf y d6])
    · rw [if_neg d, sX_refuse2, bX_path_30, bM_path_0, R.isCell (by unfold in64; omega), bM_path_6, jb_ite, if_pos c, R.isCell (by unfold in64; omega), bM_path_15, jb_ite, if_neg d, sM_no2, bM_path_33]
      exact F
  · rw [if_neg c, sX_refuse2, bX_path_30, bM_path_0, R.isCell (by unfold in64; omega), bM_path_6, jb_ite, if_neg c, sM_no2, bM_path_33]
    exact F
theorem p_walkerOf (h : INV K w) : Both mX_walkerOf mM_walkerOf [jR 0, jI x, jI y] [jR 45, jI x, jI y] K w := by
  unfold Both
  have k := h.wk
  have F := h.ref (a := -2) (by omega) (by omega)
  have R := h.vR (-2)
  rw [bX_walkerOf_0, sL_hasWalker, bX_walkerOf_8, jb_ite]
  by_cases c : 0 ≤ x ∧ x < w 1 4
  · have V := h.vm (SX.r (w := w))
    have kt := V.kt c
    rw [if_pos c, sX_isWithin, bX_walkerOf_18, jb_ite]
    by_cases d : 0 ≤ y ∧ y ≤ 3
    · have E : LK (K + 2100) w := h.2.2.le (by omega)
      rw [if_pos d]
      by_cases y0 : y = 0
      · rw [if_pos y0, if_pos (by omega), bM_walkerOf_0, V.isWalker, bM_walkerOf_5, jb_ite, if_pos c, if_pos y0, if_pos (by omega)]
        exact h.q SX.r E SMo.r (by rw [kt.1.1])
      · by_cases y1 : y = 1
        · rw [if_neg y0, if_pos y1, if_pos (by omega), bM_walkerOf_0, V.isWalker, bM_walkerOf_5, jb_ite, if_pos c, if_neg y0, if_pos y1, if_pos (by omega)]
          exact h.q SX.r E SMo.r (by rw [kt.1.2])
        · by_cases y2 : y = 2
          · rw [if_neg y0, if_neg y1, if_pos y2, bL_isLost_0, if_pos (by omega)]
            by_cases l : w 7 x < 5
            · rw [if_pos l, bX_walkerOf_84, if_neg (by omega), bM_walkerOf_0, V.isWalker, bM_walkerOf_5, jb_ite, if_pos c, if_neg y0, if_neg y1, if_pos y2, bM_isLost_0, if_pos (by omega), kt.1.2, if_pos l, bM_walkerOf_67, if_neg (by omega)]
              exact h.q SX.r E SMo.r rfl
            · rw [if_neg l, bX_walkerOf_84, if_pos rfl, bM_walkerOf_0, V.isWalker, bM_walkerOf_5, jb_ite, if_pos c, if_neg y0, if_neg y1, if_pos y2, bM_isLost_0, if_pos (by omega), kt.1.2, if_neg l, bM_walkerOf_67, if_pos rfl]
              exact h.q SX.r E SMo.r rfl
          · rw [if_neg y0, if_neg y1, if_neg y2, if_pos (by omega)]
            have hc := kt.2.1.1
            have h6 : c67 (w 1 1) := ⟨h.1.1.2.1.1.1, cell67 k.2.2.2 h.1.1.2.1.1⟩
            have h6' := h6
            unfold c67 at h6'
            refine h.1.measure hc (fun f q hf => ?_)
            have V := h.vm (SX.PW (w := w) (f := f) (q := q))
            rw [bX_walkerOf_113, sP_stepsTo, PW_n (o := 1) (by omega), if_pos h6', PW_39, bX_walkerOf_128, bM_walkerOf_0, V.isWalker, bM_walkerOf_5, jb_ite, if_pos c, if_neg y0, if_neg y1, if_neg y2, if_pos (by omega), if_pos (by omega), (V.kt c).1.1, V.eq.2.1]
            refine V.pathOf hc h6 (fun g => ?_)
            rw [bM_walkerOf_90]
            exact h.q SX.PW h.2.2.PW (SMo.w (by omega)) (by rw [hf _ h6])
    · rw [if_neg d, sX_refuse2, bX_walkerOf_27, bM_walkerOf_0, R.isWalker, bM_walkerOf_5, jb_ite, if_pos c, if_neg (by omega), if_neg (by omega), if_neg (by omega), if_neg (by omega), sM_no2, bM_walkerOf_97]
      exact F
  · rw [if_neg c, sX_refuse2, bX_walkerOf_27, bM_walkerOf_0, R.isWalker, bM_walkerOf_5, jb_ite, if_neg c, sM_no2, bM_walkerOf_14]
    exact F
def rchI (f : Int → Int) (n c : Int) : Int := if f c ≠ -1 ∧ f c ≤ n then 1 else 0
theorem rchI_in {f : Int → Int} {n c : Int} : 0 ≤ rchI f n c ∧ rchI f n c ≤ 1 := by unfold rchI; split <;> omega
theorem sP_within4 {n : Int} (m : Nat) : ∀ j : Nat, 67 - j = m → j ≤ 67 → AW mP_cellsWithin 4 [jR 38, jI n, jI (sm (rchI (w 39) n) j), jI j] [] w Q = Q (jI (sm (rchI (w 39) n) 67)) w := by
  induction m with
  | zero =>
    intro j hm hj
    rw [bP_cellsWithin_4, if_neg (by omega), show j = 67 by omega]
  | succ m ih =>
    intro j hm hj
    have si := sm_in (f := rchI (w 39) n) (lo := 0) (hi := 1) j (fun _ _ _ => rchI_in)
    have ih' := ih (j + 1) (by omega) (by omega)
    rw [sm_s] at ih'
    rw [bP_cellsWithin_4, if_pos (by omega), if_pos (by omega), n32s (x := sm (rchI (w 39) n) j + 0) (by omega) (by omega), n32s (x := sm (rchI (w 39) n) j + 1) (by omega) (by omega), n32s (x := (j : Int) + 1) (by omega) (by omega)]
    by_cases q : w 39 (j : Int) = -1
    · rw [if_pos q]; rw [show rchI (w 39) n (j : Int) = 0 from if_neg (fun t => t.1 q)] at ih'; exact ih'
    · rw [if_neg q, if_pos (by omega)]
      by_cases q2 : n < w 39 (j : Int)
      · rw [if_pos q2]; rw [show rchI (w 39) n (j : Int) = 0 from if_neg (by omega)] at ih'; exact ih'
      · rw [if_neg q2]; rw [show rchI (w 39) n (j : Int) = 1 from if_pos ⟨q, by omega⟩] at ih'; exact ih'
theorem sM_reach36 {n : Int} {y1 : jV} {f : Int → Int} (hf : ∀ c, c67 c → w 60 c = f c + 1 ∧ -1 ≤ f c ∧ f c ≤ 66) (m : Nat) : ∀ j : Nat, 67 - j = m → j ≤ 67 → AW mM_reach 36 [jR 45, y1, jI n, jI (sm (rchI f n) j), jI j] [] w Q = Q (jI (sm (rchI f n) 67)) w := by
  induction m with
  | zero =>
    intro j hm hj
    rw [bM_reach_36, if_neg (by omega), show j = 67 by omega]
  | succ m ih =>
    intro j hm hj
    have si := sm_in (f := rchI f n) (lo := 0) (hi := 1) j (fun _ _ _ => rchI_in)
    have ih' := ih (j + 1) (by omega) (by omega)
    have e := hf j ⟨by omega, by omega⟩
    rw [sm_s] at ih'
    rw [bM_reach_36, if_pos (by omega), if_pos (by omega), e.1, n32s (x := sm (rchI f n) j + 1) (by omega) (by omega), n32s (x := (j : Int) + 1) (by omega) (by omega), n32s (x := f (j : Int) + 1 - 1) (by omega) (by omega)]
    by_cases q : f (j : Int) = -1
    · rw [if_neg (by omega)]; rw [show rchI f n (j : Int) = 0 from if_neg (fun t => t.1 q), Int.add_zero] at ih'; exact ih'
    · rw [if_pos (by omega), if_pos (by omega)]
      by_cases q2 : n < f (j : Int)
      · rw [if_pos (by omega)]; rw [show rchI f n (j : Int) = 0 from if_neg (by omega), Int.add_zero] at ih'; exact ih'
      · rw [if_neg (by omega)]; rw [show rchI f n (j : Int) = 1 from if_pos ⟨q, by omega⟩] at ih'; exact ih'
theorem p_reach (h : INV K w) (hx : in32 x) : Both mX_reach mM_reach [jR 0, jI x, jI y] [jR 45, jI x, jI y, jX, jX] K w := by
  unfold Both
  unfold in32 at hx
  have k := h.wk
  have F := h.ref (a := -2) (by omega) (by omega)
  have R := h.vR (-2)
  rw [bX_reach_0, sL_isCell k.2.2.2, bX_reach_9, jb_ite]
  by_cases c : cellB (w 1 0) x
  · rw [if_pos c, sX_isWithin, bX_reach_20, jb_ite]
    by_cases d : 0 ≤ y ∧ y ≤ 70
    · rw [if_pos d]
      refine h.1.measure c (fun f q hf => ?_)
      have V := h.vm (SX.PW (w := w) (f := f) (q := q))
      rw [bX_reach_42, bP_cellsWithin_0]
      refine (sP_within4 _ 0 rfl (by omega)).mpr ?_
      rw [bX_reach_50, PW_39, bM_reach_0, V.isCell (by unfold in64; omega), bM_reach_6, jb_ite, if_pos c, sM_within, bM_reach_16, jb_ite, if_pos d]
      refine V.walks c (fun g hg => ?_)
      rw [bM_reach_31]
      refine (sM_reach36 (f := fun c => g c - 1) (fun c hc => ⟨?_, hg.1 c hc⟩) _ 0 rfl (by omega)).mpr ?_
      · rw [jwr_s]; show g c = g c - 1 + 1; omega
      · refine h.q SX.PW h.2.2.PW (SMo.w (by omega)) ?_
        congr 1
        refine sm_cg 67 (fun i q1 q2 => ?_)
        unfold rchI
        have e := hf i ⟨q1, by omega⟩
        have e2 := hg.dq (c := i) ⟨q1, by omega⟩
        have e3 : f i = g i - 1 := e.trans e2.symm
        rw [e3]
    · rw [if_neg d, sX_refuse2, bX_reach_29, bM_reach_0, R.isCell (by unfold in64; omega), bM_reach_6, jb_ite, if_pos c, sM_within, bM_reach_16, jb_ite, if_neg d, sM_no2, bM_reach_25]
      exact F
  · rw [if_neg c, sX_refuse2, bX_reach_29, bM_reach_0, R.isCell (by unfold in64; omega), bM_reach_6, jb_ite, if_neg c, sM_no2, bM_reach_25]
    exact F
end ME
