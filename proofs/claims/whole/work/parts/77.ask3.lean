/-- bits of those below m whose f is a -/
def bR (f : Int → Int) (a : Int) : Nat → Int
  | 0 => 0
  | m + 1 => if f (m : Int) = a then jor (bR f a m) (jshl 1 (m : Int)) else bR f a m
theorem bR_y {f : Int → Int} {a : Int} {m : Nat} (h : f (m : Int) = a) : bR f a (m + 1) = jor (bR f a m) (jshl 1 (m : Int)) := if_pos h
theorem bR_n {f : Int → Int} {a : Int} {m : Nat} (h : ¬ f (m : Int) = a) : bR f a (m + 1) = bR f a m := if_neg h
section SS
variable {w v : jW} {Q : jV → jW → Prop} {K x y z a b c d e n p k : Int}
theorem sX_bits (f : Int → Int) (h3 : w 1 3 ≤ 8) (hf : ∀ p, 0 ≤ p → p < w 1 3 → ∀ Q, AW mX_armInSight 0 [jR 0, jI p] [] w Q = Q (jI (f p)) w) (m : Nat) : ∀ j : Nat, (w 1 3 - j).toNat = m → (j : Int) ≤ w 1 3 →
    AW mX_postsWithArm 4 [jR 0, jI a, jI (bR f a j), jI j] [] w Q = Q (jI (bR f a (w 1 3).toNat)) w := by
  induction m with
  | zero =>
    intro j hm hj
    rw [bX_postsWithArm_4, if_neg (by omega), show (w 1 3).toNat = j by omega]
  | succ m ih =>
    intro j hm hj
    have ih' := ih (j + 1) (by omega) (by omega)
    rw [bX_postsWithArm_4, if_pos (by omega), hf j (by omega) (by omega), bX_postsWithArm_20, n32s (by omega) (by omega)]
    by_cases q : f (j : Int) = a
    · rw [if_pos q]; rw [bR_y q] at ih'; exact ih'
    · rw [if_neg q]; rw [bR_n q] at ih'; exact ih'
theorem sM_bits (f : Int → Int) (h3 : w 45 3 ≤ 8) (hf : ∀ p, 0 ≤ p → p < w 45 3 → ∀ Q, AW mM_armOf 0 [jR 45, jI p] [] w Q = Q (jI (f p)) w) (m : Nat) : ∀ j : Nat, (w 45 3 - j).toNat = m → (j : Int) ≤ w 45 3 →
    AW mM_trembling 8 [jR 45, jI (bR f (-1) j), jI j] [] w Q = Q (jI (bR f (-1) (w 45 3).toNat)) w := by
  induction m with
  | zero =>
    intro j hm hj
    rw [bM_trembling_8, if_neg (by omega), show (w 45 3).toNat = j by omega]
  | succ m ih =>
    intro j hm hj
    have ih' := ih (j + 1) (by omega) (by omega)
    rw [bM_trembling_8, if_pos (by omega), hf j (by omega) (by omega), bM_trembling_21, n32s (by omega) (by omega)]
    by_cases q : f (j : Int) = -1
    · rw [if_pos q]; rw [bR_y q] at ih'; exact ih'
    · rw [if_neg q]; rw [bR_n q] at ih'; exact ih'
theorem xN_n {o : Nat} (h : o ≠ 28 ∧ o ≠ 29) : xN w o = w o := by unfold xN; simp (disch := omega) only [jupn, jwr_n]
theorem mN_n {o : Nat} (h : o ≠ 45 ∧ o ≠ 59) : mN w o = w o := by unfold mN; simp (disch := omega) only [jupn, jwr_n]
theorem p_trembling (h : INV K w) : Both mX_trembling mM_trembling [jR 0] [jR 45, jX, jX] K w := by
  unfold Both
  have k := h.wk
  have V := h.vm (SX.xN (w := w))
  have e1 : xN w 1 3 = w 1 3 := by rw [xN_n (by omega)]
  have X := fun Q => sX_bits (w := xN w) (Q := Q) (a := -1) (armN w) (by omega) (fun p q1 q2 Q => h.1.armN ⟨q1, by omega⟩) _ 0 rfl (by omega)
  have eM : mN (xN w) 45 3 = w 1 3 := by rw [SMo.mN.2 3 (by omega), V.eq.2.2.1]
  have M := fun Q => sM_bits (w := mN (xN w)) (Q := Q) (armN w) (by omega) (fun p q1 q2 Q => V.armN ⟨q1, by omega⟩) _ 0 rfl (by omega)
  rw [bX_trembling_0, h.1.see, bX_trembling_11, bX_postsWithArm_0]
  refine (X _).mpr ?_
  rw [bX_trembling_16, bM_trembling_0, V.see, bM_trembling_4]
  refine (M _).mpr ?_
  exact h.q SX.xN (h.2.2.s (xN_n (by omega)) (xN_n (by omega))) SMo.mN (by rw [eM, e1])
theorem p_postOf (h : INV K w) : Both mX_postOf mM_postOf [jR 0, jI x, jI y] [jR 45, jI x, jI y] K w := by
  unfold Both
  have k := h.wk
  have F := h.ref (a := -2) (by omega) (by omega)
  rw [bX_postOf_0, sL_hasPost, bX_postOf_9, jb_ite]
  by_cases c : 0 ≤ x ∧ x < w 1 3
  · rw [if_pos c, sX_isWithin, bX_postOf_19, jb_ite]
    by_cases d : 0 ≤ y ∧ y ≤ 3
    · have V := h.vm (SX.r (w := w))
      have a := V.pt c
      have ea : mN w 47 = w 47 ∧ mN w 48 = w 48 ∧ mN w 49 = w 49 := ⟨mN_n (by omega), mN_n (by omega), mN_n (by omega)⟩
      have M : ∀ u, VM u w → ∀ Q, AW mM_postOf 0 [jR 45, jI x, jI y] [] u Q = AW mM_postOf 29 [jR 45, jI x, jI y] [] (mN u) Q := by
        intro u hu Q
        rw [bM_postOf_0, hu.isPost, bM_postOf_6, jb_ite, if_pos c, sM_within, bM_postOf_15, jb_ite, if_pos d, hu.see]
      have E : LK (K + 2100) w := h.2.2.le (by omega)
      rw [if_pos d]
      by_cases y0 : y = 0
      · rw [if_pos y0, if_pos (by omega), M w V, bM_postOf_29, if_pos y0, if_pos (by omega), bM_postOf_75]
        exact h.q SX.r E SMo.mN (by rw [ea.1, a.1.1])
      · by_cases y1 : y = 1
        · rw [if_neg y0, if_pos y1, if_pos (by omega), M w V, bM_postOf_29, if_neg y0, if_pos y1, if_pos (by omega), bM_postOf_75]
          exact h.q SX.r E SMo.mN (by rw [ea.2.1, a.1.2.1])
        · by_cases y2 : y = 2
          · rw [if_neg y0, if_neg y1, if_pos y2, if_pos (by omega), M w V, bM_postOf_29, if_neg y0, if_neg y1, if_pos y2, if_pos (by omega), bM_postOf_75]
            exact h.q SX.r E SMo.mN (by rw [ea.2.2, a.1.2.2])
          · have V' := h.vm (SX.xN (w := w))
            rw [if_neg y0, if_neg y1, if_neg y2, bX_armAsThingsAre_0, h.1.see, bX_armAsThingsAre_11, h.1.armN c, bX_armAsThingsAre_16, bX_postOf_91, M _ V', bM_postOf_29, if_neg y0, if_neg y1, if_neg y2, V'.armN c, bM_postOf_75]
            exact h.q SX.xN (h.2.2.s (xN_n (by omega)) (xN_n (by omega))) SMo.mN rfl
    · rw [if_neg d, sX_refuse2, bX_postOf_28, bM_postOf_0, sM_isPost, bM_postOf_6, jb_ite, rX_n (by omega), h.eq.2.2.1, if_pos c, sM_within, bM_postOf_15, jb_ite, if_neg d, sM_no2, bM_postOf_24]
      exact F
  · rw [if_neg c, sX_refuse2, bX_postOf_28, bM_postOf_0, sM_isPost, bM_postOf_6, jb_ite, rX_n (by omega), h.eq.2.2.1, if_neg c, sM_no2, bM_postOf_24]
    exact F
theorem p_says (h : INV K w) : Both mX_says mM_says [jR 0, jI x, jI y, jX, jX] [jR 45, jI x, jI y, jX] K w := by
  unfold Both
  have k := h.wk
  rw [bX_says_0, sX_isShelf, bX_says_4, jb_ite]
  by_cases c1 : 0 ≤ x ∧ x < 8
  · have d := h.sh.1 x c1.1 c1.2
    have e1 := h.m53 c1
    rw [if_pos c1, sX_isKind, bX_says_11, jb_ite]
    by_cases c2 : 0 ≤ y ∧ y < 6
    · have M : ∀ u, u 53 = w 53 → ∀ Q, AW mM_says 0 [jR 45, jI x, jI y, jX] [] u Q = AW mM_says 28 [jR 45, jI x, jI y, jX] [jI (jb (0 ≤ w 23 x ∧ w 23 x ≤ 4))] u Q := by
        intro u hu Q
        rw [bM_says_0, sM_isShelf, bM_says_4, jb_ite, if_pos c1, sM_within, bM_says_13, jb_ite, if_pos (by omega), sM_isRow c1, hu, e1]
      rw [if_pos c2, sS_contentOf, if_pos c1, bX_says_29]
      by_cases c3 : w 23 x = -1
      · rw [if_pos c3, sX_refuse4, bX_says_41, M _ (rX_n (by omega)), bM_says_28, jb_ite, if_neg (by omega), if_pos c1, rX_n (by omega), e1, if_pos (by omega), sM_no4, bM_says_53]
        exact h.ref (by omega) (by omega)
      · rw [if_neg c3, sL_hasPost, bX_says_58, jb_ite, n32s (by omega) (by omega)]
        by_cases c4 : 0 ≤ w 23 x - 10 ∧ w 23 x - 10 < w 1 3
        · have V := h.vm (SX.r (w := w))
          have a := V.pt c4
          have N : ∀ u, VM u w → u 53 = w 53 → ∀ Q, AW mM_says 0 [jR 45, jI x, jI y, jX] [] u Q = (if undB (w 3 (w 23 x - 10)) y then (if y = 0 then Q (jI (w 4 (w 23 x - 10))) u else AW mM_says 99 [jR 45, jI x, jI y, jI (w 23 x - 10)] [] (mN u) Q) else Q (jI (-3)) (rM u (-3))) := by
            intro u hu hv Q
            have a' := hu.pt c4
            rw [M u hv, bM_says_28, jb_ite, if_neg (by omega), if_pos c1, hv, e1, if_neg (by omega), if_pos c1, n32s (by omega) (by omega), if_pos (by omega), sM_isUnder, bM_says_74, jb_ite, a'.1.1]
            by_cases q : undB (w 3 (w 23 x - 10)) y
            · rw [if_pos q, if_pos q]
              by_cases q2 : y = 0
              · rw [if_pos q2, if_pos q2, if_pos (by omega), a'.1.2.1]
              · rw [if_neg q2, if_neg q2, hu.see]
            · rw [if_neg q, if_neg q, sM_no3, bM_says_83]
          rw [if_pos c4, if_pos (by omega), sX_isKindUnder, bX_says_75, jb_ite]
          by_cases q : undB (w 3 (w 23 x - 10)) y
          · rw [if_pos q]
            by_cases q2 : y = 0
            · rw [if_pos q2, if_pos (by omega), bX_says_108, N w V rfl, if_pos q, if_pos q2]
              exact h.fin rfl
            · have V' := h.vm (SX.xN (w := w))
              rw [if_neg q2, bX_armAsThingsAre_0, h.1.see, bX_armAsThingsAre_11, h.1.armN c4, bX_armAsThingsAre_16, bX_says_108, N _ V' (xN_n (by omega)), if_pos q, if_neg q2, bM_says_99, V'.armN c4, bM_says_104]
              exact h.q SX.xN (h.2.2.s (xN_n (by omega)) (xN_n (by omega))) SMo.mN rfl
          · have V'' : VM (rX w (-3)) w := ⟨h.1, h.2.1.cg (fun o q => rX_n (by omega)) (fun f _ => by rw [rX_n (by omega)]) (fun _ _ => rfl)⟩
            rw [if_neg q, sX_refuse3, bX_says_84, N _ V'' (rX_n (by omega)), if_neg q]
            exact h.ref (by omega) (by omega)
        · rw [if_neg c4, sX_refuse3, bX_says_84, M _ (rX_n (by omega)), bM_says_28, jb_ite, if_pos (by omega), sM_no3, bM_says_37]
          exact h.ref (by omega) (by omega)
    · rw [if_neg c2, sX_refuse2, bX_says_20, bM_says_0, sM_isShelf, bM_says_4, jb_ite, if_pos c1, sM_within, bM_says_13, jb_ite, if_neg (by omega), sM_no2, bM_says_22]
      exact h.ref (by omega) (by omega)
  · rw [if_neg c1, sX_refuse2, bX_says_20, bM_says_0, sM_isShelf, bM_says_4, jb_ite, if_neg c1, sM_no2, bM_says_22]
    exact h.ref (by omega) (by omega)
end SS
