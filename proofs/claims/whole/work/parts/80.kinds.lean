def armK (v : jW) (p k : Int) : Int := armR k (v 4 p) (v 5 p) (lsN (v 7) (v 1 4).toNat) (lsF (v 6) (v 7) (fun _ => 0) (v 1 4).toNat)
section SV
variable {w v u : jW} {Q : jV → jW → Prop} {K x y z a b c d e n p k : Int}
theorem sX_kinds (h : OKC w) (hp : 0 ≤ p ∧ p < w 1 3) (m : Nat) : ∀ j : Nat, 6 - j = m → j ≤ 6 →
    AW mX_kinds 43 [jR 0, jI p, jI a, jI (bR (armK w p) a j), jI j] [] (xN w) Q = Q (jI (bR (armK w p) a 6)) (xN w) := by
  have k : 0 ≤ w 1 3 ∧ w 1 3 ≤ 8 := h.1.2.2.1
  have k4 : 0 ≤ w 1 4 ∧ w 1 4 ≤ 4 := h.1.2.2.2.1
  obtain ⟨a1, b1, d⟩ := h.1.2.2.2.2.2.1 p hp.1 hp.2
  have d67 := cell67 h.1.1.2 d
  have ln := lsN_in (ws := w 7) (w 1 4).toNat
  have lf := lsF_in (wc := w 6) (ws := w 7) (f := w 29) (P := c67) (w 1 4).toNat (fun i q1 q2 => (h.kt ⟨q1, by omega⟩).2.2)
  have cg := (ls_cg (wc := w 6) (ws := w 7) (f := w 29) (wc' := w 6) (ws' := w 7) (g := fun _ => 0) (w 1 4).toNat (fun _ _ _ => ⟨rfl, rfl⟩)).2
  have e28 : xN w 28 1 = lsN (w 7) (w 1 4).toNat := by unfold xN; simp (disch := omega) only [jups, up1_s]
  have e29 : xN w 29 = lsF (w 6) (w 7) (w 29) (w 1 4).toNat := by unfold xN; simp (disch := omega) only [jupn, jwr_s]
  induction m with
  | zero =>
    intro j hm hj
    rw [bX_kinds_43, if_neg (by omega), show j = 6 by omega]
  | succ m ih =>
    intro j hm hj
    have ih' := ih (j + 1) (by omega) (by omega)
    rw [bX_kinds_43, if_pos (by omega), if_pos (by omega), if_pos (by omega), xN_n (by omega), xN_n (by omega), sG_armBy (by omega) (by omega) (by rw [e28, e29]; exact lf) ⟨d.1, d67⟩, bX_kinds_77, e28, e29, armR_cg ln.1 cg, n32s (by omega) (by omega)]
    by_cases q : armK w p (j : Int) = a
    · have q' := q; unfold armK at q'; rw [if_pos q']; rw [bR_y q] at ih'; exact ih'
    · have q' := q; unfold armK at q'; rw [if_neg q']; rw [bR_n q] at ih'; exact ih'
theorem sM_kinds (h : VM w v) (hp : 0 ≤ p ∧ p < v 1 3) (hQ : Q (jI (bR (armK v p) a 6)) (mN w)) (m : Nat) : ∀ (j : Nat) (u : jW), 6 - j = m → j ≤ 6 → (∀ o, o ≠ 47 → u o = mN w o) → (∀ i, i ≠ p → u 47 i = w 47 i) →
    AW mM_kinds 43 [jR 45, jI p, jI a, jI (w 47 p), jI (bR (armK v p) a j), jI j] [] u Q := by
  have k := h.wk
  have e := h.eq.2.2.2
  obtain ⟨⟨a1, a2, a3⟩, b, c1, d, e9⟩ := h.pt hp
  have ln := lsN_in (ws := w 51) (w 45 7).toNat
  have lf := lsF_in (wc := w 50) (ws := w 51) (f := w 59) (P := c67) (w 45 7).toNat (fun i q1 q2 => by
    have := h.kt (p := i) ⟨q1, by omega⟩
    rw [this.1.1]; exact this.2.2.2)
  have cg := ls_cg (wc := w 50) (ws := w 51) (f := w 59) (wc' := v 6) (ws' := v 7) (g := fun _ => 0) (w 45 7).toNat (fun i q1 q2 => (h.kt (p := i) ⟨q1, by omega⟩).1)
  have e24 : mN w 45 24 = lsN (w 51) (w 45 7).toNat := by unfold mN; simp (disch := omega) only [jups, up1_s]
  have e59 : mN w 59 = lsF (w 50) (w 51) (w 59) (w 45 7).toNat := by unfold mN; simp (disch := omega) only [jupn, jwr_s]
  induction m with
  | zero =>
    intro j u hm hj h1 h2
    have E : jup u 47 p (w 47 p) = mN w := by
      funext o
      by_cases q : o = 47
      · subst q
        rw [jups, mN_n (by omega)]
        funext i
        unfold up1
        split
        · rename_i t; rw [t]
        · rename_i t; exact h2 i t
      · rw [jupn q, h1 o q]
    rw [bM_kinds_43, if_neg (by omega), if_pos (by omega), E, show j = 6 by omega]
    exact hQ
  | succ m ih =>
    intro j u hm hj h1 h2
    have ih' := ih (j + 1) (jup u 47 p (j : Int)) (by omega) (by omega) (fun o q => by rw [jupn q, h1 o q]) (fun i q => by rw [jups, up1_n q, h2 i q])
    have g : ∀ o, o ≠ 47 → jup u 47 p (j : Int) o = mN w o := fun o q => by rw [jupn q, h1 o q]
    rw [bM_kinds_43, if_pos (by omega), if_pos (by omega), sM_armOf (by omega) (by rw [g 45 (by omega)]; omega) (by rw [g 45 (by omega)]; omega) (by rw [g 45 (by omega), g 59 (by omega), e24, e59]; exact lf) (by rw [g 49 (by omega), mN_n (by omega), a3]; exact e9), bM_kinds_63, g 45 (by omega), g 48 (by omega), g 49 (by omega), g 59 (by omega), e24, e59, jups, up1_s, mN_n (by omega), mN_n (by omega), armR_cg ln.1 cg.2, cg.1, a2, a3, e, n32s (by omega) (by omega)]
    by_cases q : armK v p (j : Int) = a
    · have q' := q; unfold armK at q'; rw [if_pos q']; rw [bR_y q] at ih'; exact ih'
    · have q' := q; unfold armK at q'; rw [if_neg q']; rw [bR_n q] at ih'; exact ih'
theorem p_kinds (h : INV K w) (hy : in32 y) : Both mX_kinds mM_kinds [jR 0, jI x, jI y, jX, jX] [jR 45, jI x, jI y, jX, jX, jX] K w := by
  unfold Both
  have k := h.wk
  have F := h.ref (a := -2) (by omega) (by omega)
  rw [bX_kinds_0, sL_hasPost, bX_kinds_9, jb_ite]
  by_cases c : 0 ≤ x ∧ x < w 1 3
  · rw [if_pos c, sX_isArm, bX_kinds_17, jb_ite]
    by_cases d : -1 ≤ y ∧ y ≤ 8
    · have V := h.vm (SX.xN (w := w))
      rw [if_pos d, h.1.see, bX_kinds_38]
      refine (sX_kinds h.1 c _ 0 rfl (by omega)).mpr ?_
      rw [bM_kinds_0, V.isPost, bM_kinds_6, jb_ite, if_pos c, sM_within, bM_kinds_16, jb_ite, if_pos d, V.see, bM_kinds_30, if_pos (by omega), mN_n (by omega)]
      refine sM_kinds V c ?_ _ 0 _ rfl (by omega) (fun _ _ => rfl) (fun i _ => by rw [mN_n (by omega)])
      exact h.q SX.xN (h.2.2.s (xN_n (by omega)) (xN_n (by omega))) SMo.mN rfl
    · rw [if_neg d, sX_refuse2, bX_kinds_26, bM_kinds_0, sM_isPost, bM_kinds_6, jb_ite, rX_n (by omega), h.eq.2.2.1, if_pos c, sM_within, bM_kinds_16, jb_ite, if_neg d, sM_no2, bM_kinds_25]
      exact F
  · rw [if_neg c, sX_refuse2, bX_kinds_26, bM_kinds_0, sM_isPost, bM_kinds_6, jb_ite, rX_n (by omega), h.eq.2.2.1, if_neg c, sM_no2, bM_kinds_25]
    exact F
end SV
