theorem jmv_z {w : jW} {p q : Nat} {n : Int} : jmv w p 0 q 0 n q = fun k => if 0 ≤ k ∧ k < n then w p k else w q k := by
  funext k
  rw [jmv_self]
  by_cases h : 0 ≤ k ∧ k < n
  · rw [if_pos (by omega), if_pos h]; congr 1; omega
  · rw [if_neg (by omega), if_neg h]
theorem LOk.cg {n home posts walkers : Int} {bg kd ow ce wc ws bg' kd' ow' ce' wc' ws' : Int → Int} (h : LOk n home posts walkers bg kd ow ce wc ws) (h1 : Eqn 67 bg' bg) (h2 : Eqn posts kd' kd) (h3 : Eqn posts ow' ow) (h4 : Eqn posts ce' ce) (h5 : Eqn walkers wc' wc) (h6 : Eqn walkers ws' ws) : LOk n home posts walkers bg' kd' ow' ce' wc' ws' := by
  obtain ⟨a, ⟨b, b'⟩, c, d, e, f, g⟩ := h
  refine ⟨a, ⟨b, ?_⟩, c, d, ?_, ?_, ?_⟩
  · rw [h1 home b.1 (cell67 a.2 b)]; exact b'
  · intro c q1 q2; rw [h1 c q1 q2]; exact e c q1 q2
  · intro p q1 q2; rw [h2 p q1 q2, h3 p q1 q2, h4 p q1 q2]; exact f p q1 q2
  · intro p q1 q2
    obtain ⟨⟨g1, g2⟩, g3⟩ := g p q1 q2
    rw [h5 p q1 q2, h6 p q1 q2]
    refine ⟨⟨g1, ?_⟩, g3⟩
    rw [h1 (wc p) g1.1 (cell67 a.2 g1)]; exact g2
theorem Eqn.i {N M : Int} {f g : Int → Int} (h : N ≤ M) : Eqn N (fun k => if 0 ≤ k ∧ k < M then f k else g k) f := by
  intro k h0 h1
  show (if 0 ≤ k ∧ k < M then f k else g k) = f k
  rw [if_pos (by omega)]
theorem Eqn.sym {N : Int} {f g : Int → Int} (h : Eqn N f g) : Eqn N g f := fun k h0 h1 => (h k h0 h1).symm
theorem Eqn.tr {N : Int} {f g k : Int → Int} (h : Eqn N f g) (h' : Eqn N g k) : Eqn N f k := fun i h0 h1 => (h i h0 h1).trans (h' i h0 h1)
section SM
variable {w : jW} {Q : jV → jW → Prop} {K x y z k i j n p q b : Int}
theorem INV.b46 (h : INV K w) : ∀ c, 0 ≤ c → c < 67 → w 46 c = 0 ∨ w 46 c = 1 := by
  intro c h0 h1
  rw [h.2.1.2.1 c h0 h1]
  exact h.1.1.2.2.2.2.1 c h0 h1
theorem p_image (h : INV K w) : Both mX_image mM_image [jR 0] [jR 45] K w := by
  unfold Both
  obtain ⟨k1, k2, k3⟩ := h.wk
  rw [bX_image_0, bL_takeFrom_r8_r1_0]
  simp only [if_true, if_false, Int.reduceEq, Int.reduceLT, Int.reduceLE, Int.reduceNeg, Int.reduceSub, Int.reduceAdd, Int.reduceMul, true_and, and_true, and_self, or_true, true_or, or_false, false_or, or_self, if_pos (show (0 : Int) ≤ 67 by omega), if_pos (show (0 : Int) ≤ 8 by omega), if_pos (show (0 : Int) ≤ 4 by omega), bX_image_11]
  rw [bM_image_0]
  refine sM_keep_57 ?_ ?_
  · simp (disch := omega) only [jupn, jmv_ne]
    exact h.b46
  · intro g hg g1 g2 g3 g4 g5
    unfold KG at hg
    simp (disch := omega) only [jupn, jmv_ne, jups, up1_n] at hg g1 g2 g3 g4 g5
    rw [bM_image_13]
    obtain ⟨hc, hm, hl⟩ := h.k
    refine ⟨rfl, ⟨?_, ?_, ?_⟩, ?_⟩
    · unfold OKC at hc ⊢
      simp (disch := omega) only [jwr_n, jmv_ne, jupn, jmv_z, jups, up1_n, up1_s]
      obtain ⟨h1, h2, h3, h4⟩ := hc
      refine ⟨h1, h2, h3, Or.inr ⟨trivial, ?_⟩⟩
      exact h1.cg (Eqn.i (by omega)) (Eqn.i (by omega)) (Eqn.i (by omega)) (Eqn.i (by omega)) (Eqn.i (by omega)) (Eqn.i (by omega))
    · unfold RM Ra at hm ⊢
      simp (disch := omega) only [jwr_n, jwr_s, jmv_ne, jupn, jmv_z, jups, up1_n, up1_s]
      obtain ⟨⟨a1, a2, a3, a4, a5, a6, a7⟩, h2, h3, h4, h5, h6, h7, h8, h9, h10, h11, h12, h13⟩ := hm
      refine ⟨⟨a1, a2, a3, a4, a5, a6, trivial⟩, h2, h3, h4, h5, h6, h7, h8, h9, h10, h11, h12, fun _ => ?_⟩
      unfold Rk
      simp (disch := omega) only [up1_n, up1_s]
      obtain ⟨t1, t2, t3⟩ := hg
      refine ⟨?_, ?_, ?_, ?_, ?_, ?_, g1.trans a1, g2.trans a2, g3.trans a4, g4.trans a5, g5.trans a3⟩
      · exact Eqn.tr (fun c q1 q2 => (t1 c q1 q2).trans (h2 c q1 q2)) (Eqn.i (by omega)).sym
      · exact Eqn.tr (fun c q1 q2 => (t2 c q1 (by omega)).1.trans (h3 c q1 q2)) (Eqn.i (by omega)).sym
      · exact Eqn.tr (fun c q1 q2 => (t2 c q1 (by omega)).2.1.trans (h4 c q1 q2)) (Eqn.i (by omega)).sym
      · exact Eqn.tr (fun c q1 q2 => (t2 c q1 (by omega)).2.2.trans (h5 c q1 q2)) (Eqn.i (by omega)).sym
      · exact Eqn.tr (fun c q1 q2 => (t3 c q1 (by omega)).1.trans (h6 c q1 q2)) (Eqn.i (by omega)).sym
      · exact Eqn.tr (fun c q1 q2 => (t3 c q1 (by omega)).2.trans (h7 c q1 q2)) (Eqn.i (by omega)).sym
    · unfold LK at hl ⊢
      simp (disch := omega) only [jwr_n, jmv_ne, jupn]
      exact hl
    · intro o ho
      simp (disch := omega) only [jwr_n, jmv_ne, jupn]
theorem p_back (h : INV K w) : Both mX_back mM_back [jR 0] [jR 45, jX] K w := by
  unfold Both
  obtain ⟨k1, k2, k3⟩ := h.wk
  obtain ⟨e1, e2, e3, e4, e5, e6, e7⟩ := h.eq
  rw [bX_back_0]
  by_cases c0 : w 0 3 = 0
  · rw [if_pos c0, sX_refuse5, bX_back_13, bM_back_0, rX_n (by omega), e7, if_pos c0, sM_no5, bM_back_13]
    exact h.ref (by omega) (by omega)
  · have c1 : w 0 3 = 1 := by
      have := h.1.2.2.2
      omega
    have lk : LOk (w 8 0) (w 8 1) (w 8 3) (w 8 4) (w 9) (w 10) (w 11) (w 12) (w 13) (w 14) := by
      rcases h.1.2.2.2 with q | q
      · exact absurd q c0
      · exact q.2
    have rk := h.2.1.2.2.2.2.2.2.2.2.2.2.2.2 c1
    obtain ⟨r1, r2, r3, r4, r5, r6, r7, r8, r9, r10, r11⟩ := rk
    have p8 : 0 ≤ w 8 3 ∧ w 8 3 ≤ 8 := lk.2.2.1
    have w8 : 0 ≤ w 8 4 ∧ w 8 4 ≤ 4 := lk.2.2.2.1
    rw [if_neg c0, bL_takeFrom_r8_0]
    simp only [if_true, if_false, Int.reduceEq, Int.reduceLT, Int.reduceLE, Int.reduceNeg, Int.reduceSub, Int.reduceAdd, Int.reduceMul, true_and, and_true, and_self, or_true, true_or, or_false, false_or, or_self, if_pos (show (0 : Int) ≤ 67 by omega), if_pos (show (0 : Int) ≤ 8 by omega), if_pos (show (0 : Int) ≤ 4 by omega), bX_back_25, bS_dropPostsFrom_0]
    rw [sS_drop (by simp (disch := omega) only [jmv_ne, jupn, jups, up1_n, up1_s]; exact p8) _ 0 _ rfl (by omega) (by omega), bX_back_39, bM_back_0]
    simp (disch := omega) only [jwr_n, jmv_ne, jupn, jups, up1_n, up1_s]
    rw [e7, if_neg c0]
    refine sM_again_57 ?_ ?_
    · intro c q1 q2
      simp (disch := omega) only [jwr_n, jmv_ne, jupn]
      rw [r1 c q1 q2]
      exact lk.2.2.2.2.1 c q1 q2
    · intro v hv
      rw [bM_back_22]
      unfold AG at hv
      obtain ⟨v1, v2, v3, v4, v5⟩ := hv
      unfold up5
      simp (disch := omega) only [jwr_n, jwr_s, jmv_ne, jupn] at v2 v3 v4 v5 ⊢
      rw [sM_drop (b := w 8 3) p8 _ 0 _ rfl (by simp (disch := omega) only [jups, up1_n, up1_s]; exact r9) (by omega) (by omega)]
      have u0 := v1 0 (by omega)
      have u1 := v1 1 (by omega)
      have u2 := v1 2 (by omega)
      have u3 := v1 3 (by omega)
      have u4 := v1 4 (by omega)
      have u5 := v1 5 (by omega)
      have u6 := v1 6 (by omega)
      have u7 := v1 7 (by omega)
      have u8 := v1 8 (by omega)
      have u9 := v1 9 (by omega)
      have u10 := v1 10 (by omega)
      have u11 := v1 11 (by omega)
      have u12 := v1 12 (by omega)
      have u13 := v1 13 (by omega)
      have u14 := v1 14 (by omega)
      have u23 := v1 23 (by omega)
      have u24 := v1 24 (by omega)
      have u25 := v1 25 (by omega)
      have u26 := v1 26 (by omega)
      have u27 := v1 27 (by omega)
      have u30 := v1 30 (by omega)
      have u37 := v1 37 (by omega)
      have u41 := v1 41 (by omega)
      have u52 := v1 52 (by omega)
      have u53 := v1 53 (by omega)
      have u54 := v1 54 (by omega)
      have u55 := v1 55 (by omega)
      have u56 := v1 56 (by omega)
      have u57 := v1 57 (by omega)
      simp (disch := omega) only [jwr_n, jwr_s, jmv_ne, jmv_z, jupn, jups] at u0 u1 u2 u3 u4 u5 u6 u7 u8 u9 u10 u11 u12 u13 u14 u23 u24 u25 u26 u27 u30 u37 u41 u52 u53 u54 u55 u56 u57
      obtain ⟨hc, hm, hl⟩ := h.k
      refine ⟨rfl, ⟨?_, ?_, ?_⟩, ?_⟩
      · unfold OKC SOk at hc ⊢
        simp (disch := omega) only [jwr_n, jwr_s, jmv_ne, jupn, jmv_z, jups, up1_n, up1_s, u0, u1, u2, u3, u4, u5, u6, u7, u8, u9, u10, u11, u12, u13, u14, u23, u24, u25, u26, u27]
        obtain ⟨h1, h2, ⟨h3, h3'⟩, h4⟩ := hc
        refine ⟨?_, h2, ⟨?_, h3'⟩, h4⟩
        · exact lk.cg (Eqn.i (by omega)) (Eqn.i (by omega)) (Eqn.i (by omega)) (Eqn.i (by omega)) (Eqn.i (by omega)) (Eqn.i (by omega))
        · intro s q1 q2
          have := h3 s q1 q2
          unfold dpf
          split <;> omega
      · unfold RM Ra Rk at hm ⊢
        simp (disch := omega) only [jwr_n, jwr_s, jmv_ne, jupn, jmv_z, jups, up1_n, up1_s, v2, u0, u1, u2, u3, u4, u5, u6, u7, u8, u9, u10, u11, u12, u13, u14, u23, u24, u25, u26, u27, u41, u52, u53, u54, u55, u56, u57]
        obtain ⟨⟨a1, a2, a3, a4, a5, a6, a7⟩, h2, h3, h4, h5, h6, h7, h8, h9, h10, h11, h12, h13⟩ := hm
        refine ⟨⟨r7, r8, r11, r9, r10, a6, a7⟩, ?_, ?_, ?_, ?_, ?_, ?_, h8, h9.dpf 0 _, h10, h11, h12, h13⟩
        · exact Eqn.tr (fun c q1 q2 => (v3 c q1 q2).trans (r1 c q1 q2)) (Eqn.i (by omega)).sym
        · exact Eqn.tr (fun c q1 q2 => (v4 c q1 (by omega)).1.trans (r2 c q1 q2)) (Eqn.i (by omega)).sym
        · exact Eqn.tr (fun c q1 q2 => (v4 c q1 (by omega)).2.1.trans (r3 c q1 q2)) (Eqn.i (by omega)).sym
        · exact Eqn.tr (fun c q1 q2 => (v4 c q1 (by omega)).2.2.trans (r4 c q1 q2)) (Eqn.i (by omega)).sym
        · exact Eqn.tr (fun c q1 q2 => (v5 c q1 (by omega)).1.trans (r5 c q1 q2)) (Eqn.i (by omega)).sym
        · exact Eqn.tr (fun c q1 q2 => (v5 c q1 (by omega)).2.trans (r6 c q1 q2)) (Eqn.i (by omega)).sym
      · unfold LK at hl ⊢
        simp (disch := omega) only [jwr_n, jmv_ne, jupn, u30, u37]
        exact hl
      · intro o ho
        simp (disch := omega) only [jwr_n, jmv_ne, jupn]
        rw [v1 o (by omega)]
        simp (disch := omega) only [jwr_n, jmv_ne, jupn]
end SM
