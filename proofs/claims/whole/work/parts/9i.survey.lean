/-! the survey -/
def SV (w u : jW) : Prop := SX w u ∧ u 30 0 = rk w 67 ∧ u 30 2 = w 1 3 ∧ (∀ c, dryB (w 1 0) (w 2) c → u 31 (rk w c) = c) ∧ ∀ p c, 0 ≤ p → p < w 1 3 → dryB (w 1 0) (w 2) c → u 32 (p * 49 + rk w c) = armO w p c
/-- when those below c are seen -/
def SVc (w u : jW) (c : Int) : Prop := (SX w u ∧ u 30 9 = w 30 9 ∧ u 37 = w 37) ∧ u 30 0 = rk w c ∧ u 30 2 = w 1 3 ∧ (∀ d, dryB (w 1 0) (w 2) d → d < c → u 31 (rk w d) = d) ∧ ∀ q d, 0 ≤ q → q < w 1 3 → dryB (w 1 0) (w 2) d → d < c → u 32 (q * 49 + rk w d) = armO w q d
/-- when c is seen by those below p too -/
def SVi (w u : jW) (c p : Int) : Prop := (SX w u ∧ u 30 9 = w 30 9 ∧ u 37 = w 37) ∧ u 30 0 = rk w c ∧ u 30 2 = w 1 3 ∧ (u 28 1 = 1 ∧ u 29 0 = c) ∧ (∀ d, dryB (w 1 0) (w 2) d → d ≤ c → u 31 (rk w d) = d) ∧ ∀ q d, 0 ≤ q → q < w 1 3 → dryB (w 1 0) (w 2) d → (d < c ∨ (d = c ∧ q < p)) → u 32 (q * 49 + rk w d) = armO w q d
section SA
variable {w u : jW} {Q : jV → jW → Prop} {K c p x : Int}
theorem OKC.pt (h : OKC w) (hp : 0 ≤ p ∧ p < w 1 3) : (0 ≤ w 3 p ∧ w 3 p ≤ 5) ∧ (0 ≤ w 4 p ∧ w 4 p ≤ 9) ∧ cellB (w 1 0) (w 5 p) ∧ c67 (w 5 p) := by
  obtain ⟨a, b, d⟩ := h.1.2.2.2.2.2.1 p hp.1 hp.2
  exact ⟨a, b, d, d.1, cell67 h.1.1.2 d⟩
theorem SX.o (h : SX w u) (hO : OKC w) : OKC u := hO.cg (fun o q => h o (by omega))
theorem sK_57 (h : OKC w) (hc : dryB (w 1 0) (w 2) c) (hQ : ∀ u x4 y5, SVi w u c (w 1 3) → AW mK_survey 15 [jR 30, jR 1, jR 28, jI (c + 1), x4, y5] [] (jup u 30 0 (rk w c + 1)) Q) (m : Nat) :
    ∀ (p : Int) (u : jW) (y5 : jV), (w 1 3 - p).toNat = m → 0 ≤ p → p ≤ w 1 3 → SVi w u c p → AW mK_survey 57 [jR 30, jR 1, jR 28, jI c, jI p, y5] [] u Q := by
  have h3 : 0 ≤ w 1 3 ∧ w 1 3 ≤ 8 := h.1.2.2.1
  have hw : 3 ≤ w 1 0 ∧ w 1 0 ≤ 7 := h.1.1
  have r := rk_49 hw.2 hc
  have c67' := cell67 hw.2 hc.1
  have c0 := hc.1.1
  induction m with
  | zero =>
    intro p u y5 hm h0 hp S
    have e : p = w 1 3 := by omega
    rw [e] at S
    rw [bK_survey_57, S.2.2.1, if_neg (by omega), S.2.1, n32s (x := c + 1) (by omega) (by omega), n32s (x := rk w c + 1) (by omega) (by omega)]
    exact hQ u _ _ S
  | succ m ih =>
    intro p u y5 hm h0 hp S
    obtain ⟨S1, S2, S3, S4, S5, S6⟩ := S
    have pt := h.pt (p := p) ⟨h0, by omega⟩
    have e3 : u 3 = w 3 := S1.1 3 (by omega)
    have e4 : u 4 = w 4 := S1.1 4 (by omega)
    have e5 : u 5 = w 5 := S1.1 5 (by omega)
    have A : armR (u 3 p) (u 4 p) (u 5 p) (u 28 1) (u 29) = armO w p c := by
      rw [e3, e4, e5, S4.1]
      unfold armO
      refine armR_cg (by omega) (fun i q1 q2 => ?_)
      rw [show i = 0 by omega]; exact S4.2
    rw [bK_survey_57, S3, if_pos (by omega), if_pos (by omega), if_pos (by omega), if_pos (by omega), sG_armBy (by omega) (by omega) (fun i q1 q2 => by rw [show i = 0 by omega, S4.2]; exact ⟨c0, c67'⟩) (by rw [e5]; exact pt.2.2.2), A, bK_survey_91, S2, n32s (x := p * 49) (by omega) (by omega), n32s (x := p * 49 + rk w c) (by omega) (by omega), if_pos (by omega), n32s (x := p + 1) (by omega) (by omega)]
    refine ih (p + 1) _ _ (by omega) (by omega) (by omega) ?_
    refine ⟨⟨S1.1.t (SX.j (by omega)), by rw [jupn (by omega)]; exact S1.2.1, by rw [jupn (by omega)]; exact S1.2.2⟩, by rw [jupn (by omega)]; exact S2, by rw [jupn (by omega)]; exact S3, ⟨by rw [jupn (by omega)]; exact S4.1, by rw [jupn (by omega)]; exact S4.2⟩, fun d q1 q2 => by rw [jupn (by omega)]; exact S5 d q1 q2, ?_⟩
    intro q d q1 q2 q3 q4
    have rd := rk_49 hw.2 q3
    rw [jups]
    by_cases e : d = c ∧ q = p
    · rw [e.1, e.2, up1_s]
    · have ne : q * 49 + rk w d ≠ p * 49 + rk w c := by
        intro t
        have qp : q = p := by omega
        rw [qp] at t
        exact e ⟨rk_inj q3 hc (by omega), qp⟩
      rw [up1_n ne]
      exact S6 q d q1 q2 q3 (by omega)
theorem sK_15 (h : OKC w) (hQ : ∀ u, SVc w u 67 → Q (jI 0) u) (m : Nat) :
    ∀ (c : Int) (u : jW) (y4 y5 : jV), (67 - c).toNat = m → 0 ≤ c → c ≤ 67 → SVc w u c → AW mK_survey 15 [jR 30, jR 1, jR 28, jI c, y4, y5] [] u Q := by
  have h3 : 0 ≤ w 1 3 ∧ w 1 3 ≤ 8 := h.1.2.2.1
  have hw : 3 ≤ w 1 0 ∧ w 1 0 ≤ 7 := h.1.1
  induction m with
  | zero =>
    intro c u y4 y5 hm h0 hc S
    have e : c = 67 := by omega
    rw [e] at S
    rw [bK_survey_15, if_neg (by omega)]
    exact hQ u S
  | succ m ih =>
    intro c u y4 y5 hm h0 hc S
    obtain ⟨S1, S2, S3, S4, S5⟩ := S
    have e1 : u 1 = w 1 := S1.1 1 (by omega)
    have e2 : u 2 = w 2 := S1.1 2 (by omega)
    have rs := rk_s (v := w) h0
    rw [bK_survey_15, if_pos (by omega), sL_isDry (by rw [e1]; exact hw.2), bK_survey_27, jb_ite, e1, e2, n32s (x := c + 1) (by omega) (by omega)]
    by_cases d : dryB (w 1 0) (w 2) c
    · have r := rk_49 hw.2 d
      rw [show dryI w c = 1 from if_pos d] at rs
      rw [if_pos d, S2, if_pos (by omega), if_pos (by omega), sG_seeOne, bK_survey_54]
      refine sK_57 h d (fun u' x4 y5 S' => ?_) _ 0 _ _ rfl (by omega) h3.1 ?_
      · obtain ⟨T1, T2, T3, T4, T5, T6⟩ := S'
        refine ih (c + 1) _ _ _ (by omega) (by omega) (by omega) ?_
        refine ⟨⟨T1.1.t (SX.j (by omega)), by rw [jups, up1_n (by omega)]; exact T1.2.1, by rw [jupn (by omega)]; exact T1.2.2⟩, by rw [jups, up1_s]; omega, by rw [jups, up1_n (by omega)]; exact T3, fun d q1 q2 => by rw [jupn (by omega)]; exact T5 d q1 (by omega), fun q d q1 q2 q3 q4 => by rw [jupn (by omega)]; exact T6 q d q1 q2 q3 (by omega)⟩
      · refine ⟨⟨S1.1.t (((SX.j (by omega)).t (SX.j (by omega))).t (SX.j (by omega))), by rw [jupn (by omega), jupn (by omega), jupn (by omega)]; exact S1.2.1, by rw [jupn (by omega), jupn (by omega), jupn (by omega)]; exact S1.2.2⟩, by rw [jupn (by omega), jupn (by omega), jupn (by omega)]; exact S2, by rw [jupn (by omega), jupn (by omega), jupn (by omega)]; exact S3, ⟨by rw [jups, up1_s], by rw [jupn (by omega), jups, up1_s]⟩, ?_, ?_⟩
        · intro d' q1 q2
          rw [jupn (by omega), jupn (by omega), jups]
          by_cases e : d' = c
          · rw [e, up1_s]
          · have l := rk_lt q1 (b := c) (by omega)
            rw [up1_n (by omega)]
            exact S4 d' q1 (by omega)
        · intro q d' q1 q2 q3 q4
          rw [jupn (by omega), jupn (by omega), jupn (by omega)]
          exact S5 q d' q1 q2 q3 (by omega)
    · rw [show dryI w c = 0 from if_neg d, Int.add_zero] at rs
      rw [if_neg d]
      have N : ∀ d', dryB (w 1 0) (w 2) d' → d' < c + 1 → d' < c := by
        intro d' q1 q2
        by_cases e : d' = c
        · rw [e] at q1; exact absurd q1 d
        · omega
      exact ih (c + 1) u _ _ (by omega) (by omega) (by omega) ⟨S1, by rw [rs]; exact S2, S3, fun d' q1 q2 => S4 d' q1 (N d' q1 q2), fun q d' q1 q2 q3 q4 => S5 q d' q1 q2 q3 (N d' q3 q4)⟩
theorem sK_survey (h : OKC w) (L : LK K w) (hQ : ∀ u, SV w u → LK K u → Q (jI 0) u) : AW mK_survey 0 [jR 30, jR 1, jR 28, jX, jX, jX] [] w Q := by
  have hw : 3 ≤ w 1 0 ∧ w 1 0 ≤ 7 := h.1.1
  rw [bK_survey_0]
  refine sK_15 h (fun u S => ?_) _ 0 _ _ _ rfl (by omega) (by omega) ?_
  · refine hQ u ⟨S.1.1, S.2.1, S.2.2.1, fun c q => S.2.2.2.1 c q (cell67 hw.2 q.1), fun p c q1 q2 q3 => S.2.2.2.2 p c q1 q2 q3 (cell67 hw.2 q3.1)⟩ ?_
    unfold LK at L ⊢
    rw [S.1.2.1, S.1.2.2]; exact L
  · refine ⟨⟨(SX.j (by omega)).t (SX.j (by omega)), by rw [jups, up1_n (by omega), jups, up1_n (by omega)], by rw [jupn (by omega), jupn (by omega)]⟩, by rw [jups, up1_n (by omega), jups, up1_s]; rfl, by rw [jups, up1_s], fun d q1 q2 => by have := q1.1.1; omega, fun q d q1 q2 q3 q4 => by have := q3.1.1; omega⟩
end SA
