/-! told walks -/
def ntR (v : jW) (s n : Int) : Int := if whyR (v 23) s = 0 then (if n ≤ v 24 s then 0 else -2) else whyR (v 23) s
def wnR (v : jW) (s n k : Int) : Int := if 0 ≤ s ∧ s < 8 then (if 0 ≤ n ∧ n ≤ 40 then (if 0 ≤ k ∧ k < v 1 4 then ntR v s n else -2) else -2) else -2
def fwR (v : jW) (s : Int) : Nat → Int → Int → Int
  | 0, _, _ => -1
  | m + 1, a, i => if dryB (v 1 0) (v 2) (v 25 (40 * s + i)) ∧ stF a (v 25 (40 * s + i)) = 1 then fwR v s m (v 25 (40 * s + i)) (i + 1) else i
theorem fwR_y {v : jW} {s a i : Int} {m : Nat} (h : dryB (v 1 0) (v 2) (v 25 (40 * s + i)) ∧ stF a (v 25 (40 * s + i)) = 1) : fwR v s (m + 1) a i = fwR v s m (v 25 (40 * s + i)) (i + 1) := if_pos h
theorem fwR_n {v : jW} {s a i : Int} {m : Nat} (h : ¬ (dryB (v 1 0) (v 2) (v 25 (40 * s + i)) ∧ stF a (v 25 (40 * s + i)) = 1)) : fwR v s (m + 1) a i = i := if_neg h
theorem fwR_all {v : jW} {s : Int} (m : Nat) : ∀ a i, 0 ≤ i → fwR v s m a i = -1 → ∀ j, i ≤ j → j < i + (m : Int) → dryB (v 1 0) (v 2) (v 25 (40 * s + j)) := by
  induction m with
  | zero => intro a i _ _ j h1 h2; omega
  | succ m ih =>
    intro a i h0 h j h1 h2
    by_cases c : dryB (v 1 0) (v 2) (v 25 (40 * s + i)) ∧ stF a (v 25 (40 * s + i)) = 1
    · rw [fwR_y c] at h
      by_cases e : j = i
      · rw [e]; exact c.1
      · exact ih _ (i + 1) (by omega) h j (by omega) (by omega)
    · rw [fwR_n c] at h; omega
def pvR (v : jW) (s k i : Int) : Int := if i = 0 then v 6 k else v 25 (40 * s + (i - 1))
noncomputable def neI (v : jW) (s k i : Int) : Int := if disW v (v 1 1) (v 25 (40 * s + i)) < disW v (v 1 1) (pvR v s k i) then 1 else 0
theorem neI_in {v : jW} {s k i : Int} : 0 ≤ neI v s k i ∧ neI v s k i ≤ 1 := by unfold neI; split <;> omega
section TA
variable {w v : jW} {Q : jV → jW → Prop} {K s n k a : Int}
theorem VM.sh (h : VM w v) : SOk (v 1 3) (v 23) (v 24) (v 25) := h.1.2.2.1
theorem VM.m53 (h : VM w v) (hx : 0 ≤ s ∧ s < 8) : w 53 s = v 23 s := h.2.2.2.2.2.2.2.2.2.1 s hx.1 hx.2
theorem VM.m54 (h : VM w v) (hx : 0 ≤ s ∧ s < 8) : w 54 s = v 24 s := h.2.2.2.2.2.2.2.2.2.2.1 s hx.1 hx.2
theorem VM.m55 (h : VM w v) (hx : 0 ≤ s ∧ s < 320) : w 55 s = v 25 s := h.2.2.2.2.2.2.2.2.2.2.2.1 s hx.1 hx.2
theorem VM.noTold (h : VM w v) (hs : 0 ≤ s ∧ s < 8) : AW mM_noTold 0 [jR 45, jI s, jI n] [] w Q = Q (jI (ntR v s n)) w := by
  have d := h.sh.1 s hs.1 hs.2
  rw [bM_noTold_0, sM_isRow hs, bM_noTold_5, jb_ite, h.m53 hs]
  unfold ntR whyR
  rw [if_pos hs]
  by_cases c : 0 ≤ v 23 s ∧ v 23 s ≤ 4
  · rw [if_pos c, if_pos hs, h.m54 hs, if_pos (by omega : v 23 s < 10), if_neg (by omega : ¬ v 23 s = -1), if_pos rfl]
    by_cases c2 : v 24 s < n
    · rw [if_pos c2, if_neg (by omega)]
    · rw [if_neg c2, if_pos (by omega)]
  · rw [if_neg c, bM_noRow_0, if_pos hs, h.m53 hs]
    by_cases c3 : v 23 s < 10
    · rw [if_pos c3, if_pos c3, if_pos hs, if_pos (by omega), bM_noTold_13, if_pos (by omega : v 23 s = -1), if_neg (by omega), if_pos hs]
    · rw [if_neg c3, if_neg c3, bM_noTold_13, if_neg (by omega), if_pos hs]
theorem ntR_in (hs : 0 ≤ s ∧ s < 8) : ntR v s n = 0 ∨ (-4 ≤ ntR v s n ∧ ntR v s n ≤ -2) := by
  unfold ntR whyR
  rw [if_pos hs]
  by_cases c3 : v 23 s < 10
  · rw [if_pos c3]
    by_cases c4 : v 23 s = -1
    · rw [if_pos c4, if_neg (by omega)]; omega
    · rw [if_neg c4, if_pos rfl]
      split <;> omega
  · rw [if_neg c3, if_neg (by omega)]; omega
theorem ntR_0 (hO : SOk (v 1 3) (v 23) (v 24) (v 25)) (hs : 0 ≤ s ∧ s < 8) (h : ntR v s n = 0) : (0 ≤ v 23 s ∧ v 23 s ≤ 4) ∧ n ≤ v 24 s := by
  have d := hO.1 s hs.1 hs.2
  unfold ntR whyR at h
  rw [if_pos hs] at h
  by_cases c3 : v 23 s < 10
  · rw [if_pos c3] at h
    by_cases c4 : v 23 s = -1
    · rw [if_pos c4, if_neg (by omega)] at h; omega
    · rw [if_neg c4, if_pos rfl] at h
      split at h
      · rename_i q; exact ⟨by omega, q⟩
      · omega
  · rw [if_neg c3, if_neg (by omega)] at h; omega
theorem sX_wnw (h : OKC w) : AW mX_whyNoWalk 0 [jR 0, jI s, jI n, jI k, jX] [] w Q = Q (jI (wnR w s n k)) w := by
  have so : SOk (w 1 3) (w 23) (w 24) (w 25) := h.2.2.1
  unfold wnR
  rw [bX_whyNoWalk_0, sX_isShelf, bX_whyNoWalk_4, jb_ite]
  by_cases c1 : 0 ≤ s ∧ s < 8
  · have d := so.1 s c1.1 c1.2
    rw [if_pos c1, if_pos c1, sX_isWithin, bX_whyNoWalk_15, jb_ite]
    by_cases c2 : 0 ≤ n ∧ n ≤ 40
    · rw [if_pos c2, if_pos c2, sL_hasWalker, bX_whyNoWalk_26, jb_ite]
      by_cases c3 : 0 ≤ k ∧ k < w 1 4
      · rw [if_pos c3, if_pos c3, sS_whyNoRow, bX_whyNoWalk_40]
        unfold ntR
        by_cases c4 : whyR (w 23) s = 0
        · have sz : sizeR (w 23) (w 24) s = w 24 s := by
            unfold whyR at c4
            rw [if_pos c1] at c4
            unfold sizeR
            refine if_pos ⟨c1, ?_, ?_⟩
            · intro z; rw [z] at c4; omega
            · split at c4
              · assumption
              · omega
          rw [if_pos c4, if_pos c4, sS_hasRange so, bX_whyNoWalk_57, jb_ite, sz, c4]
          by_cases c5 : n ≤ w 24 s
          · rw [if_pos c5, if_pos ⟨by omega, by omega, by omega⟩]
          · rw [if_neg c5, if_neg (by omega)]
        · rw [if_neg c4, if_neg c4]
      · rw [if_neg c3, if_neg c3]
    · rw [if_neg c2, if_neg c2]
  · rw [if_neg c1, if_neg c1]
theorem elR_w (hs : 0 ≤ s ∧ s < 8) (hc : 0 ≤ w 23 s ∧ w 23 s ≤ 4) (ha : 0 ≤ a ∧ a < w 24 s) : elR (w 23) (w 24) (w 25) s a = w 25 (40 * s + a) := by
  have sz : sizeR (w 23) (w 24) s = w 24 s := if_pos ⟨hs, by omega, by omega⟩
  unfold elR
  rw [sz, if_pos ha]
theorem sX_fw14 (h : OKC w) (hs : 0 ≤ s ∧ s < 8) (hc : 0 ≤ w 23 s ∧ w 23 s ≤ 4) (hn : n ≤ w 24 s) {y3 : jV} (m : Nat) : ∀ (a i : Int) (y6 y7 : jV), (n - i).toNat = m → 0 ≤ i → c67 a → AW mX_firstWrong 14 [jR 0, jI s, jI n, y3, jI a, jI i, y6, y7] [] w Q = Q (jI (fwR w s m a i)) w := by
  have so : SOk (w 1 3) (w 23) (w 24) (w 25) := h.2.2.1
  have hw : 3 ≤ w 1 0 ∧ w 1 0 ≤ 7 := h.1.1
  have d := so.1 s hs.1 hs.2
  induction m with
  | zero =>
    intro a i y6 y7 hm h0 ha
    rw [bX_firstWrong_14, if_neg (by omega)]
    rfl
  | succ m ih =>
    intro a i y6 y7 hm h0 ha
    rw [bX_firstWrong_14, if_pos (by omega), sS_elementAt so, bX_firstWrong_30, elR_w hs hc ⟨h0, by omega⟩, sL_isDry hw.2, bX_firstWrong_41, jb_ite]
    by_cases c : dryB (w 1 0) (w 2) (w 25 (40 * s + i))
    · have x67 : c67 (w 25 (40 * s + i)) := ⟨c.1.1, cell67 hw.2 c.1⟩
      have x67' := x67
      unfold c67 at x67'
      rw [if_pos c, n32s (x := w 25 (40 * s + i)) (by omega) (by omega), sX_stepsBetween ha x67, bX_firstWrong_52, n32s (x := w 25 (40 * s + i)) (by omega) (by omega), n32s (x := i + 1) (by omega) (by omega)]
      by_cases c2 : stF a (w 25 (40 * s + i)) = 1
      · rw [if_pos c2, ih _ _ _ _ (by omega) (by omega) x67, fwR_y ⟨c, c2⟩]
      · rw [if_neg c2, fwR_n (fun t => c2 t.2)]
    · rw [if_neg c, fwR_n (fun t => c t.1)]
theorem sM_wr11 (h : VM w v) (hs : 0 ≤ s ∧ s < 8) (hn : n ≤ v 24 s) {y3 : jV} (m : Nat) : ∀ (a i : Int) (y6 y7 : jV), (n - i).toNat = m → 0 ≤ i → c67 a → AW mM_wrong 11 [jR 45, jI s, jI n, y3, jI a, jI i, y6, y7] [] w Q = Q (jI (fwR v s m a i)) w := by
  have so := h.sh
  have hw := h.wk.2.2
  have d := so.1 s hs.1 hs.2
  induction m with
  | zero =>
    intro a i y6 y7 hm h0 ha
    rw [bM_wrong_11, if_neg (by omega)]
    rfl
  | succ m ih =>
    intro a i y6 y7 hm h0 ha
    have ei := so.2 (40 * s + i) (by omega) (by omega)
    rw [bM_wrong_11, if_pos (by omega), bM_toldAt_0, n32s (x := 40 * s) (by omega) (by omega), n32s (x := 40 * s + i) (by omega) (by omega), if_pos (by omega), bM_wrong_24, h.m55 ⟨by omega, by omega⟩, h.isCell ei, bM_wrong_32, jb_ite]
    by_cases c : cellB (v 1 0) (v 25 (40 * s + i))
    · have x67 : c67 (v 25 (40 * s + i)) := ⟨c.1, cell67 hw.2 c⟩
      have x67' := x67
      unfold c67 at x67'
      have eb : w 46 (v 25 (40 * s + i)) = v 2 (v 25 (40 * s + i)) := h.2.2.1 _ x67'.1 x67'.2
      rw [if_pos c, n32s (x := v 25 (40 * s + i)) (by omega) (by omega), if_pos x67', eb, sM_steps ha x67, bM_wrong_54, n32s (x := v 25 (40 * s + i)) (by omega) (by omega), n32s (x := i + 1) (by omega) (by omega)]
      by_cases c1 : v 2 (v 25 (40 * s + i)) = 0
      · rw [if_pos c1]
        by_cases c2 : stF a (v 25 (40 * s + i)) = 1
        · rw [if_pos c2, ih _ _ _ _ (by omega) (by omega) x67, fwR_y ⟨⟨c, c1⟩, c2⟩]
        · rw [if_neg c2, fwR_n (fun t => c2 t.2)]
      · rw [if_neg c1, fwR_n (fun t => c1 t.1.2)]
    · rw [if_neg c, fwR_n (fun t => c t.1.1)]
theorem sX_fw (h : OKC w) (hs : 0 ≤ s ∧ s < 8) (hk : 0 ≤ k ∧ k < w 1 4) (hz : ntR w s n = 0) : AW mX_firstWrong 0 [jR 0, jI s, jI n, jI k, jX, jX, jX, jX] [] w Q = Q (jI (fwR w s n.toNat (w 6 k) 0)) w := by
  have so : SOk (w 1 3) (w 23) (w 24) (w 25) := h.2.2.1
  have h4 : 0 ≤ w 1 4 ∧ w 1 4 ≤ 4 := h.1.2.2.2.1
  have z := ntR_0 so hs hz
  rw [bX_firstWrong_0, if_pos (by omega)]
  exact sX_fw14 h hs z.1 z.2 _ _ 0 _ _ (by omega) (by omega) (h.kt hk).2.2
theorem VM.wrong (h : VM w v) (hs : 0 ≤ s ∧ s < 8) (hk : 0 ≤ k ∧ k < v 1 4) (hz : ntR v s n = 0) : AW mM_wrong 0 [jR 45, jI s, jI n, jI k, jX, jX, jX, jX] [] w Q = Q (jI (fwR v s n.toNat (v 6 k) 0)) w := by
  have kk := h.wk
  have z := ntR_0 h.sh hs hz
  have kt := h.kt hk
  rw [bM_wrong_0, if_pos (by omega), kt.1.1]
  exact sM_wr11 h hs z.2 _ _ 0 _ _ (by omega) (by omega) kt.2.2.2
/-- the reference's refusals ahead of a told walk -/
abbrev okT (v : jW) (s n k : Int) : Prop := (0 ≤ s ∧ s < 8) ∧ (0 ≤ n ∧ n ≤ 40) ∧ (0 ≤ k ∧ k < v 1 4)
theorem wnR_y (h : okT v s n k) : wnR v s n k = ntR v s n := by unfold wnR; rw [if_pos h.1, if_pos h.2.1, if_pos h.2.2]
theorem wnR_n (h : ¬ okT v s n k) : wnR v s n k = -2 := by
  unfold wnR
  by_cases c1 : 0 ≤ s ∧ s < 8
  · rw [if_pos c1]
    by_cases c2 : 0 ≤ n ∧ n ≤ 40
    · rw [if_pos c2, if_neg (fun t => h ⟨c1, c2, t⟩)]
    · rw [if_neg c2]
  · rw [if_neg c1]
theorem p_judge (h : INV K w) : Both mX_judge mM_judge [jR 0, jI s, jI n, jI k, jX] [jR 45, jI s, jI n, jI k, jX] K w := by
  unfold Both
  have kk := h.wk
  have F := h.ref (a := -2) (by omega) (by omega)
  have R := h.vR
  rw [bX_judge_0, sX_wnw h.1, bX_judge_7]
  by_cases c : okT w s n k
  · rw [wnR_y c]
    have N : ∀ u, VM u w → ∀ Q, AW mM_judge 0 [jR 45, jI s, jI n, jI k, jX] [] u Q = AW mM_judge 38 [jR 45, jI s, jI n, jI k, jX] [jI (ntR w s n)] u Q := by
      intro u hu Q
      rw [bM_judge_0, sM_isShelf, bM_judge_4, jb_ite, if_pos c.1, sM_within, bM_judge_14, jb_ite, if_pos c.2.1, hu.isWalker, bM_judge_22, jb_ite, if_pos c.2.2, hu.noTold c.1]
    by_cases z : ntR w s n = 0
    · rw [if_pos z, sX_fw h.1 c.1 c.2.2 z, bX_judge_28, N w (h.vm SX.r), bM_judge_38, if_neg (by omega), (h.vm SX.r).wrong c.1 c.2.2 z, bM_judge_61]
      exact h.fin rfl
    · have i := (ntR_in (v := w) (n := n) c.1).resolve_left z
      rw [if_neg z, sX_refuse (by omega) (by omega), bX_judge_20, N _ (R _), bM_judge_38, if_pos (by omega), sM_no (by omega) (by omega), bM_judge_51, bM_judge_61]
      exact h.ref (by omega) (by omega)
  · rw [wnR_n c, if_neg (by omega), sX_refuse2, bX_judge_20, bM_judge_0, sM_isShelf, bM_judge_4, jb_ite]
    by_cases c1 : 0 ≤ s ∧ s < 8
    · rw [if_pos c1, sM_within, bM_judge_14, jb_ite]
      by_cases c2 : 0 ≤ n ∧ n ≤ 40
      · rw [if_pos c2, (R _).isWalker, bM_judge_22, jb_ite, if_neg (fun t => c ⟨c1, c2, t⟩), sM_no2, bM_judge_31]
        exact F
      · rw [if_neg c2, sM_no2, bM_judge_31]
        exact F
    · rw [if_neg c1, sM_no2, bM_judge_31]
      exact F
end TA
