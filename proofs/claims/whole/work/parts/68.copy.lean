section SK
variable {w : jW} {Q : jV → jW → Prop} {K x y z k i j n p q : Int}
def cpf (f : Int → Int) (s d n : Int) : Int → Int := fun t => if d ≤ t ∧ t < d + n then f (s + (t - d)) else f t
theorem jmv_w {o : Nat} {s d n : Int} : jmv w o s o d n = jwr w o (cpf (w o) s d n) := by
  funext c
  by_cases e : c = o
  · rw [e, jwr_s]
    funext t
    rw [jmv_self]
    rfl
  · rw [jmv_ne e, jwr_n e]
theorem Eqn.cpf {N s d n : Int} {f g : Int → Int} (h : Eqn N f g) (h1 : 0 ≤ s) (h2 : s + n ≤ N) : Eqn N (cpf f s d n) (cpf g s d n) := by
  intro t h3 h4
  show (if d ≤ t ∧ t < d + n then f (s + (t - d)) else f t) = (if d ≤ t ∧ t < d + n then g (s + (t - d)) else g t)
  split
  · exact h _ (by omega) (by omega)
  · exact h t h3 h4
theorem sM_copyF (hp : 0 ≤ p ∧ p < 8) (hq : 0 ≤ q ∧ q < 8) (hi : 0 ≤ i ∧ i + n ≤ 40) (hj : 0 ≤ j ∧ j + n ≤ 40) (hd : 40 * q + j ≤ 40 * p + i ∨ 40 * p + i + n ≤ 40 * q + j) (m : Nat) :
    ∀ k (w : jW), (n - k).toNat = m → 0 ≤ k → k ≤ n → AW mM_copy 225 [jR 45, jI p, jI q, jI i, jI j, jI n, jI k] [] w Q = Q (jI n) (jwr w 55 (cpf (w 55) (40 * p + i + k) (40 * q + j + k) (n - k))) := by
  induction m with
  | zero =>
    intro k w hm h0 h1
    rw [bM_copy_225, if_neg (by omega), jwr_e]
    funext t; unfold cpf; rw [if_neg (by omega)]
  | succ m ih =>
    intro k w hm h0 h1
    rw [bM_copy_225, if_pos (by omega), n32s (x := 40 * p) (by omega) (by omega), n32s (x := 40 * p + i) (by omega) (by omega), n32s (x := 40 * p + i + k) (by omega) (by omega),
      n32s (x := 40 * q) (by omega) (by omega), n32s (x := 40 * q + j) (by omega) (by omega), n32s (x := 40 * q + j + k) (by omega) (by omega), n32s (x := k + 1) (by omega) (by omega), if_pos (by omega), if_pos (by omega), ih (k + 1) _ (by omega) (by omega) (by omega), jwr_j, jups]
    congr 2
    funext t
    unfold cpf up1
    by_cases e : t = 40 * q + j + k
    · rw [if_neg (by omega), if_pos e, if_pos (by omega)]; congr 1; omega
    · by_cases e2 : 40 * q + j + k ≤ t ∧ t < 40 * q + j + k + (n - k)
      · rw [if_pos (by omega), if_neg (by omega), if_pos e2]; congr 1; omega
      · rw [if_neg (by omega), if_neg e, if_neg e2]
theorem sM_copyB (hp : 0 ≤ p ∧ p < 8) (hq : 0 ≤ q ∧ q < 8) (hi : 0 ≤ i ∧ i + n ≤ 40) (hj : 0 ≤ j ∧ j + n ≤ 40) (hd : 40 * p + i < 40 * q + j) (m : Nat) :
    ∀ k (w : jW), (k + 1).toNat = m → -1 ≤ k → k < n → AW mM_copy 179 [jR 45, jI p, jI q, jI i, jI j, jI n, jI k] [] w Q = Q (jI n) (jwr w 55 (cpf (w 55) (40 * p + i) (40 * q + j) (k + 1))) := by
  induction m with
  | zero =>
    intro k w hm h0 h1
    rw [bM_copy_179, if_pos (by omega), jwr_e]
    funext t; unfold cpf; rw [if_neg (by omega)]
  | succ m ih =>
    intro k w hm h0 h1
    rw [bM_copy_179, if_neg (by omega), n32s (x := 40 * p) (by omega) (by omega), n32s (x := 40 * p + i) (by omega) (by omega), n32s (x := 40 * p + i + k) (by omega) (by omega),
      n32s (x := 40 * q) (by omega) (by omega), n32s (x := 40 * q + j) (by omega) (by omega), n32s (x := 40 * q + j + k) (by omega) (by omega), n32s (x := k + (-1)) (by omega) (by omega), if_pos (by omega), if_pos (by omega), ih (k + (-1)) _ (by omega) (by omega) (by omega), jwr_j, jups]
    congr 2
    funext t
    unfold cpf up1
    by_cases e : t = 40 * q + j + k
    · rw [if_neg (by omega), if_pos e, if_pos (by omega)]; congr 1; omega
    · by_cases e2 : 40 * q + j ≤ t ∧ t < 40 * q + j + (k + 1)
      · rw [if_pos (by omega), if_neg (by omega), if_pos e2]
      · rw [if_neg (by omega), if_neg e, if_neg e2]
def twinR (co : Int → Int) (p q : Int) : Int :=
  if (0 ≤ p ∧ p < 8) ∧ (0 ≤ q ∧ q < 8) then (if 10 ≤ co p ∨ 10 ≤ co q ∨ (co p ≠ -1 ∧ co q ≠ -1 ∧ co p ≠ co q) then -3 else if co p = -1 ∨ co q = -1 then -4 else 0) else -2
theorem sS_whyNoTwins : AW mS_whyNoTwins 0 [jR 22, jI p, jI q, jX] [] w Q = Q (jI (twinR (w 23) p q)) w := by
  unfold twinR
  simp only [bS_whyNoTwins_0, sX_isShelf, bS_whyNoTwins_4, bS_whyNoTwins_11, jb_ite]
  by_cases h1 : 0 ≤ p ∧ p < 8
  · by_cases h2 : 0 ≤ q ∧ q < 8
    · have h3 : (0 ≤ p ∧ p < 8) ∧ 0 ≤ q ∧ q < 8 := ⟨h1, h2⟩
      simp only [if_pos h1, if_pos h2, if_pos h3]
      simp only [bS_whyNoTwins_42, bS_whyNoTwins_87, if_pos h1, if_pos h2, if_true, if_false, Int.reduceEq, Int.reduceLT, Int.reduceLE, Int.reduceNeg, Int.reduceSub, Int.reduceAdd, Int.reduceMul, true_and, and_true, and_self, or_true, true_or, or_false, false_or, or_self]
      repeat' split
      all_goals first | rfl | (exfalso; omega)
    · rw [if_pos h1, if_neg h2, if_neg (fun q => h2 q.2)]
  · rw [if_neg h1, if_neg (fun q => h1 q.1)]
theorem p_copy (h : INV K w) (hi : in32 i) (hj : in32 j) (hn : in32 n) : Both mX_copy mM_copy [jR 0, jI p, jI q, jI i, jI j, jI n, jX] [jR 45, jI p, jI q, jI i, jI j, jI n, jX] K w := by
  unfold in32 at hi hj hn
  unfold Both
  have so := h.sh
  have szp := sizeR_in (x := p) so
  have szq := sizeR_in (x := q) so
  rw [bX_copy_0, sS_whyNoTwins, bX_copy_9]
  by_cases c1 : 0 ≤ p ∧ p < 8
  · by_cases c2 : 0 ≤ q ∧ q < 8
    · have dp := so.1 p c1.1 c1.2
      have dq := so.1 q c2.1 c2.2
      have ep := h.m53 c1
      have eq := h.m53 c2
      have lp := h.m54 c1
      have lq := h.m54 c2
      by_cases c3 : 10 ≤ w 23 p ∨ 10 ≤ w 23 q ∨ (w 23 p ≠ -1 ∧ w 23 q ≠ -1 ∧ w 23 p ≠ w 23 q)
      · have tw : twinR (w 23) p q = -3 := by unfold twinR; rw [if_pos ⟨c1, c2⟩, if_pos c3]
        rw [tw, if_neg (by omega), bX_copy_49, if_neg (by omega), sX_refuse3, bX_copy_60]
        have M : AW mM_copy 0 [jR 45, jI p, jI q, jI i, jI j, jI n, jX] [] (rX w (-3)) (fun r' w2 => Fin K w (jI (-3)) r' w2) := by
          rw [bM_copy_0, sM_isShelf, bM_copy_4, jb_ite, if_pos c1, sM_isShelf, bM_copy_11, jb_ite, if_pos c2, if_pos c1, if_pos c2, rX_n (by omega), ep, eq]
          have F := h.ref (a := -3) (by omega) (by omega)
          by_cases d1 : w 23 p < 10
          · rw [if_pos d1]
            by_cases d2 : w 23 q < 10
            · rw [if_pos d2, sM_isRow c1, bM_copy_48, jb_ite, rX_n (by omega), ep, if_pos (by omega), sM_isRow c2, bM_copy_56, jb_ite, rX_n (by omega), ep, eq, if_pos (by omega), if_pos c1, if_pos c2, if_neg (by omega), sM_no3, bM_copy_80]
              exact F
            · rw [if_neg d2, sM_no3, bM_copy_80]; exact F
          · rw [if_neg d1, sM_no3, bM_copy_80]; exact F
        exact M
      · have M : ∀ Q (v : jW), v 53 = w 53 → AW mM_copy 0 [jR 45, jI p, jI q, jI i, jI j, jI n, jX] [] v Q = AW mM_copy 81 [jR 45, jI p, jI q, jI i, jI j, jI n, jX] [] v Q := by
          intro Q v hv
          rw [bM_copy_0, sM_isShelf, bM_copy_4, jb_ite, if_pos c1, sM_isShelf, bM_copy_11, jb_ite, if_pos c2, if_pos c1, if_pos c2, hv, ep, eq, if_pos (by omega), if_pos (by omega), sM_isRow c1, bM_copy_48, jb_ite, hv, ep]
          by_cases d1 : 0 ≤ w 23 p ∧ w 23 p ≤ 4
          · rw [if_pos d1, sM_isRow c2, bM_copy_56, jb_ite, hv, ep, eq]
            by_cases d2 : 0 ≤ w 23 q ∧ w 23 q ≤ 4
            · rw [if_pos d2, if_pos c1, if_pos c2, if_pos (by omega)]
            · rw [if_neg d2]
          · rw [if_neg d1]
        by_cases c4 : w 23 p = -1 ∨ w 23 q = -1
        · have tw : twinR (w 23) p q = -4 := by unfold twinR; rw [if_pos ⟨c1, c2⟩, if_neg c3, if_pos c4]
          rw [tw, if_neg (by omega), bX_copy_49, if_neg (by omega), sX_refuse4, bX_copy_60, M _ _ (rX_n (by omega)), bM_copy_81, if_pos c1, if_pos c2, rX_n (by omega), ep, eq]
          have F := h.ref (a := -4) (by omega) (by omega)
          by_cases d1 : w 23 p < 0
          · rw [if_pos d1, sM_no4, bM_copy_105]; exact F
          · rw [if_neg d1, if_pos (by omega), sM_no4, bM_copy_105]; exact F
        · have tw : twinR (w 23) p q = 0 := by unfold twinR; rw [if_pos ⟨c1, c2⟩, if_neg c3, if_neg c4]
          rw [tw, if_pos rfl, sS_hasRange so, bX_copy_27, jb_ite]
          have es : sizeR (w 23) (w 24) p = w 24 p := if_pos ⟨c1, by omega, by omega⟩
          have et : sizeR (w 23) (w 24) q = w 24 q := if_pos ⟨c2, by omega, by omega⟩
          rw [es]
          have F := h.ref (a := -2) (by omega) (by omega)
          by_cases c5 : 0 ≤ i ∧ 0 ≤ n ∧ i + n ≤ w 24 p
          · rw [if_pos c5, sS_hasRange so, bX_copy_42, jb_ite, et]
            by_cases c6 : 0 ≤ j ∧ 0 ≤ n ∧ j + n ≤ w 24 q
            · rw [if_pos c6, bX_copy_49, if_pos rfl, bS_moveElements_0]
              rw [n32s (x := p * 40) (by omega) (by omega), n32s (x := p * 40 + i) (by omega) (by omega), n32s (x := q * 40) (by omega) (by omega), n32s (x := q * 40 + j) (by omega) (by omega), if_pos (by omega), bX_copy_75, jmv_w,
                show p * 40 + i = 40 * p + i by omega, show q * 40 + j = 40 * q + j by omega]
              rw [M _ _ (jwr_n (by omega)), bM_copy_81, if_pos c1, if_pos c2, jwr_n (by omega), jwr_n (by omega), ep, eq, lp, lq, if_neg (by omega), if_neg (by omega), if_neg (by omega), if_neg (by omega), if_neg (by omega), if_pos c1, if_neg (by rw [n64s (by omega) (by omega), lc2]; omega), if_pos c2, if_neg (by rw [n64s (by omega) (by omega), lc2]; omega)]
              have G : Fin K w (jI n) (jI n) (jwr (jwr w 25 (cpf (w 25) (40 * p + i) (40 * q + j) n)) 55 (cpf (w 55) (40 * p + i) (40 * q + j) n)) := by
                obtain ⟨hc, hm, hl⟩ := h.k
                refine ⟨rfl, ⟨?_, ?_, ?_⟩, ?_⟩
                · unfold OKC SOk at hc ⊢
                  simp only [jwr_n, jwr_s, jupn, jups, up1_e, ne_eq, Nat.reduceEqDiff, not_false_eq_true, not_true_eq_false, if_true, if_false, Int.reduceEq, Int.reduceLT, Int.reduceLE, Int.reduceNeg, Int.reduceSub, Int.reduceAdd, Int.reduceMul, true_and, and_true, and_self, or_true, true_or, or_false, false_or, or_self] at hc ⊢
                  obtain ⟨h1, h2, ⟨h3, h4⟩, h5⟩ := hc
                  refine ⟨h1, h2, ⟨h3, ?_⟩, h5⟩
                  intro t q1 q2
                  show in64 (if _ then _ else _)
                  split
                  · exact h4 _ (by omega) (by omega)
                  · exact h4 t q1 q2
                · unfold RM at hm ⊢
                  simp only [jwr_n, jwr_s, jupn, jups, up1_e, ne_eq, Nat.reduceEqDiff, not_false_eq_true, not_true_eq_false, if_true, if_false, Int.reduceEq, Int.reduceLT, Int.reduceLE, Int.reduceNeg, Int.reduceSub, Int.reduceAdd, Int.reduceMul, true_and, and_true, and_self, or_true, true_or, or_false, false_or, or_self] at hm ⊢
                  obtain ⟨h1, h2, h3, h4, h5, h6, h7, h8, h9, h10, h11, h12⟩ := hm
                  exact ⟨h1, h2, h3, h4, h5, h6, h7, h8, h9, h10, h11.cpf (by omega) (by omega), h12⟩
                · unfold LK at hl ⊢
                  simp only [jwr_n, jwr_s, jupn, jups, up1_e, ne_eq, Nat.reduceEqDiff, not_false_eq_true, not_true_eq_false] at hl ⊢
                  exact hl
                · intro o ho
                  simp (disch := omega) only [jupn, jwr_n]
              by_cases c7 : p = q
              · rw [if_pos c7]
                by_cases c8 : i < j
                · rw [if_pos c8, n32s (by omega) (by omega), sM_copyB c1 c2 (by omega) (by omega) (by omega) _ _ _ rfl (by omega) (by omega), jwr_n (by omega), show n - 1 + 1 = n by omega]
                  exact G
                · rw [if_neg c8, sM_copyF c1 c2 (by omega) (by omega) (by omega) _ _ _ rfl (by omega) (by omega), jwr_n (by omega), show n - 0 = n by omega, Int.add_zero, Int.add_zero]
                  exact G
              · rw [if_neg c7, sM_copyF c1 c2 (by omega) (by omega) (by omega) _ _ _ rfl (by omega) (by omega), jwr_n (by omega), show n - 0 = n by omega, Int.add_zero, Int.add_zero]
                exact G
            · rw [if_neg c6, bX_copy_49, if_neg (by omega), sX_refuse2, bX_copy_60, M _ _ (rX_n (by omega)), bM_copy_81, if_pos c1, if_pos c2, rX_n (by omega), rX_n (by omega), ep, eq, lp, lq, if_neg (by omega), if_neg (by omega)]
              rw [if_neg (by omega), if_neg (by omega)]
              by_cases d3 : j < 0
              · rw [if_pos d3, sM_no2, bM_copy_161]; exact F
              · rw [if_neg d3, if_pos c1, if_neg (by rw [n64s (by omega) (by omega), lc2]; omega), if_pos c2, if_pos (by rw [n64s (by omega) (by omega), lc2]; omega), sM_no2, bM_copy_161]; exact F
          · rw [if_neg c5, bX_copy_49, if_neg (by omega), sX_refuse2, bX_copy_60, M _ _ (rX_n (by omega)), bM_copy_81, if_pos c1, if_pos c2, rX_n (by omega), rX_n (by omega), ep, eq, lp, lq, if_neg (by omega), if_neg (by omega)]
            by_cases d1 : n < 0
            · rw [if_pos d1, sM_no2, bM_copy_161]; exact F
            · rw [if_neg d1]
              by_cases d2 : i < 0
              · rw [if_pos d2, sM_no2, bM_copy_161]; exact F
              · rw [if_neg d2]
                by_cases d3 : j < 0
                · rw [if_pos d3, sM_no2, bM_copy_161]; exact F
                · rw [if_neg d3, if_pos c1, if_pos (by rw [n64s (by omega) (by omega), lc2]; omega), sM_no2, bM_copy_161]; exact F
    · have tw : twinR (w 23) p q = -2 := by unfold twinR; rw [if_neg (fun q => c2 q.2)]
      rw [tw, if_neg (by omega), bX_copy_49, if_neg (by omega), sX_refuse2, bX_copy_60, bM_copy_0, sM_isShelf, bM_copy_4, jb_ite, if_pos c1, sM_isShelf, bM_copy_11, jb_ite, if_neg c2, sM_no2, bM_copy_20]
      exact h.ref (by omega) (by omega)
  · have tw : twinR (w 23) p q = -2 := by unfold twinR; rw [if_neg (fun q => c1 q.1)]
    rw [tw, if_neg (by omega), bX_copy_49, if_neg (by omega), sX_refuse2, bX_copy_60, bM_copy_0, sM_isShelf, bM_copy_4, jb_ite, if_neg c1, sM_no2, bM_copy_20]
    exact h.ref (by omega) (by omega)
end SK
