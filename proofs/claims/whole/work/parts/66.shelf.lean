/-! shelves -/
def jwr (w : jW) (o : Nat) (f : Int → Int) : jW := fun p => if p = o then f else w p
theorem jwr_s {w : jW} {o : Nat} {f : Int → Int} : jwr w o f o = f := if_pos rfl
theorem jwr_n {w : jW} {o p : Nat} {f : Int → Int} (h : p ≠ o) : jwr w o f p = w p := if_neg h
theorem jwr_e {w : jW} {o : Nat} {f : Int → Int} (h : w o = f) : jwr w o f = w := by
  funext p; unfold jwr; split
  · rename_i e; rw [e, h]
  · rfl
theorem jwr_j {w : jW} {o : Nat} {k v : Int} {f : Int → Int} : jwr (jup w o k v) o f = jwr w o f := by
  funext p; unfold jwr; split
  · rfl
  · rename_i e; rw [jupn e]
theorem jwr_up {w : jW} {o : Nat} {k v : Int} : jup w o k v = jwr w o (up1 (w o) k v) := by
  funext p
  by_cases e : p = o
  · rw [e, jups, jwr_s]
  · rw [jupn e, jwr_n e]
/-- noughts from a to b -/
def zf (f : Int → Int) (a b : Int) : Int → Int := fun j => if a ≤ j ∧ j < b then 0 else f j
theorem n8_in (x : Int) : -128 ≤ n8 x ∧ n8 x ≤ 127 := by unfold n8; omega
theorem n16_in (x : Int) : -32768 ≤ n16 x ∧ n16 x ≤ 32767 := by unfold n16; omega
def whyR (co : Int → Int) (s : Int) : Int := if 0 ≤ s ∧ s < 8 then (if co s < 10 then (if co s = -1 then -4 else 0) else -3) else -2
def sizeR (co le : Int → Int) (s : Int) : Int := if (0 ≤ s ∧ s < 8) ∧ co s ≠ -1 ∧ co s < 10 then le s else 0
def elR (co le el : Int → Int) (s i : Int) : Int := if 0 ≤ i ∧ i < sizeR co le s then el (40 * s + i) else 0
def cutR (sort v : Int) : Int := if sort = 0 then n8 (n32 v) else if sort = 1 then n16 (n32 v) else if sort = 2 then n32 v else if sort = 4 then (if v = 0 then 0 else 1) else v
theorem cutR_in {s v : Int} (h : in64 v) : in64 (cutR s v) := by
  unfold cutR in64 at *
  have a := n8_in (n32 v)
  have b := n16_in (n32 v)
  have c := n32_in v
  unfold in32 at c
  repeat' split
  all_goals omega
section SI
variable {w : jW} {Q : jV → jW → Prop} {K x y z k : Int}
theorem sizeR_in {co le el : Int → Int} {p : Int} (h : SOk p co le el) : 0 ≤ sizeR co le x ∧ sizeR co le x ≤ 40 := by
  unfold sizeR
  split
  · rename_i q; exact (h.1 x q.1.1 q.1.2).2
  · omega
theorem sizeR_x {co le : Int → Int} (h : 0 < sizeR co le x) : 0 ≤ x ∧ x < 8 := by
  unfold sizeR at h
  split at h
  · rename_i q; exact q.1
  · omega
theorem sS_whyNoRow : AW mS_whyNoRow 0 [jR 22, jI x] [] w Q = Q (jI (whyR (w 23) x)) w := by
  unfold whyR
  rw [bS_whyNoRow_0, sX_isShelf, bS_whyNoRow_4, jb_ite]
  repeat' split
  all_goals first | rfl | (exfalso; omega)
theorem sS_sizeOf : AW mS_sizeOf 0 [jR 22, jI x] [] w Q = Q (jI (sizeR (w 23) (w 24) x)) w := by
  rw [bS_sizeOf_0, sX_isShelf, bS_sizeOf_4, jb_ite]
  by_cases h : 0 ≤ x ∧ x < 8
  · rw [if_pos h, if_pos h, if_pos h, if_pos h]
    unfold sizeR
    repeat' split
    all_goals first | rfl | (exfalso; omega)
  · rw [if_neg h]; unfold sizeR; rw [if_neg (fun q => h q.1)]
theorem sS_hasElement : AW mS_hasElement 0 [jR 22, jI x, jI y] [] w Q = Q (jI (jb (0 ≤ y ∧ y < sizeR (w 23) (w 24) x))) w := by
  rw [bS_hasElement_0, sS_sizeOf, bS_hasElement_10]
  repeat' split
  all_goals first | rw [jb_pos (by omega)] | rw [jb_neg (by omega)]
theorem sS_elementAt {p : Int} (h : SOk p (w 23) (w 24) (w 25)) : AW mS_elementAt 0 [jR 22, jI x, jI y] [] w Q = Q (jL (elR (w 23) (w 24) (w 25) x y)) w := by
  rw [bS_elementAt_0, sS_hasElement, bS_elementAt_6, jb_ite]
  have a := sizeR_in (x := x) h
  unfold elR
  by_cases c : 0 ≤ y ∧ y < sizeR (w 23) (w 24) x
  · have b := sizeR_x (x := x) (co := w 23) (le := w 24) (by omega)
    rw [if_pos c, if_pos c, n32s (x := x * 40) (by omega) (by omega), n32s (by omega) (by omega), if_pos (by omega), show x * 40 + y = 40 * x + y by omega]
  · rw [if_neg c, if_neg c]
theorem sS_contentOf : AW mS_contentOf 0 [jR 22, jI x] [] w Q = Q (jI (if 0 ≤ x ∧ x < 8 then w 23 x else -1)) w := by
  rw [bS_contentOf_0, sX_isShelf, bS_contentOf_4, jb_ite]
  split <;> rfl
theorem sS_hasRange {p : Int} (h : SOk p (w 23) (w 24) (w 25)) : AW mS_hasRange 0 [jR 22, jI x, jI y, jI z, jX] [] w Q = Q (jI (jb (0 ≤ y ∧ 0 ≤ z ∧ y + z ≤ sizeR (w 23) (w 24) x))) w := by
  rw [bS_hasRange_0, sS_sizeOf, bS_hasRange_5]
  have a := sizeR_in (x := x) h
  by_cases c : y < 0
  · rw [if_pos c, jb_neg (by omega)]
  · rw [if_neg c]
    by_cases c : sizeR (w 23) (w 24) x < y
    · rw [if_pos c]
      by_cases d : 0 ≤ z
      · rw [jb_neg (by omega)]
      · rw [jb_neg (by omega)]
    · rw [if_neg c, n32s (by omega) (by omega)]
      repeat' split
      all_goals first | rw [jb_pos (by omega)] | rw [jb_neg (by omega)]
theorem sS_cut : AW mS_cut 0 [jI x, jL y, jX] [] w Q = Q (jL (cutR x y)) w := by
  unfold cutR
  simp only [bS_cut_0, lc3]
  repeat' split
  all_goals first | rfl | (exfalso; omega)
theorem sM_kept (hx : 0 ≤ x ∧ x ≤ 4) : AW mM_kept 0 [jI x, jL y, jX] [] w Q = Q (jL (cutR x y)) w := by
  unfold cutR
  simp only [bM_kept_0, lc3]
  repeat' split
  all_goals first | rfl | (exfalso; omega)
theorem sM_isRow (hx : 0 ≤ x ∧ x < 8) : AW mM_isRow 0 [jR 45, jI x] [] w Q = Q (jI (jb (0 ≤ w 53 x ∧ w 53 x ≤ 4))) w := by
  rw [bM_isRow_0, if_pos hx, sM_within, bM_isRow_11, if_pos (by rw [jb_01]; trivial)]
theorem sL_hasPost : AW mL_hasPost 0 [jR 1, jL x, jX] [] w Q = Q (jI (jb (0 ≤ x ∧ x < w 1 3))) w := by
  rw [bL_hasPost_0]
  simp only [lc1]
  repeat' split
  all_goals first | rw [jb_pos (by omega)] | rw [jb_neg (by omega)]
theorem sM_isPost : AW mM_isPost 0 [jR 45, jL x, jX] [] w Q = Q (jI (jb (0 ≤ x ∧ x < w 45 3))) w := by
  rw [bM_isPost_0]
  simp only [lc1]
  repeat' split
  all_goals first | rw [jb_pos (by omega)] | rw [jb_neg (by omega)]
theorem sS_putRow17 {y2 y3 : jV} (hx : 0 ≤ x ∧ x < 8) (m : Nat) : ∀ k (w : jW), (40 - k).toNat = m → 0 ≤ k → k ≤ 40 → AW mS_putRow 17 [jR 22, jI x, y2, y3, jI k] [] w Q = Q (jI 0) (jwr w 25 (zf (w 25) (40 * x + k) (40 * x + 40))) := by
  induction m with
  | zero =>
    intro k w hm h0 h1
    rw [bS_putRow_17, if_neg (by omega), jwr_e]
    funext j; unfold zf; rw [if_neg (by omega)]
  | succ m ih =>
    intro k w hm h0 h1
    rw [bS_putRow_17, if_pos (by omega), n32s (x := x * 40) (by omega) (by omega), n32s (by omega) (by omega), n32s (by omega) (by omega), if_pos (by omega), ih (k + 1) _ (by omega) (by omega) (by omega), jwr_j, jups]
    congr 2
    funext j
    unfold zf up1
    repeat' split
    all_goals first | rfl | (exfalso; omega)
theorem sM_row50 {y2 y3 : jV} (hx : 0 ≤ x ∧ x < 8) (m : Nat) : ∀ k (w : jW), (40 - k).toNat = m → 0 ≤ k → k ≤ 40 → AW mM_row 50 [jR 45, jI x, y2, y3, jI k] [] w Q = Q (jI 1) (jwr w 55 (zf (w 55) (40 * x + k) (40 * x + 40))) := by
  induction m with
  | zero =>
    intro k w hm h0 h1
    rw [bM_row_50, if_neg (by omega), jwr_e]
    funext j; unfold zf; rw [if_neg (by omega)]
  | succ m ih =>
    intro k w hm h0 h1
    rw [bM_row_50, if_pos (by omega), n32s (x := 40 * x) (by omega) (by omega), n32s (by omega) (by omega), n32s (by omega) (by omega), if_pos (by omega), ih (k + 1) _ (by omega) (by omega) (by omega), jwr_j, jups]
    congr 2
    funext j
    unfold zf up1
    repeat' split
    all_goals first | rfl | (exfalso; omega)
end SI
