/-! what ties the class's cells and the reference's -/
def up1 (f : Int → Int) (i v : Int) : Int → Int := fun j => if j = i then v else f j
theorem up1_s {f : Int → Int} {i v : Int} : up1 f i v i = v := if_pos rfl
theorem up1_n {f : Int → Int} {i j v : Int} (h : j ≠ i) : up1 f i v j = f j := if_neg h
theorem jups {w : jW} {o : Nat} {k v : Int} : jup w o k v o = up1 (w o) k v := by funext j; exact jup_self
theorem jupn {w : jW} {o p : Nat} {k v : Int} (h : p ≠ o) : jup w o k v p = w p := jup_ne h
theorem up1_e {f : Int → Int} {i j v : Int} : up1 f i v j = if j = i then v else f j := rfl
def Eqn (N : Int) (f g : Int → Int) : Prop := ∀ i, 0 ≤ i → i < N → f i = g i
theorem Eqn.up {N : Int} {f g : Int → Int} (h : Eqn N f g) (i v : Int) : Eqn N (up1 f i v) (up1 g i v) := by
  intro j h0 h1
  unfold up1
  split
  · rfl
  · exact h j h0 h1
/-- one more at the end -/
theorem Eqn.push {N : Int} {f g : Int → Int} (h : Eqn N f g) (v : Int) : Eqn (N + 1) (up1 f N v) (up1 g N v) := by
  intro j h0 h1
  unfold up1
  split
  · rfl
  · exact h j h0 (by omega)
theorem Eqn.le {N M : Int} {f g : Int → Int} (h : Eqn N f g) (hm : M ≤ N) : Eqn M f g := fun i h0 h1 => h i h0 (by omega)
def LOk (n home posts walkers : Int) (bg kd ow ce wc ws : Int → Int) : Prop :=
  (3 ≤ n ∧ n ≤ 7) ∧ (cellB n home ∧ bg home = 0) ∧ (0 ≤ posts ∧ posts ≤ 8) ∧ (0 ≤ walkers ∧ walkers ≤ 4) ∧
  (∀ c, 0 ≤ c → c < 67 → bg c = 0 ∨ bg c = 1) ∧
  (∀ p, 0 ≤ p → p < posts → (0 ≤ kd p ∧ kd p ≤ 5) ∧ (0 ≤ ow p ∧ ow p ≤ 9) ∧ cellB n (ce p)) ∧
  (∀ k, 0 ≤ k → k < walkers → dryB n bg (wc k) ∧ (0 ≤ ws k ∧ ws k ≤ 9))
def TOk (size : Int) (bs : Int → Int) : Prop := 0 ≤ size ∧ size ≤ 250 ∧ ∀ i, 0 ≤ i → i < size → 0 ≤ bs i ∧ bs i ≤ 255
def SOk (posts : Int) (co le el : Int → Int) : Prop := (∀ s, 0 ≤ s → s < 8 → (co s = -1 ∨ (0 ≤ co s ∧ co s ≤ 4) ∨ (10 ≤ co s ∧ co s < 10 + posts)) ∧ 0 ≤ le s ∧ le s ≤ 40) ∧ ∀ i, 0 ≤ i → i < 320 → in64 (el i)
def OKC (w : jW) : Prop := LOk (w 1 0) (w 1 1) (w 1 3) (w 1 4) (w 2) (w 3) (w 4) (w 5) (w 6) (w 7) ∧ TOk (w 26 0) (w 27) ∧ SOk (w 1 3) (w 23) (w 24) (w 25) ∧ (w 0 3 = 0 ∨ (w 0 3 = 1 ∧ LOk (w 8 0) (w 8 1) (w 8 3) (w 8 4) (w 9) (w 10) (w 11) (w 12) (w 13) (w 14)))
def Ra (m c0 c1 c26 : Int → Int) : Prop := m 0 = c1 0 ∧ m 2 = c1 1 ∧ m 10 = c1 2 ∧ m 3 = c1 3 ∧ m 7 = c1 4 ∧ m 11 = c26 0 ∧ m 21 = c0 3
def Rk (m c8 c9 c10 c11 c12 c13 c14 : Int → Int) : Prop := Eqn 67 m c9 ∧ Eqn (c8 3) (fun p => m (67 + p)) c10 ∧ Eqn (c8 3) (fun p => m (75 + p)) c11 ∧ Eqn (c8 3) (fun p => m (83 + p)) c12 ∧ Eqn (c8 4) (fun p => m (91 + p)) c13 ∧ Eqn (c8 4) (fun p => m (95 + p)) c14 ∧ m 99 = c8 0 ∧ m 100 = c8 1 ∧ m 101 = c8 3 ∧ m 102 = c8 4 ∧ m 103 = c8 2
/-- the reference's cells in w say what the class's cells in v say -/
def RM (w v : jW) : Prop := Ra (w 45) (v 0) (v 1) (v 26) ∧ Eqn 67 (w 46) (v 2) ∧ Eqn (v 1 3) (w 47) (v 3) ∧ Eqn (v 1 3) (w 48) (v 4) ∧ Eqn (v 1 3) (w 49) (v 5) ∧ Eqn (v 1 4) (w 50) (v 6) ∧ Eqn (v 1 4) (w 51) (v 7) ∧ Eqn (v 26 0) (w 52) (v 27) ∧ Eqn 8 (w 53) (v 23) ∧ Eqn 8 (w 54) (v 24) ∧ Eqn 320 (w 55) (v 25) ∧ Eqn 5 (fun k => w 56 (k + 2)) (v 41) ∧ (v 0 3 = 1 → Rk (w 57) (v 8) (v 9) (v 10) (v 11) (v 12) (v 13) (v 14))
def LK (K : Int) (w : jW) : Prop := 0 ≤ w 30 9 ∧ w 30 9 ≤ K ∧ ∀ i, 0 ≤ i → i < 490 → w 37 i ≤ w 30 9
def INV (K : Int) (w : jW) : Prop := OKC w ∧ RM w w ∧ LK K w
/-- what neither of them can reach -/
def Far (w v : jW) : Prop := ∀ o, 61 < o → w o = v o
def Fin (K : Int) (w : jW) (r r' : jV) (w2 : jW) : Prop := r = r' ∧ INV (K + 2100) w2 ∧ Far w2 w
/-- both answer alike, and the tie holds on -/
def Both (mx mm : Nat) (ax am : List jV) (K : Int) (w : jW) : Prop := AW mx 0 ax [] w (fun r w1 => AW mm 0 am [] w1 (fun r' w2 => Fin K w r r' w2))
theorem LK.le {w : jW} {K K' : Int} (h : LK K w) (hk : K ≤ K') : LK K' w := ⟨h.1, Int.le_trans h.2.1 hk, h.2.2⟩
section BO
variable {w : jW} {K x y z a : Int}
theorem INV.k (h : INV K w) : OKC w ∧ RM w w ∧ LK (K + 2100) w := ⟨h.1, h.2.1, h.2.2.le (by omega)⟩
/-- a refused call -/
theorem INV.ref (h : INV K w) (h1 : -6 ≤ a) (h2 : a ≤ -2) : Fin K w (jI a) (jI a) (rM (rX w a) a) := by
  obtain ⟨hc, hm, hl⟩ := h.k
  refine ⟨rfl, ⟨?_, ?_, ?_⟩, ?_⟩
  · unfold OKC at hc ⊢
    simp only [rM_n, rX_n, jupn, jups, up1_e, ne_eq, Nat.reduceEqDiff, not_false_eq_true, not_true_eq_false] at hc ⊢
    exact hc
  · unfold RM at hm ⊢
    simp only [rM_n, rX_n, jupn, jups, up1_e, ne_eq, Nat.reduceEqDiff, not_false_eq_true, not_true_eq_false] at hm ⊢
    obtain ⟨h1, h2, h3, h4, h5, h6, h7, h8, h9, h10, h11, h12, h13⟩ := hm
    refine ⟨h1, h2, h3, h4, h5, h6, h7, h8, h9, h10, h11, ?_, h13⟩
    intro i h0 h1'
    have e := h12 i h0 h1'
    have e2 := h12 (-2 - a) (by omega) (by omega)
    simp only [rM, rX, jupn, jups, up1_e, ne_eq, Nat.reduceEqDiff, not_false_eq_true, not_true_eq_false] at e e2 ⊢
    by_cases hi : i = -2 - a
    · rw [if_pos hi, if_pos (by omega), ← e2]; congr 3; omega
    · rw [if_neg hi, if_neg (by omega)]; exact e
  · unfold LK at hl ⊢
    simp only [rM_n, rX_n, jupn, jups, up1_e, ne_eq, Nat.reduceEqDiff, not_false_eq_true, not_true_eq_false] at hl ⊢
    exact hl
  · intro o ho
    rw [rM_n (by omega), rX_n (by omega)]
/-- seed -/
theorem p_seed (h : INV K w) : Both mX_seed mM_seed [jR 0, jI x, jX] [jR 45, jI x, jX] K w := by
  unfold Both
  rw [bX_seed_0, bM_seed_0]
  obtain ⟨hc, hm, hl⟩ := h.k
  refine ⟨?_, ⟨?_, ?_, ?_⟩, ?_⟩
  · simp only [jupn, jups, up1_e, ne_eq, Nat.reduceEqDiff, not_false_eq_true, not_true_eq_false]
    rw [hm.1.2.2.1]
  · unfold OKC at hc ⊢
    simp only [jupn, jups, up1_e, ne_eq, Nat.reduceEqDiff, not_false_eq_true, not_true_eq_false, if_true, if_false, Int.reduceEq, Int.reduceLT, Int.reduceLE, Int.reduceNeg, Int.reduceSub, Int.reduceAdd, Int.reduceMul, true_and, and_true, and_self, or_true, true_or, or_false, false_or, or_self] at hc ⊢
    exact hc
  · unfold RM Ra at hm ⊢
    simp only [jupn, jups, up1_e, ne_eq, Nat.reduceEqDiff, not_false_eq_true, not_true_eq_false, if_true, if_false, Int.reduceEq, Int.reduceLT, Int.reduceLE, Int.reduceNeg, Int.reduceSub, Int.reduceAdd, Int.reduceMul, true_and, and_true, and_self, or_true, true_or, or_false, false_or, or_self] at hm ⊢
    obtain ⟨⟨a1, a2, a3, a4⟩, h2⟩ := hm
    exact ⟨⟨a1, a2, a4⟩, h2⟩
  · unfold LK at hl ⊢
    simp only [jupn, jups, up1_e, ne_eq, Nat.reduceEqDiff, not_false_eq_true, not_true_eq_false] at hl ⊢
    exact hl
  · intro o ho
    rw [jupn (by omega), jupn (by omega)]
end BO
