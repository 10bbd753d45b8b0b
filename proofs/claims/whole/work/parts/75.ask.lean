/-! questions: only what is scratch changes -/
def SX (w v : jW) : Prop := ∀ o, o < 28 ∨ o = 41 ∨ 44 < o → v o = w o
def SMo (w v : jW) : Prop := (∀ o, o < 45 ∨ (45 < o ∧ o < 58) ∨ 61 < o → v o = w o) ∧ ∀ f, f ≠ 24 → v 45 f = w 45 f
def VM (w v : jW) : Prop := OKC v ∧ RM w v
theorem SX.r {w : jW} : SX w w := fun _ _ => rfl
theorem SX.t {u v w : jW} (h : SX u v) (h' : SX v w) : SX u w := fun o q => (h' o q).trans (h o q)
theorem SMo.r {w : jW} : SMo w w := ⟨fun _ _ => rfl, fun _ _ => rfl⟩
theorem SMo.t {u v w : jW} (h : SMo u v) (h' : SMo v w) : SMo u w := ⟨fun o q => (h'.1 o q).trans (h.1 o q), fun f q => (h'.2 f q).trans (h.2 f q)⟩
theorem SX.j {w : jW} {o : Nat} {k x : Int} (h : 28 ≤ o ∧ o ≠ 41 ∧ o ≤ 44) : SX w (jup w o k x) := fun q hq => jupn (by omega)
theorem SX.w {w : jW} {o : Nat} {f : Int → Int} (h : 28 ≤ o ∧ o ≠ 41 ∧ o ≤ 44) : SX w (jwr w o f) := fun q hq => jwr_n (by omega)
theorem SMo.j {w : jW} {o : Nat} {k x : Int} (h : 58 ≤ o ∧ o ≤ 61) : SMo w (jup w o k x) := ⟨fun q hq => jupn (by omega), fun f _ => by rw [jupn (by omega)]⟩
theorem SMo.w {w : jW} {o : Nat} {f : Int → Int} (h : 58 ≤ o ∧ o ≤ 61) : SMo w (jwr w o f) := ⟨fun q hq => jwr_n (by omega), fun f _ => by rw [jwr_n (by omega)]⟩
theorem SMo.l {w : jW} {x : Int} : SMo w (jup w 45 24 x) := ⟨fun q hq => jupn (by omega), fun f hf => by rw [jups, up1_n hf]⟩
theorem RM.cg {w w' v v' : jW} (h : RM w v) (h1 : ∀ o, 45 < o ∧ o < 58 → w' o = w o) (h2 : ∀ f, f ≠ 24 → w' 45 f = w 45 f) (h3 : ∀ o, o < 28 ∨ o = 41 → v' o = v o) : RM w' v' := by
  unfold RM Ra at h ⊢
  rw [h1 46 (by omega), h1 47 (by omega), h1 48 (by omega), h1 49 (by omega), h1 50 (by omega), h1 51 (by omega), h1 52 (by omega), h1 53 (by omega), h1 54 (by omega), h1 55 (by omega), h1 56 (by omega), h1 57 (by omega),
    h2 0 (by omega), h2 2 (by omega), h2 10 (by omega), h2 3 (by omega), h2 7 (by omega), h2 11 (by omega), h2 21 (by omega),
    h3 0 (by omega), h3 1 (by omega), h3 2 (by omega), h3 3 (by omega), h3 4 (by omega), h3 5 (by omega), h3 6 (by omega), h3 7 (by omega), h3 8 (by omega), h3 9 (by omega), h3 10 (by omega), h3 11 (by omega), h3 12 (by omega), h3 13 (by omega), h3 14 (by omega), h3 23 (by omega), h3 24 (by omega), h3 25 (by omega), h3 26 (by omega), h3 27 (by omega), h3 41 (by omega)]
  exact h
theorem OKC.cg {v v' : jW} (h : OKC v) (h3 : ∀ o, o < 28 ∨ o = 41 → v' o = v o) : OKC v' := by
  unfold OKC at h ⊢
  rw [h3 0 (by omega), h3 1 (by omega), h3 2 (by omega), h3 3 (by omega), h3 4 (by omega), h3 5 (by omega), h3 6 (by omega), h3 7 (by omega), h3 8 (by omega), h3 9 (by omega), h3 10 (by omega), h3 11 (by omega), h3 12 (by omega), h3 13 (by omega), h3 14 (by omega), h3 23 (by omega), h3 24 (by omega), h3 25 (by omega), h3 26 (by omega), h3 27 (by omega)]
  exact h
theorem VM.t {w w' v : jW} (h : VM w v) (h' : SMo w w') : VM w' v := ⟨h.1, h.2.cg (fun o q => h'.1 o (by omega)) h'.2 (fun _ _ => rfl)⟩
theorem INV.vm {K : Int} {w w1 : jW} (h : INV K w) (h1 : SX w w1) : VM w1 w := ⟨h.1, h.2.1.cg (fun o q => h1 o (by omega)) (fun f _ => by rw [h1 45 (by omega)]) (fun _ _ => rfl)⟩
/-- the end of a question -/
theorem INV.q {K : Int} {w w1 w2 : jW} {r r' : jV} (h : INV K w) (h1 : SX w w1) (hl : LK (K + 2100) w1) (h2 : SMo w1 w2) (e : r = r') : Fin K w r r' w2 := by
  have h3 : ∀ o, o < 28 ∨ o = 41 → w2 o = w o := fun o q => (h2.1 o (by omega)).trans (h1 o (by omega))
  refine ⟨e, ⟨h.1.cg h3, ((h.vm h1).t h2).2.cg (fun _ _ => rfl) (fun _ _ => rfl) h3, ?_⟩, fun o q => (h2.1 o (by omega)).trans (h1 o (by omega))⟩
  unfold LK at hl ⊢
  rw [h2.1 30 (by omega), h2.1 37 (by omega)]
  exact hl
theorem LK.s {K : Int} {w w1 : jW} (h : LK K w) (h30 : w1 30 = w 30) (h37 : w1 37 = w 37) : LK (K + 2100) w1 := by
  have := h.le (K' := K + 2100) (by omega)
  unfold LK at this ⊢
  rw [h30, h37]; exact this
section SQ
variable {w v : jW} {Q : jV → jW → Prop} {K x y z a b c d e n p k : Int}
theorem VM.eq (h : VM w v) : w 45 0 = v 1 0 ∧ w 45 2 = v 1 1 ∧ w 45 3 = v 1 3 ∧ w 45 7 = v 1 4 := ⟨h.2.1.1, h.2.1.2.1, h.2.1.2.2.2.1, h.2.1.2.2.2.2.1⟩
theorem VM.wk (h : VM w v) : (0 ≤ v 1 4 ∧ v 1 4 ≤ 4) ∧ (0 ≤ v 1 3 ∧ v 1 3 ≤ 8) ∧ (3 ≤ v 1 0 ∧ v 1 0 ≤ 7) := ⟨h.1.1.2.2.2.1, h.1.1.2.2.1, h.1.1.1⟩
theorem VM.pt (h : VM w v) (hp : 0 ≤ p ∧ p < v 1 3) : (w 47 p = v 3 p ∧ w 48 p = v 4 p ∧ w 49 p = v 5 p) ∧ (0 ≤ v 3 p ∧ v 3 p ≤ 5) ∧ (0 ≤ v 4 p ∧ v 4 p ≤ 9) ∧ cellB (v 1 0) (v 5 p) ∧ c67 (v 5 p) := by
  obtain ⟨a, b, c⟩ := h.1.1.2.2.2.2.2.1 p hp.1 hp.2
  exact ⟨⟨h.2.2.2.1 p hp.1 hp.2, h.2.2.2.2.1 p hp.1 hp.2, h.2.2.2.2.2.1 p hp.1 hp.2⟩, a, b, c, c.1, cell67 h.1.1.1.2 c⟩
theorem VM.kt (h : VM w v) (hp : 0 ≤ p ∧ p < v 1 4) : (w 50 p = v 6 p ∧ w 51 p = v 7 p) ∧ dryB (v 1 0) (v 2) (v 6 p) ∧ (0 ≤ v 7 p ∧ v 7 p ≤ 9) ∧ c67 (v 6 p) := by
  obtain ⟨a, b⟩ := h.1.1.2.2.2.2.2.2 p hp.1 hp.2
  exact ⟨⟨h.2.2.2.2.2.2.1 p hp.1 hp.2, h.2.2.2.2.2.2.2.1 p hp.1 hp.2⟩, a, b, a.1.1, cell67 h.1.1.1.2 a.1⟩
theorem VM.isCell (h : VM w v) (hx : in64 x) : AW mM_isCell 0 [jR 45, jL x, jX] [] w Q = Q (jI (jb (cellB (v 1 0) x))) w := by
  rw [sM_isCell hx, h.eq.1]
theorem VM.isPost (h : VM w v) : AW mM_isPost 0 [jR 45, jL x, jX] [] w Q = Q (jI (jb (0 ≤ x ∧ x < v 1 3))) w := by
  rw [sM_isPost, h.eq.2.2.1]
theorem VM.isWalker (h : VM w v) : AW mM_isWalker 0 [jR 45, jI x] [] w Q = Q (jI (jb (0 ≤ x ∧ x < v 1 4))) w := by
  have := h.wk
  have e := h.eq.2.2.2
  rw [sM_isWalker (by omega) (by omega), e]
theorem VM.armFor (h : VM w v) (hp : 0 ≤ p ∧ p < v 1 3) (hc : c67 c) : AW mM_armFor 0 [jR 45, jI p, jI c] [] w Q = Q (jI (armO v p c)) (jup (jup w 45 24 1) 59 0 c) := by
  have k := h.wk
  obtain ⟨⟨a1, a2, a3⟩, b, c1, d, e⟩ := h.pt hp
  rw [sM_armFor (by omega) hc (by rw [a3]; exact e), a1, a2, a3]
  rfl
theorem SMo.one {w : jW} {c : Int} : SMo w (jup (jup w 45 24 1) 59 0 c) := SMo.t SMo.l (SMo.j (by omega))
theorem SX.one {w : jW} {c : Int} : SX w (jup (jup w 29 0 c) 28 1 1) := SX.t (SX.j (by omega)) (SX.j (by omega))
/-- the class's arm, when one stands in sight -/
theorem sX_armOne (h : OKC w) (hp : 0 ≤ p ∧ p < w 1 3) (h1 : w 28 1 = 1) (h2 : w 29 0 = c) (hc : c67 c) : AW mX_armInSight 0 [jR 0, jI p] [] w Q = Q (jI (armO w p c)) w := by
  have k : 0 ≤ w 1 3 ∧ w 1 3 ≤ 8 := h.1.2.2.1
  obtain ⟨a, b, d⟩ := h.1.2.2.2.2.2.1 p hp.1 hp.2
  have d67 := cell67 h.1.1.2 d
  rw [bX_armInSight_0, if_pos (by omega), if_pos (by omega), if_pos (by omega), sG_armBy (by omega) (by omega) (by intro i q1 q2; rw [show i = 0 by omega, h2]; exact hc) ⟨d.1, d67⟩, bX_armInSight_34, h1]
  unfold armO
  rw [armR_cg (by omega) (g := fun _ => c)]
  intro i q1 q2
  rw [show i = 0 by omega]; exact h2
theorem p_isBog (h : INV K w) (hx : in32 x) : Both mX_isBog mM_isBog [jR 0, jI x] [jR 45, jI x] K w := by
  unfold Both
  unfold in32 at hx
  have k := h.wk
  rw [bX_isBog_0, sL_isCell k.2.2.2, bX_isBog_9, jb_ite]
  by_cases c : cellB (w 1 0) x
  · have c67 := cell67 k.2.2.2 c
    have e := h.2.1.2.1 x c.1 c67
    have b := h.b46 x c.1 c67
    have c0 := c.1
    rw [if_pos c, if_pos ⟨c.1, c67⟩, bM_isBog_0, (h.vm SX.r).isCell (by unfold in64; omega), bM_isBog_6, jb_ite, if_pos c, if_pos ⟨c.1, c67⟩]
    split
    · rw [bM_isBog_32]; exact h.fin (by congr 1; omega)
    · rw [bM_isBog_32]; exact h.fin (by congr 1; omega)
  · rw [if_neg c, sX_refuse2, bX_isBog_18, bM_isBog_0, sM_isCell (by unfold in64; omega), bM_isBog_6, jb_ite, rX_n (by omega), h.eq.1, if_neg c, sM_no2, bM_isBog_32]
    exact h.ref (by omega) (by omega)
theorem p_way (h : INV K w) (hx : in32 x) (hy : in32 y) : Both mX_way mM_way [jR 0, jI x, jI y] [jR 45, jI x, jI y] K w := by
  unfold Both
  unfold in32 at hx hy
  have k := h.wk
  have F := h.ref (a := -2) (by omega) (by omega)
  rw [bX_way_0, sL_isCell k.2.2.2, bX_way_9, jb_ite]
  by_cases c : cellB (w 1 0) x
  · rw [if_pos c, sL_isCell k.2.2.2, bX_way_21, jb_ite]
    by_cases d : cellB (w 1 0) y
    · have c6 : c67 x := ⟨c.1, cell67 k.2.2.2 c⟩
      have d6 : c67 y := ⟨d.1, cell67 k.2.2.2 d⟩
      rw [if_pos d, sX_wayBetween c6 d6, bX_way_36, bM_way_0, (h.vm SX.r).isCell (by unfold in64; omega), bM_way_6, jb_ite, if_pos c, (h.vm SX.r).isCell (by unfold in64; omega), bM_way_15, jb_ite, if_pos d, sM_wayTo c6 d6, bM_way_23, bM_way_32]
      exact h.fin rfl
    · rw [if_neg d, sX_refuse2, bX_way_30, bM_way_0, sM_isCell (by unfold in64; omega), bM_way_6, jb_ite, rX_n (by omega), h.eq.1, if_pos c, sM_isCell (by unfold in64; omega), bM_way_15, jb_ite, rX_n (by omega), h.eq.1, if_neg d, sM_no2, bM_way_32]
      exact F
  · rw [if_neg c, sX_refuse2, bX_way_30, bM_way_0, sM_isCell (by unfold in64; omega), bM_way_6, jb_ite, rX_n (by omega), h.eq.1, if_neg c, sM_no2, bM_way_32]
    exact F
end SQ
