/-- only the sight changes -/
def S2 (w u : jW) : Prop := ∀ o, o ≠ 28 ∧ o ≠ 29 → u o = w o
section SU
variable {w v u : jW} {Q : jV → jW → Prop} {K x y z a b c d e n p k : Int}
theorem S2.sx (h : S2 w u) : SX w u := fun o q => h o (by omega)
theorem S2.lk (h : S2 w u) (hl : LK K w) : LK (K + 2100) u := hl.s (h 30 (by omega)) (h 37 (by omega))
theorem S2.r : S2 w w := fun _ _ => rfl
theorem S2.o (h : S2 w u) (c : Int) : S2 w (jup (jup u 29 0 c) 28 1 1) := fun o q => by rw [jupn q.1, jupn q.2, h o q]
theorem S2.ok (h : S2 w u) (hO : OKC w) : OKC u := hO.cg (fun o q => h o (by omega))
theorem S2.arm (h : S2 w u) (hO : OKC w) (hp : 0 ≤ p ∧ p < w 1 3) (hc : c67 c) : AW mX_armInSight 0 [jR 0, jI p] [] (jup (jup u 29 0 c) 28 1 1) Q = Q (jI (armO w p c)) (jup (jup u 29 0 c) 28 1 1) := by
  rw [sX_armOne ((h.o c).ok hO) (by rw [(h.o c) 1 (by omega)]; exact hp) (by simp (disch := omega) only [jups, up1_s]) (by simp (disch := omega) only [jupn, jups, up1_s]) hc]
  unfold armO
  rw [(h.o c) 3 (by omega), (h.o c) 4 (by omega), (h.o c) 5 (by omega)]
def rightP (v : jW) (p c : Int) : Int := if dryB (v 1 0) (v 2) c ∧ armO v p c = wayF (v 5 p) c then 1 else 0
theorem rightP_in : 0 ≤ rightP v p c ∧ rightP v p c ≤ 1 := by unfold rightP; split <;> omega
theorem sX_right (hO : OKC w) (hp : 0 ≤ p ∧ p < w 1 3) (m : Nat) : ∀ (j : Nat) (u : jW), 67 - j = m → j ≤ 67 → S2 w u → (∀ u', S2 w u' → Q (jI (sm (rightP w p) 67)) u') →
    AW mX_right 23 [jR 0, jI p, jI (sm (rightP w p) j), jI j] [] u Q := by
  have k3 : 0 ≤ w 1 3 ∧ w 1 3 ≤ 8 := hO.1.2.2.1
  have k0 : 3 ≤ w 1 0 ∧ w 1 0 ≤ 7 := hO.1.1
  obtain ⟨q1, q2, q3⟩ := hO.1.2.2.2.2.2.1 p hp.1 hp.2
  induction m with
  | zero =>
    intro j u hm hj hu hQ
    rw [bX_right_23, if_neg (by omega), show j = 67 by omega]
    exact hQ u hu
  | succ m ih =>
    intro j u hm hj hu hQ
    have si := sm_in (f := rightP w p) (lo := 0) (hi := 1) j (fun _ _ _ => rightP_in)
    rw [bX_right_23, if_pos (by omega), sL_isDry (by rw [hu 1 (by omega)]; omega), bX_right_38, jb_ite, hu 1 (by omega), hu 2 (by omega), n32s (x := (j : Int) + 1) (by omega) (by omega)]
    have S : sm (rightP w p) (j + 1) = sm (rightP w p) j + rightP w p (j : Int) := rfl
    by_cases c : dryB (w 1 0) (w 2) (j : Int)
    · have ih' := ih (j + 1) (jup (jup u 29 0 (j : Int)) 28 1 1) (by omega) (by omega) (hu.o _) hQ
      have h67 : c67 (j : Int) := ⟨by omega, by omega⟩
      rw [if_pos c, sG_seeOne, bX_right_49, hu.arm hO hp h67, bX_right_55, if_pos (by omega), (hu.o _) 5 (by omega), sX_wayBetween ⟨q3.1, cell67 hO.1.1.2 q3⟩ h67, bX_right_68, n32s (x := sm (rightP w p) j + 1) (by omega) (by omega), n32s (x := sm (rightP w p) j + 0) (by omega) (by omega), n32s (x := (j : Int) + 1) (by omega) (by omega)]
      by_cases q : armO w p (j : Int) = wayF (w 5 p) (j : Int)
      · rw [if_pos q]; rw [S, show rightP w p (j : Int) = 1 from if_pos ⟨c, q⟩] at ih'; exact ih'
      · rw [if_neg q]; rw [S, show rightP w p (j : Int) = 0 from if_neg (fun t => q t.2)] at ih'; exact ih'
    · have ih' := ih (j + 1) u (by omega) (by omega) hu hQ
      rw [if_neg c]; rw [S, show rightP w p (j : Int) = 0 from if_neg (fun t => c t.1), Int.add_zero] at ih'; exact ih'
theorem VM.isDry (h : VM w v) (hx : in32 x) : AW mM_isDry 0 [jR 45, jI x] [] w Q = Q (jI (jb (dryB (v 1 0) (v 2) x))) w := by
  have k := h.wk
  have e := h.eq.1
  rw [sM_isDry (by omega) hx, e]
  congr 2
  apply jb_congr
  constructor
  · rintro ⟨a, b⟩; exact ⟨a, by rw [← h.2.2.1 x a.1 (cell67 k.2.2.2 a)]; exact b⟩
  · rintro ⟨a, b⟩; exact ⟨a, by rw [h.2.2.1 x a.1 (cell67 k.2.2.2 a)]; exact b⟩
theorem sM_right (hp : 0 ≤ p ∧ p < v 1 3) (m : Nat) : ∀ (j : Nat) (u : jW), 67 - j = m → j ≤ 67 → VM u v → (∀ u', SMo u u' → Q (jI (sm (rightP v p) 67)) u') →
    AW mM_right 20 [jR 45, jI p, jI (sm (rightP v p) j), jI j] [] u Q := by
  induction m with
  | zero =>
    intro j u hm hj hV hQ
    rw [bM_right_20, if_neg (by omega), show j = 67 by omega]
    exact hQ u SMo.r
  | succ m ih =>
    intro j u hm hj hV hQ
    have k := hV.wk
    have pt := hV.pt hp
    have si := sm_in (f := rightP v p) (lo := 0) (hi := 1) j (fun _ _ _ => rightP_in)
    rw [bM_right_20, if_pos (by omega), hV.isDry (by unfold in32; omega), bM_right_31, jb_ite, n32s (x := (j : Int) + 1) (by omega) (by omega)]
    have S : sm (rightP v p) (j + 1) = sm (rightP v p) j + rightP v p (j : Int) := rfl
    by_cases c : dryB (v 1 0) (v 2) (j : Int)
    · have ih' := ih (j + 1) (jup (jup u 45 24 1) 59 0 (j : Int)) (by omega) (by omega) (hV.t SMo.one) (fun u' h' => hQ u' (SMo.one.t h'))
      have h67 : c67 (j : Int) := ⟨by omega, by omega⟩
      rw [if_pos c, hV.armFor hp h67, bM_right_40, if_pos (by omega), (hV.t (SMo.one (c := (j : Int)))).pt hp |>.1.2.2, sM_wayTo pt.2.2.2.2 h67, bM_right_50, n32s (x := sm (rightP v p) j + 1) (by omega) (by omega), n32s (x := (j : Int) + 1) (by omega) (by omega)]
      by_cases q : armO v p (j : Int) = wayF (v 5 p) (j : Int)
      · rw [if_pos q]; rw [S, show rightP v p (j : Int) = 1 from if_pos ⟨c, q⟩] at ih'; exact ih'
      · rw [if_neg q]; rw [S, show rightP v p (j : Int) = 0 from if_neg (fun t => q t.2), Int.add_zero] at ih'; exact ih'
    · have ih' := ih (j + 1) u (by omega) (by omega) hV hQ
      rw [if_neg c]; rw [S, show rightP v p (j : Int) = 0 from if_neg (fun t => c t.1), Int.add_zero] at ih'; exact ih'
theorem p_right (h : INV K w) (hx : in32 x) : Both mX_right mM_right [jR 0, jI x, jX, jX] [jR 45, jI x, jX, jX] K w := by
  unfold Both
  have k := h.wk
  rw [bX_right_0, sL_hasPost, bX_right_9, jb_ite]
  by_cases c : 0 ≤ x ∧ x < w 1 3
  · rw [if_pos c]
    refine sX_right h.1 c _ 0 w rfl (by omega) S2.r (fun u hu => ?_)
    have V := h.vm hu.sx
    rw [bM_right_0, V.isPost, bM_right_6, jb_ite, if_pos c]
    refine sM_right c _ 0 u rfl (by omega) V (fun u' h' => ?_)
    exact h.q hu.sx (hu.lk h.2.2) h' rfl
  · rw [if_neg c, sX_refuse2, bX_right_18, bM_right_0, sM_isPost, bM_right_6, jb_ite, rX_n (by omega), h.eq.2.2.1, if_neg c, sM_no2, bM_right_15]
    exact h.ref (by omega) (by omega)
end SU
