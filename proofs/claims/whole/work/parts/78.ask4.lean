/-- bits of those below m where f and g are one -/
def b2 (f g : Int → Int) : Nat → Int
  | 0 => 0
  | m + 1 => if f (m : Int) = g (m : Int) then jor (b2 f g m) (jshl 1 (m : Int)) else b2 f g m
theorem b2_y {f g : Int → Int} {m : Nat} (h : f (m : Int) = g (m : Int)) : b2 f g (m + 1) = jor (b2 f g m) (jshl 1 (m : Int)) := if_pos h
theorem b2_n {f g : Int → Int} {m : Nat} (h : ¬ f (m : Int) = g (m : Int)) : b2 f g (m + 1) = b2 f g m := if_neg h
/-- the sum of the first m -/
def sm (f : Int → Int) : Nat → Int
  | 0 => 0
  | m + 1 => sm f m + f (m : Int)
theorem sm_in {f : Int → Int} {lo hi : Int} (m : Nat) (h : ∀ i, 0 ≤ i → i < (m : Int) → lo ≤ f i ∧ f i ≤ hi) : lo * m ≤ sm f m ∧ sm f m ≤ hi * m := by
  induction m with
  | zero => exact ⟨by show lo * ((0 : Nat) : Int) ≤ 0; simp, by show 0 ≤ hi * ((0 : Nat) : Int); simp⟩
  | succ m ih =>
    have a := ih (fun i q1 q2 => h i q1 (by omega))
    have b := h m (by omega) (by omega)
    show lo * ((m + 1 : Nat) : Int) ≤ sm f m + f m ∧ sm f m + f m ≤ hi * ((m + 1 : Nat) : Int)
    rw [Int.natCast_succ, Int.mul_add, Int.mul_add, Int.mul_one, Int.mul_one]
    omega
theorem sm_cg {f g : Int → Int} (m : Nat) (h : ∀ i, 0 ≤ i → i < (m : Int) → f i = g i) : sm f m = sm g m := by
  induction m with
  | zero => rfl
  | succ m ih =>
    show sm f m + f m = sm g m + g m
    rw [ih (fun i q1 q2 => h i q1 (by omega)), h m (by omega) (by omega)]
section ST
variable {w v : jW} {Q : jV → jW → Prop} {K x y z a b c d e n p k : Int}
theorem sM_armed31 (hc : c67 c) (m : Nat) : ∀ (j : Nat) (u : jW), (v 1 3 - j).toNat = m → (j : Int) ≤ v 1 3 → VM u v → (∀ u', SMo u u' → Q (jI (bR (fun p => armO v p c) a (v 1 3).toNat)) u') →
    AW mM_armed 31 [jR 45, jI c, jI a, jI (bR (fun p => armO v p c) a j), jI j] [] u Q := by
  induction m with
  | zero =>
    intro j u hm hj hV hQ
    have e3 := hV.eq.2.2.1
    rw [bM_armed_31, if_neg (by omega), show (j : Nat) = (v 1 3).toNat by omega]
    exact hQ u SMo.r
  | succ m ih =>
    intro j u hm hj hV hQ
    have e3 := hV.eq.2.2.1
    have k := hV.wk
    have ih' := ih (j + 1) (jup (jup u 45 24 1) 59 0 c) (by omega) (by omega) (hV.t SMo.one) (fun u' h' => hQ u' (SMo.one.t h'))
    rw [bM_armed_31, if_pos (by omega), hV.armFor ⟨by omega, by omega⟩ hc, bM_armed_47, n32s (by omega) (by omega)]
    by_cases q : armO v (j : Int) c = a
    · rw [if_pos q]; rw [bR_y q] at ih'; exact ih'
    · rw [if_neg q]; rw [bR_n q] at ih'; exact ih'
theorem p_armed (h : INV K w) (hx : in32 x) (hy : in32 y) : Both mX_armed mM_armed [jR 0, jI x, jI y] [jR 45, jI x, jI y, jX, jX] K w := by
  unfold Both
  unfold in32 at hx hy
  have k := h.wk
  have F := h.ref (a := -2) (by omega) (by omega)
  rw [bX_armed_0, sL_isCell k.2.2.2, bX_armed_9, jb_ite]
  by_cases c : cellB (w 1 0) x
  · have d6 : c67 x := ⟨c.1, cell67 k.2.2.2 c⟩
    rw [if_pos c, sX_isArm, bX_armed_17, jb_ite]
    by_cases d : -1 ≤ y ∧ y ≤ 8
    · have V := h.vm (SX.one (c := x))
      have O : OKC (jup (jup w 29 0 x) 28 1 1) := h.1.cg (fun o q => SX.one o (by omega))
      have e1 : jup (jup w 29 0 x) 28 1 1 1 3 = w 1 3 := by simp (disch := omega) only [jupn]
      have X := fun Q => sX_bits (w := jup (jup w 29 0 x) 28 1 1) (Q := Q) (a := y) (fun p => armO w p x) (by omega) (fun p q1 q2 Q => by
        rw [sX_armOne O ⟨q1, q2⟩ (by simp (disch := omega) only [jups, up1_s]) (by simp (disch := omega) only [jupn, jups, up1_s]) d6]
        unfold armO; simp (disch := omega) only [jupn]) _ 0 rfl (by omega)
      rw [if_pos d, sG_seeOne, bX_armed_35, bX_postsWithArm_0]
      refine (X _).mpr ?_
      rw [bX_armed_40, bM_armed_0, V.isCell (by unfold in64; omega), bM_armed_6, jb_ite, if_pos c, sM_within, bM_armed_16, jb_ite, if_pos d]
      refine sM_armed31 d6 _ 0 _ rfl (by omega) V (fun u' hu => ?_)
      exact h.q SX.one (h.2.2.s (by simp (disch := omega) only [jupn]) (by simp (disch := omega) only [jupn])) hu (by rw [e1])
    · rw [if_neg d, sX_refuse2, bX_armed_26, bM_armed_0, sM_isCell (by unfold in64; omega), bM_armed_6, jb_ite, rX_n (by omega), h.eq.1, if_pos c, sM_within, bM_armed_16, jb_ite, if_neg d, sM_no2, bM_armed_25]
      exact F
  · rw [if_neg c, sX_refuse2, bX_armed_26, bM_armed_0, sM_isCell (by unfold in64; omega), bM_armed_6, jb_ite, rX_n (by omega), h.eq.1, if_neg c, sM_no2, bM_armed_25]
    exact F
theorem sX_point (hO : OKC w) (hx : 0 ≤ x ∧ x < w 1 4) (m : Nat) : ∀ j : Nat, (w 1 3 - j).toNat = m → (j : Int) ≤ w 1 3 →
    AW mX_pointing 33 [jR 0, jI x, jI (b2 (armN w) (fun p => wayF (w 5 p) (w 6 x)) j), jI j] [] (xN w) Q = Q (jI (b2 (armN w) (fun p => wayF (w 5 p) (w 6 x)) (w 1 3).toNat)) (xN w) := by
  have k3 : 0 ≤ w 1 3 ∧ w 1 3 ≤ 8 := hO.1.2.2.1
  have k4 : 0 ≤ w 1 4 ∧ w 1 4 ≤ 4 := hO.1.2.2.2.1
  induction m with
  | zero =>
    intro j hm hj
    rw [bX_pointing_33, xN_n (by omega), if_neg (by omega), show (w 1 3).toNat = j by omega]
  | succ m ih =>
    intro j hm hj
    have ih' := ih (j + 1) (by omega) (by omega)
    obtain ⟨q1, q2, q3⟩ := hO.1.2.2.2.2.2.1 j (by omega) (by omega)
    rw [bX_pointing_33, xN_n (by omega), if_pos (by omega), hO.armN ⟨by omega, by omega⟩, bX_pointing_49, if_pos (by omega), if_pos (by omega), xN_n (by omega), xN_n (by omega), sX_wayBetween ⟨q3.1, cell67 hO.1.1.2 q3⟩ (hO.kt hx).2.2, bX_pointing_70, n32s (by omega) (by omega)]
    by_cases q : armN w (j : Int) = wayF (w 5 (j : Int)) (w 6 x)
    · rw [if_pos q]; rw [b2_y q] at ih'; exact ih'
    · rw [if_neg q]; rw [b2_n q] at ih'; exact ih'
theorem sM_point (hV : VM w v) (hx : 0 ≤ x ∧ x < v 1 4) (m : Nat) : ∀ j : Nat, (v 1 3 - j).toNat = m → (j : Int) ≤ v 1 3 →
    AW mM_pointing 23 [jR 45, jI x, jI (b2 (armN v) (fun p => wayF (v 5 p) (v 6 x)) j), jI j] [] (mN w) Q = Q (jI (b2 (armN v) (fun p => wayF (v 5 p) (v 6 x)) (v 1 3).toNat)) (mN w) := by
  have k := hV.wk
  have e3 : mN w 45 3 = v 1 3 := by rw [SMo.mN.2 3 (by omega), hV.eq.2.2.1]
  induction m with
  | zero =>
    intro j hm hj
    rw [bM_pointing_23, e3, if_neg (by omega), show (v 1 3).toNat = j by omega]
  | succ m ih =>
    intro j hm hj
    have ih' := ih (j + 1) (by omega) (by omega)
    have pt := hV.pt (p := j) ⟨by omega, by omega⟩
    have kt := hV.kt hx
    rw [bM_pointing_23, e3, if_pos (by omega), hV.armN ⟨by omega, by omega⟩, bM_pointing_36, if_pos (by omega), if_pos (by omega), mN_n (by omega), mN_n (by omega), pt.1.2.2, kt.1.1, sM_wayTo pt.2.2.2.2 kt.2.2.2, bM_pointing_51, n32s (by omega) (by omega)]
    by_cases q : armN v (j : Int) = wayF (v 5 (j : Int)) (v 6 x)
    · rw [if_pos q]; rw [b2_y q] at ih'; exact ih'
    · rw [if_neg q]; rw [b2_n q] at ih'; exact ih'
theorem p_pointing (h : INV K w) : Both mX_pointing mM_pointing [jR 0, jI x, jX, jX] [jR 45, jI x, jX, jX] K w := by
  unfold Both
  have k := h.wk
  have F := h.ref (a := -2) (by omega) (by omega)
  rw [bX_pointing_0, sL_hasWalker, bX_pointing_8, jb_ite]
  by_cases c : 0 ≤ x ∧ x < w 1 4
  · have V := h.vm (SX.xN (w := w))
    rw [if_pos c, h.1.see, bX_pointing_29]
    refine (sX_point h.1 c _ 0 rfl (by omega)).mpr ?_
    rw [bM_pointing_0, V.isWalker, bM_pointing_5, jb_ite, if_pos c, V.see, bM_pointing_19]
    refine (sM_point V c _ 0 rfl (by omega)).mpr ?_
    exact h.q SX.xN (h.2.2.s (xN_n (by omega)) (xN_n (by omega))) SMo.mN rfl
  · have e7 := h.eq.2.2.2.1
    rw [if_neg c, sX_refuse2, bX_pointing_17, bM_pointing_0, sM_isWalker (by rw [rX_n (by omega)]; omega) (by rw [rX_n (by omega)]; omega), bM_pointing_5, jb_ite, rX_n (by omega), e7, if_neg c, sM_no2, bM_pointing_14]
    exact F
end ST
