/-! the first of the least -/
def lsR (f : Int → Int) : Nat → Int
  | 0 => 0
  | m + 1 => if f ((m : Int) + 1) < f (lsR f m) then (m : Int) + 1 else lsR f m
theorem lsR_y {f : Int → Int} {m : Nat} (h : f ((m : Int) + 1) < f (lsR f m)) : lsR f (m + 1) = (m : Int) + 1 := if_pos h
theorem lsR_n {f : Int → Int} {m : Nat} (h : ¬ f ((m : Int) + 1) < f (lsR f m)) : lsR f (m + 1) = lsR f m := if_neg h
theorem lsR_in {f : Int → Int} (m : Nat) : 0 ≤ lsR f m ∧ lsR f m ≤ m := by
  induction m with
  | zero => exact ⟨Int.le_refl _, Int.le_refl _⟩
  | succ m ih =>
    by_cases h : f ((m : Int) + 1) < f (lsR f m)
    · rw [lsR_y h]; omega
    · rw [lsR_n h]; omega
theorem lsR_cg {f g : Int → Int} (m : Nat) (h : ∀ a b, 0 ≤ a → a ≤ (m : Int) → 0 ≤ b → b ≤ (m : Int) → (f a < f b ↔ g a < g b)) : lsR f m = lsR g m := by
  induction m with
  | zero => rfl
  | succ m ih =>
    have a := ih (fun a b q1 q2 q3 q4 => h a b q1 (by omega) q3 (by omega))
    have i := lsR_in (f := f) m
    have e := h ((m : Int) + 1) (lsR f m) (by omega) (by omega) i.1 (by omega)
    by_cases c : f ((m : Int) + 1) < f (lsR f m)
    · rw [lsR_y c, lsR_y (by rw [← a]; exact e.mp c)]
    · rw [lsR_n c, lsR_n (by rw [← a]; exact fun t => c (e.mpr t)), a]
noncomputable def outX (w : jW) (k : Int) : Int := if disW w (w 1 1) (w 6 k) = -1 then -67 else - disW w (w 1 1) (w 6 k)
noncomputable def outM (w : jW) (k : Int) : Int := if disW w (w 6 k) (w 1 1) = -1 then -99 else - disW w (w 6 k) (w 1 1)
section WA
variable {w v : jW} {Q : jV → jW → Prop} {K x : Int}
theorem sX_lsure (h4 : w 1 4 ≤ 4) (m : Nat) : ∀ j : Nat, (w 1 4 - 1 - j).toNat = m → (j : Int) + 1 ≤ w 1 4 → AW mX_leastSure 4 [jR 0, jI (lsR (w 7) j), jI ((j : Int) + 1)] [] w Q = Q (jI (lsR (w 7) (w 1 4 - 1).toNat)) w := by
  induction m with
  | zero =>
    intro j hm hj
    rw [bX_leastSure_4, if_neg (by omega), show (w 1 4 - 1).toNat = j by omega]
  | succ m ih =>
    intro j hm hj
    have i := lsR_in (f := w 7) j
    have ih' := ih (j + 1) (by omega) (by omega)
    rw [bX_leastSure_4, if_pos (by omega), if_pos (by omega), if_pos (by omega), n32s (x := (j : Int) + 1 + 1) (by omega) (by omega)]
    by_cases c : w 7 ((j : Int) + 1) < w 7 (lsR (w 7) j)
    · rw [if_pos c]; rw [lsR_y c] at ih'; exact ih'
    · rw [if_neg c]; rw [lsR_n c] at ih'; exact ih'
theorem sM_lsure (h4 : w 45 7 ≤ 4) (m : Nat) : ∀ j : Nat, (w 45 7 - 1 - j).toNat = m → (j : Int) + 1 ≤ w 45 7 → AW mM_worst 34 [jR 45, jI 0, jI (lsR (w 51) j), jI ((j : Int) + 1)] [] w Q = Q (jI (lsR (w 51) (w 45 7 - 1).toNat)) w := by
  induction m with
  | zero =>
    intro j hm hj
    rw [bM_worst_34, if_neg (by omega), show (w 45 7 - 1).toNat = j by omega]
  | succ m ih =>
    intro j hm hj
    have i := lsR_in (f := w 51) j
    have ih' := ih (j + 1) (by omega) (by omega)
    rw [bM_worst_34, if_pos (by omega), if_pos rfl, if_pos (by omega), if_pos (by omega), n32s (x := (j : Int) + 1 + 1) (by omega) (by omega)]
    by_cases c : w 51 ((j : Int) + 1) < w 51 (lsR (w 51) j)
    · rw [if_pos c]; rw [lsR_y c] at ih'; exact ih'
    · rw [if_neg c]; rw [lsR_n c] at ih'; exact ih'
theorem sX_lout24 (u : jW) (hn : w 1 0 ≤ 7) (hh : cellB (w 1 0) (w 1 1)) (h4 : w 1 4 ≤ 4) (h1 : u 1 = w 1) (h6 : u 6 = w 6) (h39 : ∀ c, c67 c → u 39 c = disW w (w 1 1) c) (hk : ∀ k, 0 ≤ k → k < w 1 4 → c67 (w 6 k)) (m : Nat) :
    ∀ (j : Nat) (y4 y5 : jV), (w 1 4 - 1 - j).toNat = m → (j : Int) + 1 ≤ w 1 4 → AW mX_longestOut 24 [jR 0, jI (lsR (outX w) j), jI (- outX w (lsR (outX w) j)), jI ((j : Int) + 1), y4, y5] [] u Q = Q (jI (lsR (outX w) (w 1 4 - 1).toNat)) u := by
  induction m with
  | zero =>
    intro j y4 y5 hm hj
    rw [bX_longestOut_24, h1, if_neg (by omega), show (w 1 4 - 1).toNat = j by omega]
  | succ m ih =>
    intro j y4 y5 hm hj
    have i := lsR_in (f := outX w) j
    have ih' := fun y4 y5 => ih (j + 1) y4 y5 (by omega) (by omega)
    have c6 := hk ((j : Int) + 1) (by omega) (by omega)
    have c6' := c6
    unfold c67 at c6'
    rw [bX_longestOut_24, h1, if_pos (by omega), if_pos (by omega), h6, sP_stepsTo, if_pos c6', h39 _ c6, bX_longestOut_52]
    have T : ∀ s y4, s = - outX w ((j : Int) + 1) → AW mX_longestOut 67 [jR 0, jI (lsR (outX w) j), jI (- outX w (lsR (outX w) j)), jI ((j : Int) + 1), y4, y5] [jI s] u Q = Q (jI (lsR (outX w) (w 1 4 - 1).toNat)) u := by
      intro s y4 hs
      rw [bX_longestOut_67, n32s (x := (j : Int) + 1 + 1) (by omega) (by omega), hs]
      by_cases c : outX w ((j : Int) + 1) < outX w (lsR (outX w) j)
      · rw [if_pos (by omega)]
        have := ih' y4 (jI (- outX w ((j : Int) + 1)))
        rw [lsR_y c] at this; exact this
      · rw [if_neg (by omega)]
        have := ih' y4 (jI (- outX w ((j : Int) + 1)))
        rw [lsR_n c] at this; exact this
    by_cases c : disW w (w 1 1) (w 6 ((j : Int) + 1)) = -1
    · rw [if_pos c]
      exact T 67 _ (by unfold outX; rw [if_pos c]; rfl)
    · rw [if_neg c]
      exact T _ _ (by unfold outX; rw [if_neg c]; omega)
theorem sX_lout (h : OKC w) (h1 : 1 ≤ w 1 4) (hQ : ∀ f q, Q (jI (lsR (outX w) (w 1 4 - 1).toNat)) (PW w f q)) : AW mX_longestOut 0 [jR 0, jX, jX, jX, jX, jX] [] w Q := by
  have h4 : 0 ≤ w 1 4 ∧ w 1 4 ≤ 4 := h.1.2.2.2.1
  have hn : 3 ≤ w 1 0 ∧ w 1 0 ≤ 7 := h.1.1
  have hh : cellB (w 1 0) (w 1 1) := h.1.2.1.1
  rw [bX_longestOut_0]
  refine h.measure hh (fun f q hf => ?_)
  have e1 : PW w f q 1 = w 1 := PW_n (by omega)
  have e6 : PW w f q 6 = w 6 := PW_n (by omega)
  have c6 := (h.kt (p := 0) ⟨by omega, by omega⟩).2.2
  have c6' := c6
  unfold c67 at c6'
  have di := disW_in hn.2 hh c6
  have L := fun y4 y5 => sX_lout24 (Q := Q) (PW w f q) hn.2 hh h4.2 e1 e6 (fun c hc => by rw [PW_39]; exact hf c hc) (fun k q1 q2 => (h.kt ⟨q1, q2⟩).2.2) _ 0 y4 y5 rfl (by omega)
  have z : lsR (outX w) 0 = 0 := rfl
  rw [z] at L
  rw [bX_longestOut_18, bX_longestOut_24, e1, if_pos (by omega), if_pos (by omega), e6, sP_stepsTo, if_pos c6', PW_39, hf _ c6, bX_longestOut_52]
  have T : ∀ s y4, s = - outX w 0 → -1 < s → AW mX_longestOut 67 [jR 0, jI 0, jI (-1), jI 0, y4, jX] [jI s] (PW w f q) Q := by
    intro s y4 hs h0
    rw [bX_longestOut_67, if_pos h0, hs, n32s (x := 0 + 1) (by omega) (by omega)]
    exact (L y4 _).mpr (hQ f q)
  by_cases c : disW w (w 1 1) (w 6 0) = -1
  · rw [if_pos c]
    exact T 67 _ (by unfold outX; rw [if_pos c]; rfl) (by omega)
  · rw [if_neg c]
    exact T _ _ (by unfold outX; rw [if_neg c]; omega) (by omega)
theorem VM.out {k : Int} (h : VM w v) (hk : 0 ≤ k ∧ k < v 1 4) (hQ : ∀ g, Q (jI (- outM v k)) (jwr w 60 g)) : AW mM_out 0 [jR 45, jI k, jX] [] w Q := by
  have kk := h.wk
  have kt := h.kt hk
  have hh : cellB (v 1 0) (v 1 1) := h.1.1.2.1.1
  rw [bM_out_0, if_pos (by omega), kt.1.1, h.eq.2.1]
  refine h.pathOf kt.2.1.1 ⟨hh.1, cell67 kk.2.2.2 hh⟩ (fun g => ?_)
  have := hQ g
  unfold outM at this
  rw [bM_out_14]
  by_cases c : disW v (v 6 k) (v 1 1) = -1
  · rw [if_pos c] at this ⊢; exact this
  · rw [if_neg c] at this ⊢; rw [Int.neg_neg] at this; exact this
theorem sM_lout34 (hx : x ≠ 0) (m : Nat) : ∀ (j : Nat) (w : jW), (v 1 4 - 1 - j).toNat = m → (j : Int) + 1 ≤ v 1 4 → VM w v → (∀ u, SMo w u → Q (jI (lsR (outM v) (v 1 4 - 1).toNat)) u) →
    AW mM_worst 34 [jR 45, jI x, jI (lsR (outM v) j), jI ((j : Int) + 1)] [] w Q := by
  induction m with
  | zero =>
    intro j w hm hj h hQ
    have e := h.eq.2.2.2
    rw [bM_worst_34, if_neg (by omega), show (j : Nat) = (v 1 4 - 1).toNat by omega]
    exact hQ w SMo.r
  | succ m ih =>
    intro j w hm hj h hQ
    have e := h.eq.2.2.2
    have kk := h.wk
    have i := lsR_in (f := outM v) j
    rw [bM_worst_34, if_pos (by omega), if_neg hx]
    refine h.out (by omega) (fun g => ?_)
    have h1 : VM (jwr w 60 g) v := h.w60
    rw [bM_worst_69]
    refine h1.out (by omega) (fun g' => ?_)
    have h2 : VM (jwr (jwr w 60 g) 60 g') v := h1.w60
    have s : SMo w (jwr (jwr w 60 g) 60 g') := SMo.t (SMo.w (by omega)) (SMo.w (by omega))
    have ih' := ih (j + 1) _ (by omega) (by omega) h2 (fun u hu => hQ u (s.t hu))
    rw [bM_worst_74, n32s (x := (j : Int) + 1 + 1) (by omega) (by omega)]
    by_cases c : outM v ((j : Int) + 1) < outM v (lsR (outM v) j)
    · rw [if_pos (by omega)]
      rw [lsR_y c] at ih'; exact ih'
    · rw [if_neg (by omega)]
      rw [lsR_n c] at ih'; exact ih'
theorem out_cg (h : OKC w) (h1 : 1 ≤ w 1 4) : lsR (outX w) (w 1 4 - 1).toNat = lsR (outM w) (w 1 4 - 1).toNat := by
  have hn : 3 ≤ w 1 0 ∧ w 1 0 ≤ 7 := h.1.1
  have hh : dryB (w 1 0) (w 2) (w 1 1) := h.1.2.1
  have E : ∀ k, 0 ≤ k → k < w 1 4 → disW w (w 6 k) (w 1 1) = disW w (w 1 1) (w 6 k) ∧ -1 ≤ disW w (w 1 1) (w 6 k) ∧ disW w (w 1 1) (w 6 k) ≤ 66 := by
    intro k q1 q2
    have kt := h.kt ⟨q1, q2⟩
    exact ⟨disW_sym hn.2 kt.1 hh, disW_in hn.2 hh.1 kt.2.2⟩
  refine lsR_cg _ (fun a b p1 p2 p3 p4 => ?_)
  have ea := E a p1 (by omega)
  have eb := E b p3 (by omega)
  unfold outX outM
  rw [ea.1, eb.1]
  by_cases ca : disW w (w 1 1) (w 6 a) = -1 <;> by_cases cb : disW w (w 1 1) (w 6 b) = -1 <;> simp only [ca, cb, if_true, if_false] <;> omega
theorem p_worst (h : INV K w) : Both mX_worst mM_worst [jR 0, jI x] [jR 45, jI x, jX, jX] K w := by
  unfold Both
  have k := h.wk
  have F := h.ref (a := -2) (by omega) (by omega)
  have F5 := h.ref (a := -5) (by omega) (by omega)
  have e7 := h.eq.2.2.2.1
  have N : ∀ u, VM u w → ∀ Q, 0 ≤ x ∧ x ≤ 1 → AW mM_worst 0 [jR 45, jI x, jX, jX] [] u Q = if w 1 4 = 0 then Q (jI (-5)) (rM u (-5)) else AW mM_worst 34 [jR 45, jI x, jI 0, jI 1] [] u Q := by
    intro u hu Q d
    rw [bM_worst_0, sM_within, bM_worst_6, jb_ite, if_pos d, hu.eq.2.2.2, sM_no5, bM_worst_29]
  rw [bX_worst_0, sX_isWithin, bX_worst_7, jb_ite]
  by_cases d : 0 ≤ x ∧ x ≤ 1
  · rw [if_pos d]
    by_cases z : w 1 4 = 0
    · rw [if_pos z, sX_refuse5, bX_worst_33, N _ (h.vR _) _ d, if_pos z]
      exact F5
    · rw [if_neg z]
      by_cases x0 : x = 0
      · rw [if_pos x0, bX_leastSure_0]
        refine (sX_lsure (by omega) _ 0 rfl (by omega)).mpr ?_
        rw [bX_worst_42, bX_worst_49, N _ (h.vm SX.r) _ d, if_neg z, x0]
        refine (sM_lsure (by omega) _ 0 rfl (by omega)).mpr ?_
        refine h.q SX.r (h.2.2.le (by omega)) SMo.r ?_
        rw [e7]
        congr 1
        refine lsR_cg _ (fun a b p1 p2 p3 p4 => ?_)
        rw [((h.vm SX.r).kt (p := a) (by omega)).1.2, ((h.vm SX.r).kt (p := b) (by omega)).1.2]
      · rw [if_neg x0]
        refine sX_lout h.1 (by omega) (fun f q => ?_)
        have V := h.vm (SX.PW (w := w) (f := f) (q := q))
        rw [bX_worst_49, N _ V _ d, if_neg z]
        refine sM_lout34 x0 _ 0 _ rfl (by omega) V (fun u hu => ?_)
        exact h.q SX.PW h.2.2.PW hu (by rw [out_cg h.1 (by omega)])
  · rw [if_neg d, sX_refuse2, bX_worst_16, bM_worst_0, sM_within, bM_worst_6, jb_ite, if_neg d, sM_no2, bM_worst_15]
    exact F
end WA
