/-! the first of the least that are -/
def mn (f : Int → Int) : Nat → Int × Int
  | 0 => (-1, 0)
  | m + 1 => if f (m : Int) = -1 then mn f m else if (mn f m).1 = -1 ∨ f (m : Int) < (mn f m).2 then ((m : Int), f (m : Int)) else mn f m
theorem mn_x {f : Int → Int} {m : Nat} (h : f (m : Int) = -1) : mn f (m + 1) = mn f m := if_pos h
theorem mn_y {f : Int → Int} {m : Nat} (h : f (m : Int) ≠ -1) (h2 : (mn f m).1 = -1 ∨ f (m : Int) < (mn f m).2) : mn f (m + 1) = ((m : Int), f (m : Int)) := by
  show (if f (m : Int) = -1 then mn f m else if (mn f m).1 = -1 ∨ f (m : Int) < (mn f m).2 then ((m : Int), f (m : Int)) else mn f m) = _
  rw [if_neg h, if_pos h2]
theorem mn_n {f : Int → Int} {m : Nat} (h : f (m : Int) ≠ -1) (h2 : ¬ ((mn f m).1 = -1 ∨ f (m : Int) < (mn f m).2)) : mn f (m + 1) = mn f m := by
  show (if f (m : Int) = -1 then mn f m else if (mn f m).1 = -1 ∨ f (m : Int) < (mn f m).2 then ((m : Int), f (m : Int)) else mn f m) = _
  rw [if_neg h, if_neg h2]
theorem mn_v {f : Int → Int} (m : Nat) : (mn f m).1 = -1 ∨ ((0 ≤ (mn f m).1 ∧ (mn f m).1 < (m : Int)) ∧ (mn f m).2 = f (mn f m).1 ∧ f (mn f m).1 ≠ -1) := by
  induction m with
  | zero => exact Or.inl rfl
  | succ m ih =>
    by_cases h : f (m : Int) = -1
    · rw [mn_x h]
      rcases ih with ih | ih
      · exact Or.inl ih
      · exact Or.inr ⟨⟨ih.1.1, by omega⟩, ih.2⟩
    · by_cases h2 : (mn f m).1 = -1 ∨ f (m : Int) < (mn f m).2
      · rw [mn_y h h2]
        exact Or.inr ⟨⟨by show (0 : Int) ≤ (m : Int); omega, by show (m : Int) < ((m + 1 : Nat) : Int); omega⟩, rfl, h⟩
      · rw [mn_n h h2]
        rcases ih with ih | ih
        · exact Or.inl ih
        · exact Or.inr ⟨⟨ih.1.1, by omega⟩, ih.2⟩
theorem mn_cg {f g : Int → Int} (m : Nat) (h : ∀ i, 0 ≤ i → i < (m : Int) → f i = g i) : mn f m = mn g m := by
  induction m with
  | zero => rfl
  | succ m ih =>
    have a := ih (fun i q1 q2 => h i q1 (by omega))
    have b := h m (by omega) (by omega)
    show (if f (m : Int) = -1 then mn f m else if (mn f m).1 = -1 ∨ f (m : Int) < (mn f m).2 then ((m : Int), f (m : Int)) else mn f m) = (if g (m : Int) = -1 then mn g m else if (mn g m).1 = -1 ∨ g (m : Int) < (mn g m).2 then ((m : Int), g (m : Int)) else mn g m)
    rw [a, b]
/-- a finder's best beside the best so far -/
def comb (p n : Int × Int) (k : Int) : Int × Int := if n.1 = -1 then p else if p.1 = -1 ∨ n.2 < p.2 then (10 * k + n.1, n.2) else p
theorem comb_x {p n : Int × Int} {k : Int} (h : n.1 = -1) : comb p n k = p := if_pos h
theorem comb_y {p n : Int × Int} {k : Int} (h : n.1 ≠ -1) (h2 : p.1 = -1 ∨ n.2 < p.2) : comb p n k = (10 * k + n.1, n.2) := by unfold comb; rw [if_neg h, if_pos h2]
theorem comb_n {p n : Int × Int} {k : Int} (h : n.1 ≠ -1) (h2 : ¬ (p.1 = -1 ∨ n.2 < p.2)) : comb p n k = p := by unfold comb; rw [if_neg h, if_neg h2]
theorem comb_s {f : Int → Int} {p : Int × Int} {k : Int} {l : Nat} (hk : 0 ≤ k) (h : f (l : Int) ≠ -1) :
    comb p (mn f (l + 1)) k = if (comb p (mn f l) k).1 = -1 ∨ f (l : Int) < (comb p (mn f l) k).2 then (10 * k + (l : Int), f (l : Int)) else comb p (mn f l) k := by
  have L : ((l : Int), f (l : Int)).1 ≠ -1 := by show (l : Int) ≠ -1; omega
  by_cases h1 : (mn f l).1 = -1
  · rw [mn_y h (Or.inl h1), comb_x h1]
    by_cases h2 : p.1 = -1 ∨ f (l : Int) < p.2
    · rw [comb_y L h2, if_pos h2]
    · rw [comb_n L h2, if_neg h2]
  · have v := (mn_v (f := f) l).resolve_left h1
    by_cases h2 : p.1 = -1 ∨ (mn f l).2 < p.2
    · rw [comb_y h1 h2]
      by_cases h3 : f (l : Int) < (mn f l).2
      · rw [mn_y h (Or.inr h3), comb_y L (by rcases h2 with h2 | h2; exact Or.inl h2; exact Or.inr (Int.lt_trans h3 h2)), if_pos (Or.inr h3)]
      · rw [mn_n h (fun z => z.elim h1 h3), comb_y h1 h2, if_neg (fun z => z.elim (fun z => by have z' : 10 * k + (mn f l).1 = -1 := z; omega) h3)]
    · rw [comb_n h1 h2]
      by_cases h3 : f (l : Int) < (mn f l).2
      · rw [mn_y h (Or.inr h3)]
        by_cases h4 : p.1 = -1 ∨ f (l : Int) < p.2
        · rw [comb_y L h4, if_pos h4]
        · rw [comb_n L h4, if_neg h4]
      · rw [mn_n h (fun z => z.elim h1 h3), comb_n h1 h2, if_neg (fun z => z.elim (fun z => h2 (Or.inl z)) (fun z => h2 (Or.inr (by omega))))]
noncomputable def nlF (w : jW) (s k : Int) : Int := if w 7 k < 5 then disW w s (w 6 k) else -1
noncomputable def fdR (w : jW) : Nat → Int × Int
  | 0 => (-1, 0)
  | m + 1 => if w 7 (m : Int) < 5 then fdR w m else comb (fdR w m) (mn (nlF w (w 6 (m : Int))) (w 1 4).toNat) (m : Int)
theorem fdR_y {w : jW} {m : Nat} (h : w 7 (m : Int) < 5) : fdR w (m + 1) = fdR w m := if_pos h
theorem fdR_n {w : jW} {m : Nat} (h : ¬ w 7 (m : Int) < 5) : fdR w (m + 1) = comb (fdR w m) (mn (nlF w (w 6 (m : Int))) (w 1 4).toNat) (m : Int) := if_neg h
section FA
variable {w v : jW} {Q : jV → jW → Prop} {K x : Int}
theorem sX_nl6 {s : Int} (u : jW) (h4 : w 1 4 ≤ 4) (h1 : u 1 = w 1) (h6 : u 6 = w 6) (h7 : u 7 = w 7) (h39 : ∀ c, c67 c → u 39 c = disW w s c) (hk : ∀ k, 0 ≤ k → k < w 1 4 → c67 (w 6 k)) (m : Nat) :
    ∀ (j : Nat) (y4 : jV), (w 1 4 - j).toNat = m → (j : Int) ≤ w 1 4 → AW mX_nearestLost 6 [jR 0, jI (mn (nlF w s) j).1, jI (mn (nlF w s) j).2, jI j, y4] [] u Q = Q (jI (mn (nlF w s) (w 1 4).toNat).1) u := by
  induction m with
  | zero =>
    intro j y4 hm hj
    rw [bX_nearestLost_6, h1, if_neg (by omega), show (w 1 4).toNat = j by omega]
  | succ m ih =>
    intro j y4 hm hj
    have ih' := fun y4 => ih (j + 1) y4 (by omega) (by omega)
    have c6 := hk (j : Int) (by omega) (by omega)
    have c6' := c6
    unfold c67 at c6'
    rw [bX_nearestLost_6, h1, if_pos (by omega), bL_isLost_0, if_pos (by omega), h7]
    by_cases l : w 7 (j : Int) < 5
    · have e : nlF w s (j : Int) = disW w s (w 6 (j : Int)) := if_pos l
      rw [if_pos l, bX_nearestLost_25, if_neg (by omega), if_pos (by omega), h6, sP_stepsTo, if_pos c6', h39 _ c6, bX_nearestLost_45, ← e, n32s (x := (j : Int) + 1) (by omega) (by omega)]
      by_cases z : nlF w s (j : Int) = -1
      · rw [if_pos z, ← ih', mn_x z]; rfl
      · rw [if_neg z]
        by_cases z2 : (mn (nlF w s) j).1 = -1
        · rw [if_pos z2, ← ih', mn_y z (Or.inl z2)]; rfl
        · rw [if_neg z2]
          by_cases z3 : nlF w s (j : Int) < (mn (nlF w s) j).2
          · rw [if_pos z3, ← ih', mn_y z (Or.inr z3)]; rfl
          · rw [if_neg z3, ← ih', mn_n z (fun t => t.elim z2 z3)]; rfl
    · have e : nlF w s (j : Int) = -1 := if_neg l
      rw [if_neg l, bX_nearestLost_25, if_pos rfl, n32s (x := (j : Int) + 1) (by omega) (by omega), ← ih', mn_x e]; rfl
theorem sX_found6 (h : OKC w) (hQ : ∀ f q, Q (jI (fdR w (w 1 4).toNat).1) (PW w f q)) (m : Nat) :
    ∀ (j : Nat) (f q : Int → Int) (y4 y5 : jV), (w 1 4 - j).toNat = m → (j : Int) ≤ w 1 4 → AW mX_found 6 [jR 0, jI (fdR w j).1, jI (fdR w j).2, jI j, y4, y5] [] (PW w f q) Q := by
  have h4 : 0 ≤ w 1 4 ∧ w 1 4 ≤ 4 := h.1.2.2.2.1
  induction m with
  | zero =>
    intro j f q y4 y5 hm hj
    rw [bX_found_6, PW_n (by omega), if_neg (by omega), show j = (w 1 4).toNat by omega]
    exact hQ f q
  | succ m ih =>
    intro j f q y4 y5 hm hj
    have ih' := fun f q y4 y5 => ih (j + 1) f q y4 y5 (by omega) (by omega)
    have kt := h.kt (p := (j : Int)) ⟨by omega, by omega⟩
    have e1 : PW w f q 1 = w 1 := PW_n (by omega)
    have e2 : PW w f q 2 = w 2 := PW_n (by omega)
    rw [bX_found_6, e1, if_pos (by omega), bL_isLost_0, if_pos (by omega), PW_n (o := 7) (by omega)]
    by_cases l : w 7 (j : Int) < 5
    · have i := ih' f q y4 y5
      rw [fdR_y l] at i
      rw [if_pos l, bX_found_25, if_neg (by omega), n32s (x := (j : Int) + 1) (by omega) (by omega)]
      exact i
    · rw [if_neg l, bX_found_25, if_pos rfl, if_pos (by omega), PW_n (o := 6) (by omega)]
      have O : OKC (PW w f q) := h.cg (fun o z => PW_n (by omega))
      refine O.measure (by rw [e1]; exact kt.1.1) (fun f' q' hf => ?_)
      rw [PW_PW]
      have f39 : ∀ c, c67 c → PW w f' q' 39 c = disW w (w 6 (j : Int)) c := fun c hc => by rw [PW_39, hf c hc, disW_cg (v := PW w f q) (by rw [e1]) e2]
      have N := fun Q => sX_nl6 (w := w) (s := w 6 (j : Int)) (Q := Q) (PW w f' q') h4.2 (PW_n (by omega)) (PW_n (by omega)) (PW_n (by omega)) f39 (fun k q1 q2 => (h.kt ⟨q1, q2⟩).2.2) _ 0 jX rfl (by omega)
      have i := fun y4 y5 => ih' f' q' y4 y5
      rw [fdR_n l] at i
      rw [bX_found_48, bX_nearestLost_0]
      refine (N _).mpr ?_
      have v := mn_v (f := nlF w (w 6 (j : Int))) (w 1 4).toNat
      rw [bX_found_52, PW_n (o := 6) (by omega)]
      by_cases z : (mn (nlF w (w 6 (j : Int))) (w 1 4).toNat).1 = -1
      · have i1 := i (jI (mn (nlF w (w 6 (j : Int))) (w 1 4).toNat).1) (jI (-1))
        rw [comb_x z] at i1
        rw [if_pos z, bX_found_82, n32s (x := (j : Int) + 1) (by omega) (by omega), if_pos rfl]
        exact i1
      · have v' := v.resolve_left z
        have i1 := i (jI (mn (nlF w (w 6 (j : Int))) (w 1 4).toNat).1) (jI (mn (nlF w (w 6 (j : Int))) (w 1 4).toNat).2)
        have kt' := h.kt (p := (mn (nlF w (w 6 (j : Int))) (w 1 4).toNat).1) ⟨by omega, by omega⟩
        have kc := kt'.2.2
        unfold c67 at kc
        have ee : disW w (w 6 (j : Int)) (w 6 (mn (nlF w (w 6 (j : Int))) (w 1 4).toNat).1) = (mn (nlF w (w 6 (j : Int))) (w 1 4).toNat).2 := by
          rw [v'.2.1]
          have z2 := v'.2.2
          unfold nlF at z2 ⊢
          split at z2
          · rename_i t; rw [if_pos t]
          · omega
        rw [if_neg z, if_pos (by omega), sP_stepsTo, if_pos kc, f39 _ kt'.2.2, ee, bX_found_82, n32s (x := (j : Int) + 1) (by omega) (by omega), n32s (x := 10 * (j : Int)) (by omega) (by omega), n32s (x := 10 * (j : Int) + (mn (nlF w (w 6 (j : Int))) (w 1 4).toNat).1) (by omega) (by omega), if_neg (by rw [v'.2.1]; exact v'.2.2)]
        by_cases z2 : (fdR w j).1 = -1
        · rw [comb_y z (Or.inl z2)] at i1
          rw [if_pos z2]; exact i1
        · rw [if_neg z2]
          by_cases z3 : (mn (nlF w (w 6 (j : Int))) (w 1 4).toNat).2 < (fdR w j).2
          · rw [comb_y z (Or.inr z3)] at i1
            rw [if_pos z3]; exact i1
          · rw [comb_n z (fun t => t.elim z2 z3)] at i1
            rw [if_neg z3]; exact i1
theorem sM_found17 {w0 : jW} (h0 : VM w0 v) {k : Nat} (hk : (k : Int) < v 1 4) (hl : ¬ v 7 (k : Int) < 5) (hQ : ∀ u y4 y5, SMo w0 u → AW mM_found 6 [jR 45, jI (fdR v (k + 1)).1, jI (fdR v (k + 1)).2, jI ((k : Int) + 1), y4, y5] [] u Q) (m : Nat) :
    ∀ (j : Nat) (w : jW) (y5 : jV), (v 1 4 - j).toNat = m → (j : Int) ≤ v 1 4 → SMo w0 w →
    AW mM_found 17 [jR 45, jI (comb (fdR v k) (mn (nlF v (v 6 (k : Int))) j) k).1, jI (comb (fdR v k) (mn (nlF v (v 6 (k : Int))) j) k).2, jI k, jI j, y5] [] w Q := by
  induction m with
  | zero =>
    intro j w y5 hm hj hs
    have h := h0.t hs
    have kk := h.wk
    rw [bM_found_17, h.eq.2.2.2, if_neg (by omega), n32s (x := (k : Int) + 1) (by omega) (by omega), show j = (v 1 4).toNat by omega, ← fdR_n hl]
    exact hQ w _ _ hs
  | succ m ih =>
    intro j w y5 hm hj hs
    have h := h0.t hs
    have kk := h.wk
    have ktk := h.kt (p := (k : Int)) ⟨by omega, hk⟩
    have ktj := h.kt (p := (j : Int)) ⟨by omega, by omega⟩
    have ih' := fun w y5 hw => ih (j + 1) w y5 (by omega) (by omega) hw
    rw [bM_found_17, h.eq.2.2.2, if_pos (by omega), bM_isLost_0, if_pos (by omega), ktk.1.2, if_neg hl, bM_found_31, if_pos rfl, bM_isLost_0, if_pos (by omega), ktj.1.2]
    by_cases l : v 7 (j : Int) < 5
    · have e : nlF v (v 6 (k : Int)) (j : Int) = disW v (v 6 (k : Int)) (v 6 (j : Int)) := if_pos l
      rw [if_pos l, bM_found_40, if_neg (by omega), if_pos (by omega), if_pos (by omega), ktk.1.1, ktj.1.1]
      refine h.pathOf ktk.2.1.1 ktj.2.2.2 (fun g => ?_)
      have i := ih' (jwr w 60 g) (jI (nlF v (v 6 (k : Int)) (j : Int))) (hs.t (SMo.w (by omega)))
      rw [bM_found_63, ← e, n32s (x := (j : Int) + 1) (by omega) (by omega), n32s (x := 10 * (k : Int)) (by omega) (by omega), n32s (x := 10 * (k : Int) + (j : Int)) (by omega) (by omega)]
      by_cases z : nlF v (v 6 (k : Int)) (j : Int) = -1
      · rw [mn_x z] at i
        rw [if_pos z]; exact i
      · rw [if_neg z]
        rw [comb_s (by omega) z] at i
        by_cases z2 : (comb (fdR v k) (mn (nlF v (v 6 (k : Int))) j) k).1 = -1
        · rw [if_pos (Or.inl z2)] at i
          rw [if_pos z2]; exact i
        · rw [if_neg z2]
          by_cases z3 : nlF v (v 6 (k : Int)) (j : Int) < (comb (fdR v k) (mn (nlF v (v 6 (k : Int))) j) k).2
          · rw [if_pos (Or.inr z3)] at i
            rw [if_pos z3]; exact i
          · rw [if_neg (fun t => t.elim z2 z3)] at i
            rw [if_neg z3]; exact i
    · have e : nlF v (v 6 (k : Int)) (j : Int) = -1 := if_neg l
      have i := ih' w y5 hs
      rw [mn_x e] at i
      rw [if_neg l, bM_found_40, if_pos rfl, n32s (x := (j : Int) + 1) (by omega) (by omega)]
      exact i
theorem sM_found17l {k : Nat} {x1 x2 : Int} (h : VM w v) (hk : (k : Int) < v 1 4) (hl : v 7 (k : Int) < 5) (m : Nat) :
    ∀ (j : Nat) (y5 : jV), (v 1 4 - j).toNat = m → (j : Int) ≤ v 1 4 → (∀ y4, AW mM_found 6 [jR 45, jI x1, jI x2, jI ((k : Int) + 1), y4, y5] [] w Q) →
    AW mM_found 17 [jR 45, jI x1, jI x2, jI k, jI j, y5] [] w Q := by
  have kk := h.wk
  have ktk := h.kt (p := (k : Int)) ⟨by omega, hk⟩
  induction m with
  | zero =>
    intro j y5 hm hj hQ
    rw [bM_found_17, h.eq.2.2.2, if_neg (by omega), n32s (x := (k : Int) + 1) (by omega) (by omega)]
    exact hQ _
  | succ m ih =>
    intro j y5 hm hj hQ
    rw [bM_found_17, h.eq.2.2.2, if_pos (by omega), bM_isLost_0, if_pos (by omega), ktk.1.2, if_pos hl, bM_found_31, if_neg (by omega), n32s (x := (j : Int) + 1) (by omega) (by omega)]
    exact ih (j + 1) y5 (by omega) (by omega) hQ
theorem sM_found6 {w0 : jW} (h0 : VM w0 v) (hQ : ∀ u, SMo w0 u → Q (jI (fdR v (v 1 4).toNat).1) u) (m : Nat) : ∀ (j : Nat) (w : jW) (y4 y5 : jV), (v 1 4 - j).toNat = m → (j : Int) ≤ v 1 4 → SMo w0 w →
    AW mM_found 6 [jR 45, jI (fdR v j).1, jI (fdR v j).2, jI j, y4, y5] [] w Q := by
  induction m with
  | zero =>
    intro j w y4 y5 hm hj hs
    have h := h0.t hs
    rw [bM_found_6, h.eq.2.2.2, if_neg (by omega), show j = (v 1 4).toNat by omega]
    exact hQ w hs
  | succ m ih =>
    intro j w y4 y5 hm hj hs
    have h := h0.t hs
    have kk := h.wk
    have ih' := fun w y4 y5 hw => ih (j + 1) w y4 y5 (by omega) (by omega) hw
    rw [bM_found_6, h.eq.2.2.2, if_pos (by omega)]
    by_cases l : v 7 (j : Int) < 5
    · refine sM_found17l h (by omega) l _ 0 y5 rfl (by omega) (fun y4 => ?_)
      have i := ih' w y4 y5 hs
      rw [fdR_y l] at i
      exact i
    · have z : comb (fdR v j) (mn (nlF v (v 6 (j : Int))) 0) j = fdR v j := comb_x rfl
      have S := sM_found17 (Q := Q) h0 (k := j) (by omega) l (fun u y4 y5 hu => ih' u y4 y5 hu) _ 0 w y5 rfl (by omega) hs
      rw [z] at S
      exact S
theorem p_found (h : INV K w) : Both mX_found mM_found [jR 0, jX, jX, jX, jX, jX] [jR 45, jX, jX, jX, jX, jX] K w := by
  unfold Both
  have k := h.wk
  rw [bX_found_0]
  have e : PW w (w 39) (w 40) = w := PW_eq
  have S := fun Q hQ => sX_found6 (Q := Q) h.1 hQ _ 0 (w 39) (w 40) jX jX rfl (by omega)
  rw [e] at S
  refine S _ (fun f q => ?_)
  have V := h.vm (SX.PW (w := w) (f := f) (q := q))
  rw [bM_found_0]
  exact sM_found6 V (fun u hu => h.q SX.PW h.2.2.PW hu rfl) _ 0 _ _ _ rfl (by omega) SMo.r
end FA
