/-! the longest of all walkers' paths -/
noncomputable def lgR (w : jW) (c : Int) : Nat → Int
  | 0 => 0
  | m + 1 => if lgR w c m = -1 ∨ disW w (w 6 (m : Int)) c = -1 then -1 else jmax (lgR w c m) (disW w (w 6 (m : Int)) c)
theorem lgR_x {w : jW} {c : Int} {m : Nat} (h : lgR w c m = -1 ∨ disW w (w 6 (m : Int)) c = -1) : lgR w c (m + 1) = -1 := if_pos h
theorem lgR_y {w : jW} {c : Int} {m : Nat} (h : ¬ (lgR w c m = -1 ∨ disW w (w 6 (m : Int)) c = -1)) : lgR w c (m + 1) = jmax (lgR w c m) (disW w (w 6 (m : Int)) c) := if_neg h
noncomputable def mtF (w : jW) (c : Int) : Int := if dryB (w 1 0) (w 2) c then lgR w c (w 1 4).toNat else -1
def l99 (x : Int) : Int := if x = -1 then 99 else x
def LW (w : jW) (f q g : Int → Int) : jW := jwr (PW w f q) 44 g
section GA
variable {w v : jW} {Q : jV → jW → Prop} {f q g : Int → Int} {K c : Int}
theorem LW_n {o : Nat} (h : o ≠ 39 ∧ o ≠ 40 ∧ o ≠ 44) : LW w f q g o = w o := by unfold LW; rw [jwr_n h.2.2, PW_n ⟨h.1, h.2.1⟩]
theorem LW_39 : LW w f q g 39 = f := by unfold LW; rw [jwr_n (by omega), PW_39]
theorem LW_44 : LW w f q g 44 = g := by unfold LW; rw [jwr_s]
theorem LW_PW {f' q' : Int → Int} : PW (LW w f q g) f' q' = LW w f' q' g := by
  funext o
  by_cases a : o = 40
  · rw [a, PW_40]; unfold LW; rw [jwr_n (by omega), PW_40]
  · by_cases b : o = 39
    · rw [b, PW_39, LW_39]
    · by_cases d : o = 44
      · rw [d, PW_n (by omega), LW_44, LW_44]
      · rw [PW_n ⟨b, a⟩, LW_n ⟨b, a, d⟩, LW_n ⟨b, a, d⟩]
theorem LW_up {x a : Int} : jup (LW w f q g) 44 x a = LW w f q (up1 g x a) := by unfold LW; rw [jwr_jup]
theorem SX.LW : SX w (LW w f q g) := SX.t SX.PW (SX.w (by omega))
theorem LK.LW (h : LK K w) : LK (K + 2100) (LW w f q g) := h.s (LW_n (by omega)) (LW_n (by omega))
theorem lgR_in (h : OKC w) (hc : c67 c) (m : Nat) (hm : (m : Int) ≤ w 1 4) : -1 ≤ lgR w c m ∧ lgR w c m ≤ 66 := by
  have hn : 3 ≤ w 1 0 ∧ w 1 0 ≤ 7 := h.1.1
  induction m with
  | zero => show -1 ≤ (0 : Int) ∧ (0 : Int) ≤ 66; omega
  | succ m ih =>
    have a := ih (by omega)
    have kt := h.kt (p := (m : Int)) ⟨by omega, by omega⟩
    have d := disW_in hn.2 kt.1.1 hc
    by_cases z : lgR w c m = -1 ∨ disW w (w 6 (m : Int)) c = -1
    · rw [lgR_x z]; omega
    · rw [lgR_y z]; unfold jmax; split <;> omega
theorem sX_ml43 {k : Nat} {s : Int} (hk : (k : Int) < w 1 4) (h4 : w 1 4 ≤ 4) (hs : w 6 (k : Int) = s) (hf : ∀ c, c67 c → f c = disW w s c) (hQ : ∀ g y2 y3 y4, (∀ c, c67 c → g c = lgR w c (k + 1)) → AW mX_measureLongest 10 [jR 0, jI ((k : Int) + 1), y2, y3, y4] [] (LW w f q g) Q) (m : Nat) :
    ∀ (j : Int) (g : Int → Int) (y3 y4 : jV), (67 - j).toNat = m → 0 ≤ j → j ≤ 67 → (∀ c, c67 c → g c = if c < j then lgR w c (k + 1) else lgR w c k) →
    AW mX_measureLongest 43 [jR 0, jI k, jI j, y3, y4] [] (LW w f q g) Q := by
  induction m with
  | zero =>
    intro j g y3 y4 hm h0 hj hg
    rw [bX_measureLongest_43, if_neg (by omega), n32s (x := (k : Int) + 1) (by omega) (by omega)]
    exact hQ g _ _ _ (fun c hc => by rw [hg c hc, if_pos (by have := hc.2; omega)])
  | succ m ih =>
    intro j g y3 y4 hm h0 hj hg
    have j67 : c67 j := ⟨h0, by omega⟩
    have gj := hg j j67
    rw [if_neg (by omega)] at gj
    have N : ∀ x, x = lgR w j (k + 1) → ∀ c, c67 c → up1 g j x c = if c < j + 1 then lgR w c (k + 1) else lgR w c k := by
      intro x hx c hc
      by_cases e : c = j
      · rw [e, up1_s, if_pos (by omega), hx]
      · rw [up1_n e, hg c hc]
        by_cases e2 : c < j
        · rw [if_pos e2, if_pos (by omega)]
        · rw [if_neg e2, if_neg (by omega)]
    have ih' := fun x y3 y4 hx => ih (j + 1) (up1 g j x) y3 y4 (by omega) (by omega) (by omega) (N x hx)
    rw [bX_measureLongest_43, if_pos (by omega), sP_stepsTo, if_pos (by omega), LW_39, hf j j67, bX_measureLongest_58, if_pos (by omega), LW_44, gj, bX_measureLongest_79, bX_measureLongest_79, n32s (x := j + 1) (by omega) (by omega), LW_44, LW_up, LW_up, gj]
    have e : disW w (w 6 (k : Int)) j = disW w s j := by rw [hs]
    by_cases z1 : lgR w j k = -1
    · rw [if_pos z1, if_pos rfl, if_pos (by omega)]
      exact ih' _ _ _ (lgR_x (Or.inl z1)).symm
    · rw [if_neg z1]
      by_cases z2 : disW w s j = -1
      · rw [if_pos z2, if_pos rfl, if_pos (by omega)]
        exact ih' _ _ _ (lgR_x (Or.inr (e.trans z2))).symm
      · rw [if_neg z2, if_neg (by omega), if_pos (by omega), if_pos (by omega)]
        refine ih' _ _ _ ?_
        rw [lgR_y (fun t => t.elim z1 (fun t => z2 (e.symm.trans t))), e]
theorem sX_ml10 (h : OKC w) (hQ : ∀ f q g, (∀ c, c67 c → g c = lgR w c (w 1 4).toNat) → Q (jI 0) (LW w f q g)) (m : Nat) :
    ∀ (k : Nat) (f q g : Int → Int) (y2 y3 y4 : jV), (w 1 4 - k).toNat = m → (k : Int) ≤ w 1 4 → (∀ c, c67 c → g c = lgR w c k) →
    AW mX_measureLongest 10 [jR 0, jI k, y2, y3, y4] [] (LW w f q g) Q := by
  have h4 : 0 ≤ w 1 4 ∧ w 1 4 ≤ 4 := h.1.2.2.2.1
  induction m with
  | zero =>
    intro k f q g y2 y3 y4 hm hk hg
    rw [bX_measureLongest_10, LW_n (by omega), if_neg (by omega)]
    exact hQ f q g (fun c hc => by rw [hg c hc, show k = (w 1 4).toNat by omega])
  | succ m ih =>
    intro k f q g y2 y3 y4 hm hk hg
    have kt := h.kt (p := (k : Int)) ⟨by omega, by omega⟩
    have e1 : LW w f q g 1 = w 1 := LW_n (by omega)
    have e2 : LW w f q g 2 = w 2 := LW_n (by omega)
    rw [bX_measureLongest_10, e1, if_pos (by omega), if_pos (by omega), LW_n (o := 6) (by omega)]
    have O : OKC (LW w f q g) := h.cg (fun o z => LW_n (by omega))
    refine O.measure (by rw [e1]; exact kt.1.1) (fun f' q' hf => ?_)
    rw [LW_PW, bX_measureLongest_41]
    have hf' : ∀ c, c67 c → f' c = disW w (w 6 (k : Int)) c := fun c hc => by rw [hf c hc, disW_cg (v := LW w f q g) (by rw [e1]) e2]
    refine sX_ml43 (by omega) h4.2 rfl hf' (fun g' y2 y3 y4 hg' => ?_) _ 0 g y3 y4 rfl (by omega) (by omega) (fun c hc => by rw [if_neg (by have := hc.1; omega)]; exact hg c hc)
    exact ih (k + 1) f' q' g' y2 y3 y4 (by omega) (by omega) hg'
theorem sX_meet20 (u : jW) (hn : w 1 0 ≤ 7) (h1 : u 1 = w 1) (h2 : u 2 = w 2) (h44 : ∀ c, c67 c → u 44 c = lgR w c (w 1 4).toNat) (m : Nat) :
    ∀ (j : Nat), 67 - j = m → j ≤ 67 → AW mX_meet 20 [jR 0, jI (mn (mtF w) j).1, jI j] [] u Q = Q (jI (mn (mtF w) 67).1) u := by
  induction m with
  | zero =>
    intro j hm hj
    rw [bX_meet_20, if_neg (by omega), show j = 67 by omega]
  | succ m ih =>
    intro j hm hj
    have ih' := ih (j + 1) (by omega) (by omega)
    have j67 : c67 (j : Int) := ⟨by omega, by omega⟩
    rw [bX_meet_20, if_pos (by omega), sL_isDry (by rw [h1]; exact hn), bX_meet_35, jb_ite, h1, h2, n32s (x := (j : Int) + 1) (by omega) (by omega)]
    by_cases c : dryB (w 1 0) (w 2) (j : Int)
    · have e : mtF w (j : Int) = lgR w (j : Int) (w 1 4).toNat := if_pos c
      rw [if_pos c, if_pos (by omega), h44 _ j67, ← e]
      by_cases z : mtF w (j : Int) = -1
      · rw [if_pos z, ← ih', mn_x z]; rfl
      · rw [if_neg z]
        by_cases z2 : (mn (mtF w) j).1 = -1
        · rw [if_pos z2, ← ih', mn_y z (Or.inl z2)]; rfl
        · have v := (mn_v (f := mtF w) j).resolve_left z2
          have b67 : c67 (mn (mtF w) j).1 := ⟨v.1.1, by omega⟩
          have e2 : lgR w (mn (mtF w) j).1 (w 1 4).toNat = (mn (mtF w) j).2 := by
            rw [v.2.1]
            have z3 := v.2.2
            unfold mtF at z3 ⊢
            split at z3
            · rename_i t; rw [if_pos t]
            · omega
          rw [if_neg z2, if_pos (by omega), if_pos (by omega), h44 _ b67, e2]
          by_cases z3 : mtF w (j : Int) < (mn (mtF w) j).2
          · rw [if_pos z3, ← ih', mn_y z (Or.inr z3)]; rfl
          · rw [if_neg z3, ← ih', mn_n z (fun t => t.elim z2 z3)]; rfl
    · have e : mtF w (j : Int) = -1 := if_neg c
      rw [if_neg c, ← ih', mn_x e]; rfl
theorem sM_meet38 {w0 : jW} (h0 : VM w0 v) {x1 x2 : Int} (hc : c67 c)
    (hA : lgR v c (v 1 4).toNat = -1 → ∀ u y4 y5 y6, SMo w0 u → AW mM_meet 15 [jR 45, jI x1, jI x2, jI (c + 1), y4, y5, y6] [] u Q)
    (hB : lgR v c (v 1 4).toNat ≠ -1 → (x1 = -1 ∨ lgR v c (v 1 4).toNat < x2) → ∀ u y4 y5 y6, SMo w0 u → AW mM_meet 15 [jR 45, jI c, jI (lgR v c (v 1 4).toNat), jI (c + 1), y4, y5, y6] [] u Q)
    (hC : lgR v c (v 1 4).toNat ≠ -1 → ¬ (x1 = -1 ∨ lgR v c (v 1 4).toNat < x2) → ∀ u y4 y5 y6, SMo w0 u → AW mM_meet 15 [jR 45, jI x1, jI x2, jI (c + 1), y4, y5, y6] [] u Q) (m : Nat) :
    ∀ (j : Nat) (w : jW) (y6 : jV), (v 1 4 - j).toNat = m → (j : Int) ≤ v 1 4 → SMo w0 w →
    AW mM_meet 38 [jR 45, jI x1, jI x2, jI c, jI (l99 (lgR v c j)), jI j, y6] [] w Q := by
  have hc' := hc
  unfold c67 at hc'
  induction m with
  | zero =>
    intro j w y6 hm hj hs
    have h := h0.t hs
    have li := lgR_in h.1 hc j hj
    rw [show (v 1 4).toNat = j by omega] at hA hB hC
    rw [bM_meet_38, h.eq.2.2.2, if_neg (by omega), n32s (x := c + 1) (by omega) (by omega)]
    unfold l99
    by_cases z : lgR v c j = -1
    · rw [if_pos z, if_pos rfl]
      exact hA z w _ _ _ hs
    · rw [if_neg z, if_neg (by omega)]
      by_cases z2 : x1 = -1
      · rw [if_pos z2]
        exact hB z (Or.inl z2) w _ _ _ hs
      · rw [if_neg z2]
        by_cases z3 : lgR v c j < x2
        · rw [if_pos z3]
          exact hB z (Or.inr z3) w _ _ _ hs
        · rw [if_neg z3]
          exact hC z (fun t => t.elim z2 z3) w _ _ _ hs
  | succ m ih =>
    intro j w y6 hm hj hs
    have h := h0.t hs
    have kk := h.wk
    have kt := h.kt (p := (j : Int)) ⟨by omega, by omega⟩
    have li := lgR_in h.1 hc j hj
    have ih' := fun w y6 hw => ih (j + 1) w y6 (by omega) (by omega) hw
    rw [bM_meet_38, h.eq.2.2.2, if_pos (by omega), if_pos (by omega), kt.1.1]
    refine h.pathOf kt.2.1.1 hc (fun g => ?_)
    have i := ih' (jwr w 60 g) (jI (disW v (v 6 (j : Int)) c)) (hs.t (SMo.w (by omega)))
    rw [bM_meet_59, n32s (x := (j : Int) + 1) (by omega) (by omega)]
    have e99 : l99 (-1) = 99 := rfl
    by_cases z : disW v (v 6 (j : Int)) c = -1
    · rw [lgR_x (Or.inr z), e99] at i
      rw [if_pos z]; exact i
    · rw [if_neg z]
      by_cases z2 : lgR v c j = -1
      · rw [lgR_x (Or.inl z2), e99] at i
        rw [z2, e99, if_pos rfl]; exact i
      · have zz : ¬ (lgR v c j = -1 ∨ disW v (v 6 (j : Int)) c = -1) := fun t => t.elim z2 z
        have li2 := lgR_in h.1 hc (j + 1) (by omega)
        have e1 : l99 (lgR v c j) = lgR v c j := if_neg z2
        have e2 : l99 (lgR v c (j + 1)) = lgR v c (j + 1) := if_neg (by
          rw [lgR_y zz]
          have d := disW_in kk.2.2.2 kt.2.1.1 hc
          unfold jmax
          split <;> omega)
        rw [e2, lgR_y zz] at i
        rw [e1, if_neg (by omega)]; exact i
theorem sM_meet15 {w0 : jW} (h0 : VM w0 v) (hQ : ∀ u, SMo w0 u → Q (jI (mn (mtF v) 67).1) u) (m : Nat) : ∀ (j : Nat) (w : jW) (y4 y5 y6 : jV), 67 - j = m → j ≤ 67 → SMo w0 w →
    AW mM_meet 15 [jR 45, jI (mn (mtF v) j).1, jI (mn (mtF v) j).2, jI j, y4, y5, y6] [] w Q := by
  induction m with
  | zero =>
    intro j w y4 y5 y6 hm hj hs
    rw [bM_meet_15, if_neg (by omega), show j = 67 by omega]
    exact hQ w hs
  | succ m ih =>
    intro j w y4 y5 y6 hm hj hs
    have h := h0.t hs
    have kk := h.wk
    have ih' := fun w y4 y5 y6 hw => ih (j + 1) w y4 y5 y6 (by omega) (by omega) hw
    have j67 : c67 (j : Int) := ⟨by omega, by omega⟩
    rw [bM_meet_15, if_pos (by omega), h.isDry (by unfold in32; omega), bM_meet_26, jb_ite, n32s (x := (j : Int) + 1) (by omega) (by omega)]
    by_cases c : dryB (v 1 0) (v 2) (j : Int)
    · have e : mtF v (j : Int) = lgR v (j : Int) (v 1 4).toNat := if_pos c
      rw [if_pos c]
      have z0 : l99 (lgR v (j : Int) 0) = 0 := rfl
      have S := sM_meet38 (Q := Q) h0 (x1 := (mn (mtF v) j).1) (x2 := (mn (mtF v) j).2) j67
        (fun z u y4 y5 y6 hu => by
          have i := ih' u y4 y5 y6 hu
          rw [mn_x (e.trans z)] at i; exact i)
        (fun z z2 u y4 y5 y6 hu => by
          have i := ih' u y4 y5 y6 hu
          rw [← e] at z z2 ⊢
          rw [mn_y z z2] at i; exact i)
        (fun z z2 u y4 y5 y6 hu => by
          have i := ih' u y4 y5 y6 hu
          rw [← e] at z z2
          rw [mn_n z z2] at i; exact i) _ 0 w y6 rfl (by omega) hs
      rw [z0] at S
      exact S
    · have i := ih' w y4 y5 y6 hs
      rw [mn_x (if_neg c)] at i
      rw [if_neg c]; exact i
theorem p_meet (h : INV K w) : Both mX_meet mM_meet [jR 0, jX, jX] [jR 45, jX, jX, jX, jX, jX, jX] K w := by
  unfold Both
  have k := h.wk
  rw [bX_meet_0]
  by_cases z : w 1 4 = 0
  · rw [if_pos z, bM_meet_0, h.eq.2.2.2.1, if_pos z]
    exact h.fin rfl
  · rw [if_neg z, bX_measureLongest_0, sJ_fill_44, bX_measureLongest_8]
    have e : jwr w 44 (cf (w 44) 0 67 0) = LW w (w 39) (w 40) (cf (w 44) 0 67 0) := by
      unfold LW
      rw [PW_eq]
    rw [e]
    refine sX_ml10 h.1 (fun f q g hg => ?_) _ 0 _ _ _ _ _ _ rfl (by omega) (fun c hc => if_pos hc)
    have V := h.vm (SX.LW (w := w) (f := f) (q := q) (g := g))
    rw [bX_meet_16]
    refine (sX_meet20 (w := w) (LW w f q g) k.2.2.2 (LW_n (by omega)) (LW_n (by omega)) (fun c hc => by rw [LW_44]; exact hg c hc) _ 0 rfl (by omega)).mpr ?_
    rw [bM_meet_0, V.eq.2.2.2, if_neg z]
    exact sM_meet15 V (fun u hu => h.q SX.LW h.2.2.LW hu rfl) _ 0 _ _ _ _ rfl (by omega) SMo.r
end GA
