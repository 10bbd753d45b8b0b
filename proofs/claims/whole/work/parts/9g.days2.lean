/-! days, the reference -/
def RO (w0 w : jW) : Prop := ∀ o, o < 45 ∨ 61 < o → w o = w0 o
section HB
variable {w v u w0 : jW} {Q : jV → jW → Prop} {K k c x : Int}
theorem RO.r : RO w w := fun _ _ => rfl
theorem RO.t {a b c : jW} (h : RO a b) (h' : RO b c) : RO a c := fun o q => (h' o q).trans (h o q)
theorem SMo.ro (h : SMo w u) : RO w u := fun o q => h.1 o (by omega)
theorem RO.j {o : Nat} (h : RO w0 w) (ho : 45 ≤ o ∧ o ≤ 61) : RO w0 (jup w o k x) := fun p q => by rw [jupn (by omega)]; exact h p q
theorem VM.sed (h : VM w v) : VM (jup w 45 10 x) (jup v 1 2 x) := by
  obtain ⟨hc, hm⟩ := h
  refine ⟨hc.sed, ?_⟩
  unfold RM Ra at hm ⊢
  simp only [jwr_n, jwr_s, jupn, jups, up1_e, ne_eq, Nat.reduceEqDiff, not_false_eq_true, not_true_eq_false, if_true, if_false, Int.reduceEq, Int.reduceLT, Int.reduceLE, Int.reduceNeg, Int.reduceSub, Int.reduceAdd, Int.reduceMul, true_and, and_true, and_self, or_true, true_or, or_false, false_or, or_self] at hm ⊢
  obtain ⟨⟨a1, a2, a3, a4⟩, h2⟩ := hm
  exact ⟨⟨a1, a2, a4⟩, h2⟩
theorem VM.stp (h : VM w v) (hO : OKC (jup (jup v 6 k c) 7 k x)) : VM (jup (jup w 50 k c) 51 k x) (jup (jup v 6 k c) 7 k x) := by
  obtain ⟨hc, hm⟩ := h
  refine ⟨hO, ?_⟩
  unfold RM Ra at hm ⊢
  simp only [jwr_n, jwr_s, jupn, jups, up1_e, ne_eq, Nat.reduceEqDiff, not_false_eq_true, not_true_eq_false, if_true, if_false, Int.reduceEq, Int.reduceLT, Int.reduceLE, Int.reduceNeg, Int.reduceSub, Int.reduceAdd, Int.reduceMul, true_and, and_true, and_self, or_true, true_or, or_false, false_or, or_self] at hm ⊢
  obtain ⟨h1, h2, h3, h4, h5, h6, h7, h8⟩ := hm
  exact ⟨h1, h2, h3, h4, h5, h6.up k c, h7.up k x, h8⟩
/-- the reference's step -/
theorem VM.goesW (h : VM w v) (hp : 0 ≤ k ∧ k < v 1 4) (hk : 0 ≤ c ∧ c ≤ 4) (hc : canB v (v 6 k) c) (hQ : ∀ r u, VM u (stepW v k c) → RO w u → Q (jI r) u) : AW mM_goesBy 0 [jR 45, jI k, jI c, jX] [] w Q := by
  have s := Stq.step h.1 hp hk hc
  rw [h.goesBy hp hk hc]
  exact hQ _ _ (h.stp s.1) ((RO.r.j (by omega)).j (by omega))
theorem sM_stray2 (hQ : ∀ u y2, VM u (strF v (v 1 4).toNat) → RO w0 u → AW mM_day 60 [jR 45, jI 0, y2] [] u Q) (hO : OKC v) (m : Nat) : ∀ (j : Nat) (u : jW) (y2 : jV), (v 1 4 - j).toNat = m → (j : Int) ≤ v 1 4 → VM u (strF v j) → RO w0 u →
    AW mM_day 2 [jR 45, jI j, y2] [] u Q := by
  have h4 : 0 ≤ v 1 4 ∧ v 1 4 ≤ 4 := hO.1.2.2.2.1
  induction m with
  | zero =>
    intro j u y2 hm hj V hR
    have s := strF_ok hO j hj
    rw [bM_day_2, V.eq.2.2.2, s.2.2 4 (by omega), if_neg (by omega)]
    rw [show j = (v 1 4).toNat by omega] at V
    exact hQ u y2 V hR
  | succ m ih =>
    intro j u y2 hm hj V hR
    have s := strF_ok hO j hj
    have e4 := s.2.2 4 (by omega)
    have i : ∀ u y2, VM u (strW (strF v j) (j : Int)) → RO w0 u → AW mM_day 2 [jR 45, jI ((j : Int) + 1), y2] [] u Q := fun u y2 hV hR => ih (j + 1) u y2 (by omega) (by omega) hV hR
    have hp0 : 0 ≤ (j : Int) ∧ (j : Int) < strF v j 1 4 := by rw [e4]; omega
    unfold strW at i
    rw [bM_day_2, V.eq.2.2.2, e4, if_pos (by omega), bM_isLost_0, if_pos (by omega), (V.kt hp0).1.2]
    by_cases l : strF v j 7 (j : Int) < 5
    · rw [if_pos l] at i
      have sd := Stq.sed s.1
      have hp : 0 ≤ (j : Int) ∧ (j : Int) < sedW (strF v j) 1 4 := by rw [sd.2.2 4 (by omega), e4]; omega
      have dd := drawD_in (strF v j 1 2)
      have V' : VM (jup u 45 10 (seedN (strF v j 1 2))) (sedW (strF v j)) := V.sed
      have R' : RO w0 (jup u 45 10 (seedN (strF v j 1 2))) := hR.j (by omega)
      have D : ∀ Q, AW mM_draw 0 [jR 45, jI 5] [] u Q = Q (jI (drawD (strF v j 1 2))) (jup u 45 10 (seedN (strF v j 1 2))) := by
        intro Q
        rw [bM_draw_0, if_pos (by omega), V.2.1.2.2.1]; rfl
      rw [if_pos l, bM_day_15, if_neg (by omega), D, bM_day_26, if_pos (by omega), (V'.kt hp).1.1, V'.can (V'.kt hp).2.1.1 dd, bM_day_40, jb_ite]
      unfold strC at i
      by_cases q : canB (sedW (strF v j)) (sedW (strF v j) 6 (j : Int)) (drawD (strF v j 1 2))
      · rw [if_pos q] at i
        rw [if_pos q]
        refine V'.goesW hp dd q (fun r u2 hV hR2 => ?_)
        rw [bM_day_51, n32s (x := (j : Int) + 1) (by omega) (by omega)]
        exact i u2 _ hV (R'.t hR2)
      · rw [if_neg q] at i
        rw [if_neg q]
        refine V'.goesW hp (by omega) (Or.inl rfl) (fun r u2 hV hR2 => ?_)
        rw [bM_day_51, n32s (x := (j : Int) + 1) (by omega) (by omega)]
        exact i u2 _ hV (R'.t hR2)
    · rw [if_neg l] at i
      rw [if_neg l, bM_day_15, if_pos rfl, n32s (x := (j : Int) + 1) (by omega) (by omega)]
      exact i u _ V hR
theorem ldR_home (h : OKC v) {t : Int} (ht : cellB (v 1 0) t) : ldR (cnI v t t) 4 1 = -1 := by
  have hw : 3 ≤ v 1 0 ∧ v 1 0 ≤ 7 := h.1.1
  have d := disW_ds hw.2 ht
  have e : disW v t t = 0 := d.2.1
  rcases ldR_in (g := cnI v t t) 4 1 (by omega) with q | q
  · exact q
  · have j := q.2.2
    unfold cnI at j
    split at j
    · rename_i z
      have := d.1 (t + jcmd (ldR (cnI v t t) 4 1)) ⟨z.1.1.1, cell67 hw.2 z.1.1⟩
      have z' := z
      rw [e] at z'
      unfold cnI at this
      omega
    · omega
theorem sM_home60 (hQ : ∀ u, VM u (homF v (v 1 4).toNat) → RO w0 u → Q (jI 0) u) (hO : OKC v) (m : Nat) : ∀ (j : Nat) (u : jW) (y2 : jV), (v 1 4 - j).toNat = m → (j : Int) ≤ v 1 4 → VM u (homF v j) → RO w0 u →
    AW mM_day 60 [jR 45, jI j, y2] [] u Q := by
  have h4 : 0 ≤ v 1 4 ∧ v 1 4 ≤ 4 := hO.1.2.2.2.1
  induction m with
  | zero =>
    intro j u y2 hm hj V hR
    have s := homF_ok hO j hj
    rw [bM_day_60, V.eq.2.2.2, s.2.2 4 (by omega), if_neg (by omega)]
    rw [show j = (v 1 4).toNat by omega] at V
    exact hQ u V hR
  | succ m ih =>
    intro j u y2 hm hj V hR
    have s := homF_ok hO j hj
    have e4 := s.2.2 4 (by omega)
    have i : ∀ u y2, VM u (homW (homF v j) (j : Int)) → RO w0 u → AW mM_day 60 [jR 45, jI ((j : Int) + 1), y2] [] u Q := fun u y2 hV hR => ih (j + 1) u y2 (by omega) (by omega) hV hR
    have hp0 : 0 ≤ (j : Int) ∧ (j : Int) < homF v j 1 4 := by rw [e4]; omega
    have kt := V.kt hp0
    have hh : dryB (homF v j 1 0) (homF v j 2) (homF v j 1 1) := s.1.1.2.1
    unfold homW at i
    rw [bM_day_60, V.eq.2.2.2, e4, if_pos (by omega), bM_isLost_0, if_pos (by omega), kt.1.2]
    by_cases l : homF v j 7 (j : Int) < 5
    · rw [if_pos l] at i
      rw [if_pos l, bM_day_73, if_neg (by omega), n32s (x := (j : Int) + 1) (by omega) (by omega)]
      exact i u _ V hR
    · rw [if_neg l] at i
      have c := homC_in (v := homF v j) (k := (j : Int))
      rw [if_neg l, bM_day_73, if_pos rfl, if_pos (by omega), kt.1.1, V.eq.2.1]
      have T : ∀ r u', SMo u u' → jmax 0 r = homC (homF v j) (j : Int) → AW mM_day 93 [jR 45, jI j, y2] [jI r, jI 0, jI j, jR 45] u' Q := by
        intro r u' hu hr
        rw [bM_day_93, hr]
        refine (V.t hu).goesW hp0 c.1 c.2 (fun r u2 hV hR2 => ?_)
        rw [bM_day_99, n32s (x := (j : Int) + 1) (by omega) (by omega)]
        exact i u2 _ hV ((hR.t hu.ro).t hR2)
      by_cases q : homF v j 6 (j : Int) = homF v j 1 1
      · rw [bM_commandTo_0, if_pos q]
        refine T 0 u SMo.r ?_
        unfold homC
        rw [q, ldR_home s.1 hh.1, if_pos rfl]
        rfl
      · refine V.commandTo kt.2.1 hh q (fun u' hu => T _ u' hu ?_)
        unfold homC
        have li := ldR_in (g := cnI (homF v j) (homF v j 1 1) (homF v j 6 (j : Int))) 4 1 (by omega)
        unfold jmax
        by_cases z : ldR (cnI (homF v j) (homF v j 1 1) (homF v j 6 (j : Int))) 4 1 = -1
        · rw [z, if_pos rfl, if_neg (by omega)]
        · have li' := li.resolve_left z
          rw [if_neg z, if_pos (by omega)]
theorem sM_day (V : VM w v) (hQ : ∀ u, VM u (dayW v) → RO w u → Q (jI 0) u) : AW mM_day 0 [jR 45, jX, jX] [] w Q := by
  have h4 : 0 ≤ v 1 4 ∧ v 1 4 ≤ 4 := V.1.1.2.2.2.1
  have a := strF_ok V.1 (v 1 4).toNat (by omega)
  have e4 := a.2.2 4 (by omega)
  rw [bM_day_0]
  refine sM_stray2 (v := v) (w0 := w) (fun u y2 hV hR => ?_) V.1 _ 0 w _ rfl (by omega) V RO.r
  refine sM_home60 (v := strF v (v 1 4).toNat) (w0 := w) (fun u2 hV2 hR2 => ?_) a.1 _ 0 u y2 rfl (by rw [e4]; omega) hV hR
  rw [e4] at hV2
  exact hQ u2 hV2 hR2
theorem sM_days19 (hO : OKC v) {n : Int} (hn : n ≤ 60) (hF : ∀ u, VM u (dayF v n.toNat) → RO w0 u → AW mM_days 19 [jR 45, jI n, jI n] [] u Q) (m : Nat) : ∀ (j : Nat) (u : jW), (n - j).toNat = m → (j : Int) ≤ n → VM u (dayF v j) → RO w0 u → AW mM_days 19 [jR 45, jI n, jI j] [] u Q := by
  induction m with
  | zero =>
    intro j u hm hj V hR
    have e : n = (j : Int) := by omega
    rw [e] at hF ⊢
    have e2 : ((j : Int)).toNat = j := by omega
    rw [e2] at hF
    exact hF u V hR
  | succ m ih =>
    intro j u hm hj V hR
    rw [bM_days_19, if_pos (by omega)]
    refine sM_day V (fun u2 hV hR2 => ?_)
    rw [bM_days_28, n32s (x := (j : Int) + 1) (by omega) (by omega)]
    exact ih (j + 1) u2 (by omega) (by omega) hV (hR.t hR2)
theorem INV.end {v2 : jW} (h : INV K w) (V : VM u v2) (hR : RO v2 u) (h30 : v2 30 = w 30) (h37 : v2 37 = w 37) (hf : ∀ o, 61 < o → v2 o = w o) : INV (K + 2100) u ∧ Far u w := by
  refine ⟨⟨V.1.cg (fun o q => hR o (by omega)), V.2.cg (fun _ _ => rfl) (fun _ _ => rfl) (fun o q => hR o (by omega)), ?_⟩, fun o q => (hR o (Or.inr q)).trans (hf o q)⟩
  exact h.2.2.s ((hR 30 (by omega)).trans h30) ((hR 37 (by omega)).trans h37)
theorem p_days (h : INV K w) : Both mX_days mM_days [jR 0, jI x, jX] [jR 45, jI x, jX] K w := by
  unfold Both
  have kk := h.wk
  have F := h.ref (a := -2) (by omega) (by omega)
  rw [bX_days_0, sX_isWithin, bX_days_8, jb_ite]
  by_cases c : 1 ≤ x ∧ x ≤ 60
  · have hh : dryB (w 1 0) (w 2) (w 1 1) := h.1.1.2.1
    rw [if_pos c]
    refine h.1.measure hh.1 (fun f q hf => ?_)
    have e1 : PW w f q 1 = w 1 := PW_n (by omega)
    have e2 : PW w f q 2 = w 2 := PW_n (by omega)
    have O1 : OKC (PW w f q) := h.1.cg (fun o z => PW_n (by omega))
    have V1 : VM (PW w f q) (PW w f q) := ⟨O1, h.2.1.cg (fun o z => PW_n (by omega)) (fun f _ => by rw [PW_n (by omega)]) (fun o z => PW_n (by omega))⟩
    have H : H39 (PW w f q) := fun c hc => by rw [PW_39, hf c hc, disW_cg (v := PW w f q) (v' := w) (by rw [e1]) e2, e1]
    have s := dayF_ok O1 x.toNat
    rw [bX_days_36]
    refine sX_days38 O1 H c.2 ?_ _ 0 rfl (by omega)
    have e4 : dayF (PW w f q) x.toNat 1 4 = w 1 4 := by rw [s.2.2 4 (by omega), e1]
    rw [bX_days_38, if_neg (by omega), sL_lostCount (by rw [e4]; omega) (by rw [e4]; omega), bX_days_71, e4]
    have V2 : VM (dayF (PW w f q) x.toNat) (PW w f q) := ⟨O1, V1.2.cg (fun o z => s.2.1 o (by omega)) (fun f _ => by rw [s.2.1 45 (by omega)]) (fun _ _ => rfl)⟩
    rw [bM_days_0, sM_within, bM_days_7, jb_ite, if_pos c]
    refine sM_days19 (v := PW w f q) (w0 := dayF (PW w f q) x.toNat) O1 c.2 (fun u hV hR => ?_) _ 0 _ rfl (by omega) V2 RO.r
    have e7 : u 45 7 = w 1 4 := hV.eq.2.2.2.trans e4
    have E := h.end hV hR (by rw [s.2.1 30 (by omega), PW_n (by omega)]) (by rw [s.2.1 37 (by omega), PW_n (by omega)]) (fun o q => by rw [s.2.1 o (by omega), PW_n (by omega)])
    have ls := lost_sure (f := dayF (PW w f q) x.toNat 7) (g := u 51) (w 1 4).toNat (fun i q1 q2 => (hV.kt (p := i) ⟨q1, by rw [e4]; omega⟩).1.2.symm)
    have sb := sm_in (f := sure1 (u 51)) (lo := 0) (hi := 1) (w 1 4).toNat (fun _ _ _ => sure1_in)
    rw [bM_days_19, if_neg (by omega), sM_sureOnes (by rw [e7]; omega) (by rw [e7]; omega), bM_days_38, e7]
    refine ⟨?_, E⟩
    rw [n32s (by omega) (by omega)]
    congr 1
    omega
  · rw [if_neg c, sX_refuse2, bX_days_17, bM_days_0, sM_within, bM_days_7, jb_ite, if_neg c, sM_no2, bM_days_16]
    exact F
end HB
