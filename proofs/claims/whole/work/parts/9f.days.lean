/-! days -/
theorem jushr_in (x : Int) : 0 ≤ jushr x 16 ∧ jushr x 16 < 65536 := by
  unfold jushr
  generalize (Int32.ofInt x).toUInt32 = a
  have h : ((Int32.ofInt 16).toUInt32 &&& Int32.toUInt32 31) = 16 := by decide
  rw [h]
  have hn : (a >>> (16 : UInt32)).toNat = a.toNat / 65536 := by
    rw [UInt32.toNat_shiftRight]
    exact Nat.shiftRight_eq_div_pow _ _
  have hl : a.toNat < 4294967296 := a.toBitVec.isLt
  have hb : (a >>> (16 : UInt32)).toBitVec.toNat = a.toNat / 65536 := hn
  have e : (a >>> (16 : UInt32)).toBitVec.toInt = ((a >>> (16 : UInt32)).toBitVec.toNat : Int) := BitVec.toInt_eq_toNat_of_lt (by rw [hb]; omega)
  have e2 : ((a >>> (16 : UInt32)).toInt32).toInt = (a >>> (16 : UInt32)).toBitVec.toInt := rfl
  rw [e2, e, hb]
  omega
def seedN (x : Int) : Int := n32 (n32 (x * 1103515245) + 12345)
def drawD (x : Int) : Int := Int.tmod (jushr (seedN x) 16) 5
theorem drawD_in (x : Int) : 0 ≤ drawD x ∧ drawD x ≤ 4 := by
  unfold drawD
  have := jushr_in (seedN x)
  rw [Int.tmod_eq_emod_of_nonneg this.1]
  omega
def stepW (v : jW) (k c : Int) : jW := jup (jup v 6 k (v 6 k + jcmd c)) 7 k (moveS (v 1 1) (v 6 k + jcmd c) (v 7 k) c)
def sedW (v : jW) : jW := jup v 1 2 (seedN (v 1 2))
def strC (v : jW) (k : Int) : Int := if canB (sedW v) (sedW v 6 k) (drawD (v 1 2)) then drawD (v 1 2) else 0
def strW (v : jW) (k : Int) : jW := if v 7 k < 5 then stepW (sedW v) k (strC v k) else v
def strF (v : jW) : Nat → jW
  | 0 => v
  | m + 1 => strW (strF v m) (m : Int)
noncomputable def homC (v : jW) (k : Int) : Int := if ldR (cnI v (v 1 1) (v 6 k)) 4 1 = -1 then 0 else ldR (cnI v (v 1 1) (v 6 k)) 4 1
noncomputable def homW (v : jW) (k : Int) : jW := if v 7 k < 5 then v else stepW v k (homC v k)
noncomputable def homF (v : jW) : Nat → jW
  | 0 => v
  | m + 1 => homW (homF v m) (m : Int)
noncomputable def dayW (v : jW) : jW := homF (strF v (v 1 4).toNat) (v 1 4).toNat
noncomputable def dayF (v : jW) : Nat → jW
  | 0 => v
  | m + 1 => dayW (dayF v m)
/-- what days leave as it is -/
def Stq (v u : jW) : Prop := OKC u ∧ (∀ o, o ≠ 1 ∧ o ≠ 6 ∧ o ≠ 7 → u o = v o) ∧ ∀ f, f ≠ 2 → u 1 f = v 1 f
section HA
variable {w v u : jW} {Q : jV → jW → Prop} {K k c x : Int}
theorem Stq.r (h : OKC v) : Stq v v := ⟨h, fun _ _ => rfl, fun _ _ => rfl⟩
theorem Stq.t {a b c : jW} (h : Stq a b) (h' : Stq b c) : Stq a c := ⟨h'.1, fun o q => (h'.2.1 o q).trans (h.2.1 o q), fun f q => (h'.2.2 f q).trans (h.2.2 f q)⟩
theorem OKC.step (h : OKC v) (hp : 0 ≤ k ∧ k < v 1 4) (hc : dryB (v 1 0) (v 2) c) (hs : 0 ≤ x ∧ x ≤ 9) : OKC (jup (jup v 6 k c) 7 k x) := by
  unfold OKC LOk at h ⊢
  simp only [jwr_n, jwr_s, jupn, jups, up1_e, ne_eq, Nat.reduceEqDiff, not_false_eq_true, not_true_eq_false, if_true, if_false, Int.reduceEq, Int.reduceLT, Int.reduceLE, Int.reduceNeg, Int.reduceSub, Int.reduceAdd, Int.reduceMul, true_and, and_true, and_self, or_true, true_or, or_false, false_or, or_self] at h ⊢
  obtain ⟨⟨h1, h2, h3, h4, h5, h6, h7⟩, h8⟩ := h
  refine ⟨⟨h1, h2, h3, h4, h5, h6, ?_⟩, h8⟩
  intro i q1 q2
  by_cases e : i = k
  · simp only [if_pos e]; exact ⟨hc, hs⟩
  · simp only [if_neg e]; exact h7 i q1 q2
theorem OKC.sed (h : OKC v) : OKC (jup v 1 2 x) := by
  unfold OKC at h ⊢
  simp only [jwr_n, jwr_s, jupn, jups, up1_e, ne_eq, Nat.reduceEqDiff, not_false_eq_true, not_true_eq_false, if_true, if_false, Int.reduceEq, Int.reduceLT, Int.reduceLE, Int.reduceNeg, Int.reduceSub, Int.reduceAdd, Int.reduceMul, true_and, and_true, and_self, or_true, true_or, or_false, false_or, or_self] at h ⊢
  exact h
theorem Stq.step (h : OKC v) (hp : 0 ≤ k ∧ k < v 1 4) (hc : 0 ≤ c ∧ c ≤ 4) (hb : canB v (v 6 k) c) : Stq v (stepW v k c) := by
  have kt := h.kt hp
  have hd : dryB (v 1 0) (v 2) (v 6 k + jcmd c) := hb.elim (fun t => by rw [t, jcmd0, Int.add_zero]; exact kt.1) id
  refine ⟨h.step hp hd (moveS_in kt.2.1), fun o q => ?_, fun f q => ?_⟩
  · unfold stepW; rw [jupn q.2.2, jupn q.2.1]
  · unfold stepW; rw [jupn (by omega), jupn (by omega)]
theorem Stq.sed (h : OKC v) : Stq v (sedW v) := by
  refine ⟨h.sed, fun o q => ?_, fun f q => ?_⟩
  · unfold sedW; rw [jupn q.1]
  · unfold sedW; rw [jups, up1_n q]
theorem strC_in (h : OKC v) : (0 ≤ strC v k ∧ strC v k ≤ 4) ∧ canB (sedW v) (sedW v 6 k) (strC v k) := by
  have d := drawD_in (v 1 2)
  unfold strC
  by_cases q : canB (sedW v) (sedW v 6 k) (drawD (v 1 2))
  · rw [if_pos q]; exact ⟨d, q⟩
  · rw [if_neg q]; exact ⟨by omega, Or.inl rfl⟩
theorem Stq.str (h : OKC v) (hp : 0 ≤ k ∧ k < v 1 4) : Stq v (strW v k) := by
  unfold strW
  by_cases l : v 7 k < 5
  · rw [if_pos l]
    have s := Stq.sed h
    have c := strC_in (k := k) h
    exact s.t (Stq.step s.1 (by rw [s.2.2 4 (by omega)]; exact hp) c.1 c.2)
  · rw [if_neg l]; exact Stq.r h
theorem strF_ok (h : OKC v) (m : Nat) (hm : (m : Int) ≤ v 1 4) : Stq v (strF v m) := by
  induction m with
  | zero => exact Stq.r h
  | succ m ih =>
    have a := ih (by omega)
    exact a.t (Stq.str a.1 (by rw [a.2.2 4 (by omega)]; omega))
theorem homC_in : (0 ≤ homC v k ∧ homC v k ≤ 4) ∧ canB v (v 6 k) (homC v k) := by
  unfold homC
  by_cases q : ldR (cnI v (v 1 1) (v 6 k)) 4 1 = -1
  · rw [if_pos q]; exact ⟨by omega, Or.inl rfl⟩
  · rw [if_neg q]
    have i := (ldR_in (g := cnI v (v 1 1) (v 6 k)) 4 1 (by omega)).resolve_left q
    refine ⟨by omega, Or.inr ?_⟩
    have j := i.2.2
    unfold cnI at j
    split at j
    · rename_i t; exact t.1
    · omega
theorem Stq.hom (h : OKC v) (hp : 0 ≤ k ∧ k < v 1 4) : Stq v (homW v k) := by
  unfold homW
  by_cases l : v 7 k < 5
  · rw [if_pos l]; exact Stq.r h
  · rw [if_neg l]
    have c := homC_in (v := v) (k := k)
    exact Stq.step h hp c.1 c.2
theorem homF_ok (h : OKC v) (m : Nat) (hm : (m : Int) ≤ v 1 4) : Stq v (homF v m) := by
  induction m with
  | zero => exact Stq.r h
  | succ m ih =>
    have a := ih (by omega)
    exact a.t (Stq.hom a.1 (by rw [a.2.2 4 (by omega)]; omega))
theorem Stq.day (h : OKC v) : Stq v (dayW v) := by
  have h4 : 0 ≤ v 1 4 ∧ v 1 4 ≤ 4 := h.1.2.2.2.1
  have a := strF_ok h (v 1 4).toNat (by omega)
  exact a.t (homF_ok a.1 _ (by rw [a.2.2 4 (by omega)]; omega))
theorem dayF_ok (h : OKC v) (m : Nat) : Stq v (dayF v m) := by
  induction m with
  | zero => exact Stq.r h
  | succ m ih => exact ih.t (Stq.day ih.1)
theorem OKC.can (h : OKC w) (hp : 0 ≤ k ∧ k < w 1 4) (hk : 0 ≤ c ∧ c ≤ 4) : AW mL_canGo 0 [jR 1, jI k, jI c] [] w Q = Q (jI (jb (canB w (w 6 k) c))) w := by
  have h4 : 0 ≤ w 1 4 ∧ w 1 4 ≤ 4 := h.1.2.2.2.1
  have hw : 3 ≤ w 1 0 ∧ w 1 0 ≤ 7 := h.1.1
  have kt := h.kt hp
  have jc := jcmd_in (k := c)
  rw [bL_canGo_0, if_pos (by omega), if_pos (by omega), n32s (x := w 6 k + jcmd c) (by omega) (by omega), sL_isDry hw.2, bL_canGo_17, if_pos (by rw [jb_01]; trivial)]
  congr 2
  apply jb_congr
  constructor
  · exact Or.inr
  · rintro (t | t)
    · rw [t, jcmd0, Int.add_zero]; exact kt.1
    · exact t
theorem sX_move (h : OKC w) (hp : 0 ≤ k ∧ k < w 1 4) (hk : 0 ≤ c ∧ c ≤ 4) : AW mL_move 0 [jR 1, jI k, jI c] [] w Q = Q (jI 0) (stepW w k c) := by
  have h4 : 0 ≤ w 1 4 ∧ w 1 4 ≤ 4 := h.1.2.2.2.1
  have kt := h.kt hp
  rw [sL_move (by omega) hk kt.2.2 kt.2.1]
  rfl
theorem sX_stray2 (h : OKC w) (hQ : Q (jI 0) (strF w (w 1 4).toNat)) (m : Nat) : ∀ (j : Nat) (y2 : jV), (w 1 4 - j).toNat = m → (j : Int) ≤ w 1 4 → AW mX_lostOnesStray 2 [jR 0, jI j, y2] [] (strF w j) Q := by
  have h4 : 0 ≤ w 1 4 ∧ w 1 4 ≤ 4 := h.1.2.2.2.1
  induction m with
  | zero =>
    intro j y2 hm hj
    have s := strF_ok h j hj
    rw [bX_lostOnesStray_2, s.2.2 4 (by omega), if_neg (by omega), show j = (w 1 4).toNat by omega]
    exact hQ
  | succ m ih =>
    intro j y2 hm hj
    have s := strF_ok h j hj
    have i : ∀ y2, AW mX_lostOnesStray 2 [jR 0, jI ((j : Int) + 1), y2] [] (strW (strF w j) (j : Int)) Q := fun y2 => ih (j + 1) y2 (by omega) (by omega)
    unfold strW at i
    have e4 := s.2.2 4 (by omega)
    rw [bX_lostOnesStray_2, e4, if_pos (by omega), bL_isLost_0, if_pos (by omega)]
    by_cases l : strF w j 7 (j : Int) < 5
    · rw [if_pos l] at i
      have sd := Stq.sed s.1
      have hp : 0 ≤ (j : Int) ∧ (j : Int) < sedW (strF w j) 1 4 := by rw [sd.2.2 4 (by omega), e4]; omega
      have dd := drawD_in (strF w j 1 2)
      have D : ∀ Q, AW mL_draw 0 [jR 1, jI 5] [] (strF w j) Q = Q (jI (drawD (strF w j 1 2))) (sedW (strF w j)) := by
        intro Q
        rw [bL_draw_0, if_pos (by omega), if_pos (by omega)]; rfl
      rw [if_pos l, bX_lostOnesStray_21, if_neg (by omega), D, bX_lostOnesStray_32, sd.1.can hp dd, bX_lostOnesStray_47, jb_ite]
      unfold strC at i
      by_cases q : canB (sedW (strF w j)) (sedW (strF w j) 6 (j : Int)) (drawD (strF w j 1 2))
      · rw [if_pos q] at i
        rw [if_pos q, sX_move sd.1 hp dd, bX_lostOnesStray_58, n32s (x := (j : Int) + 1) (by omega) (by omega)]
        exact i _
      · rw [if_neg q] at i
        rw [if_neg q, sX_move sd.1 hp (by omega), bX_lostOnesStray_58, n32s (x := (j : Int) + 1) (by omega) (by omega)]
        exact i _
    · rw [if_neg l] at i
      rw [if_neg l, bX_lostOnesStray_21, if_pos rfl, bX_lostOnesStray_58, n32s (x := (j : Int) + 1) (by omega) (by omega)]
      exact i _
def H39 (u : jW) : Prop := ∀ c, c67 c → u 39 c = disW u (u 1 1) c
theorem Stq.h39 (s : Stq v u) (h : H39 v) : H39 u := by
  intro c hc
  rw [s.2.1 39 (by omega), s.2.2 1 (by omega), disW_cg (v := u) (v' := v) (s.2.2 0 (by omega)) (s.2.1 2 (by omega))]
  exact h c hc
theorem sX_home2 (h : OKC w) (h39 : H39 w) (hQ : Q (jI 0) (homF w (w 1 4).toNat)) (m : Nat) : ∀ (j : Nat) (y2 : jV), (w 1 4 - j).toNat = m → (j : Int) ≤ w 1 4 → AW mX_othersGoHome 2 [jR 0, jI j, y2] [] (homF w j) Q := by
  have h4 : 0 ≤ w 1 4 ∧ w 1 4 ≤ 4 := h.1.2.2.2.1
  induction m with
  | zero =>
    intro j y2 hm hj
    have s := homF_ok h j hj
    rw [bX_othersGoHome_2, s.2.2 4 (by omega), if_neg (by omega), show j = (w 1 4).toNat by omega]
    exact hQ
  | succ m ih =>
    intro j y2 hm hj
    have s := homF_ok h j hj
    have i : ∀ y2, AW mX_othersGoHome 2 [jR 0, jI ((j : Int) + 1), y2] [] (homW (homF w j) (j : Int)) Q := fun y2 => ih (j + 1) y2 (by omega) (by omega)
    unfold homW at i
    have e4 := s.2.2 4 (by omega)
    have hw : 3 ≤ homF w j 1 0 ∧ homF w j 1 0 ≤ 7 := s.1.1.1
    rw [bX_othersGoHome_2, e4, if_pos (by omega), bL_isLost_0, if_pos (by omega)]
    by_cases l : homF w j 7 (j : Int) < 5
    · rw [if_pos l] at i
      rw [if_pos l, bX_othersGoHome_21, if_neg (by omega), bX_othersGoHome_63, n32s (x := (j : Int) + 1) (by omega) (by omega)]
      exact i _
    · rw [if_neg l] at i
      have hp : 0 ≤ (j : Int) ∧ (j : Int) < homF w j 1 4 := by rw [e4]; omega
      have kt := s.1.kt hp
      have c := homC_in (v := homF w j) (k := (j : Int))
      have li := ldR_in (g := cnI (homF w j) (homF w j 1 1) (homF w j 6 (j : Int))) 4 1 (by omega)
      rw [if_neg l, bX_othersGoHome_21, if_pos rfl, if_pos (by omega), bP_commandNearer_0, sP_near (t := homF w j 1 1) hw.2 kt.2.2 (s.h39 h39) 4 1 _ rfl (by omega) (by omega), bX_othersGoHome_44]
      unfold homC at i
      by_cases q : ldR (cnI (homF w j) (homF w j 1 1) (homF w j 6 (j : Int))) 4 1 = -1
      · rw [if_pos q] at i
        rw [if_pos q, sX_move s.1 hp (by omega), bX_othersGoHome_63, n32s (x := (j : Int) + 1) (by omega) (by omega)]
        exact i _
      · rw [if_neg q] at i
        have li' := li.resolve_left q
        rw [if_neg q, sX_move s.1 hp (by omega), bX_othersGoHome_63, n32s (x := (j : Int) + 1) (by omega) (by omega)]
        exact i _
theorem sX_days38 (h : OKC w) (h39 : H39 w) {n : Int} (hn : n ≤ 60) (hF : AW mX_days 38 [jR 0, jI n, jI n] [] (dayF w n.toNat) Q) (m : Nat) : ∀ (j : Nat), (n - j).toNat = m → (j : Int) ≤ n → AW mX_days 38 [jR 0, jI n, jI j] [] (dayF w j) Q := by
  induction m with
  | zero =>
    intro j hm hj
    have e : n = (j : Int) := by omega
    rw [e] at hF ⊢
    have e2 : ((j : Int)).toNat = j := by omega
    rw [e2] at hF
    exact hF
  | succ m ih =>
    intro j hm hj
    have s := dayF_ok h j
    have h4 : 0 ≤ dayF w j 1 4 ∧ dayF w j 1 4 ≤ 4 := s.1.1.2.2.2.1
    have i : AW mX_days 38 [jR 0, jI n, jI ((j : Int) + 1)] [] (homF (strF (dayF w j) (dayF w j 1 4).toNat) (dayF w j 1 4).toNat) Q := ih (j + 1) (by omega) (by omega)
    have a := strF_ok s.1 (dayF w j 1 4).toNat (by omega)
    rw [bX_days_38, if_pos (by omega), bX_lostOnesStray_0]
    refine sX_stray2 s.1 ?_ _ 0 _ rfl (by omega)
    rw [bX_days_47, bX_othersGoHome_0]
    have e4 := a.2.2 4 (by omega)
    refine sX_home2 a.1 (a.h39 (s.h39 h39)) ?_ _ 0 _ rfl (by rw [e4]; omega)
    rw [bX_days_51, n32s (x := (j : Int) + 1) (by omega) (by omega), e4]
    exact i
end HA
