section TB
variable {w v : jW} {Q : jV → jW → Prop} {K s n k a : Int}
/-- why no right walk -/
def wrR (v : jW) (s n k : Int) : Int := if wnR v s n k = 0 then (if fwR v s n.toNat (v 6 k) 0 = -1 then 0 else -5) else wnR v s n k
theorem okT_0 (h : wnR v s n k = 0) : okT v s n k ∧ ntR v s n = 0 := by
  by_cases c : okT v s n k
  · rw [wnR_y c] at h; exact ⟨c, h⟩
  · rw [wnR_n c] at h; omega
theorem sX_wnrw (h : OKC w) : AW mX_whyNoRightWalk 0 [jR 0, jI s, jI n, jI k, jX] [] w Q = Q (jI (wrR w s n k)) w := by
  unfold wrR
  rw [bX_whyNoRightWalk_0, sX_wnw h, bX_whyNoRightWalk_7]
  by_cases z : wnR w s n k = 0
  · have c := okT_0 z
    rw [if_pos z, if_pos z, sX_fw h c.1.1 c.1.2.2 c.2, bX_whyNoRightWalk_21, z]
    by_cases y : fwR w s n.toNat (w 6 k) 0 = -1
    · rw [if_pos y, if_pos y]
    · rw [if_neg y, if_neg y]
  · rw [if_neg z, if_neg z]
theorem wrR_in : wrR v s n k = 0 ∨ (-5 ≤ wrR v s n k ∧ wrR v s n k ≤ -2) := by
  unfold wrR
  by_cases z : wnR v s n k = 0
  · rw [if_pos z]; split <;> omega
  · rw [if_neg z]
    by_cases c : okT v s n k
    · rw [wnR_y c] at z ⊢
      have := ntR_in (v := v) (n := n) c.1
      omega
    · rw [wnR_n c]; omega
theorem wrR_0 (h : wrR v s n k = 0) : okT v s n k ∧ ntR v s n = 0 ∧ fwR v s n.toNat (v 6 k) 0 = -1 := by
  unfold wrR at h
  by_cases z : wnR v s n k = 0
  · have c := okT_0 z
    rw [if_pos z] at h
    refine ⟨c.1, c.2, ?_⟩
    split at h
    · assumption
    · omega
  · rw [if_neg z] at h; exact absurd h z
theorem VM.noWalk (h : VM w v) (c : okT v s n k) : AW mM_noWalk 0 [jR 45, jI s, jI n, jI k, jX] [] w Q = Q (jI (wrR v s n k)) w := by
  unfold wrR
  rw [wnR_y c, bM_noWalk_0, h.noTold c.1, bM_noWalk_6]
  by_cases z : ntR v s n = 0
  · rw [if_neg (by omega), if_pos z, h.wrong c.1 c.2.2 z, bM_noWalk_25]
    by_cases y : fwR v s n.toNat (v 6 k) 0 = -1
    · rw [if_pos y, if_pos y]
    · rw [if_neg y, if_neg y]
  · have i := (ntR_in (v := v) (n := n) c.1).resolve_left z
    rw [if_pos (by omega), if_neg z]
theorem right_el (hO : OKC v) (h : wrR v s n k = 0) : ∀ i, 0 ≤ i → i < n → dryB (v 1 0) (v 2) (v 25 (40 * s + i)) := by
  intro i h0 h1
  have c := wrR_0 h
  exact fwR_all _ _ 0 (by omega) c.2.2 i h0 (by omega)
theorem pv_dry (hO : OKC v) (h : wrR v s n k = 0) : ∀ i, 0 ≤ i → i ≤ n → dryB (v 1 0) (v 2) (pvR v s k i) := by
  intro i h0 h1
  have c := wrR_0 h
  unfold pvR
  by_cases z : i = 0
  · rw [if_pos z]; exact (hO.kt c.1.2.2).1
  · rw [if_neg z]; exact right_el hO h (i - 1) (by omega) (by omega)
theorem pv_s {i : Int} (h : 0 ≤ i) : pvR v s k (i + 1) = v 25 (40 * s + i) := by
  unfold pvR
  rw [if_neg (by omega), show i + 1 - 1 = i by omega]
theorem sX_nears64 (u : jW) (hO : OKC w) (hU : ∀ o, o < 28 → u o = w o) (hr : wrR w s n k = 0) (h39 : ∀ c, c67 c → u 39 c = disW w (w 1 1) c) {y3 y4 : jV} (m : Nat) :
    ∀ (j : Nat) (y8 : jV), (n - j).toNat = m → (j : Int) ≤ n → AW mX_nears 64 [jR 0, jI s, jI n, y3, y4, jI (disW w (w 1 1) (pvR w s k j)), jI (sm (neI w s k) j), jI j, y8] [] u Q = Q (jI (sm (neI w s k) n.toNat)) u := by
  have so : SOk (w 1 3) (w 23) (w 24) (w 25) := hO.2.2.1
  have hw : 3 ≤ w 1 0 ∧ w 1 0 ≤ 7 := hO.1.1
  have c := wrR_0 hr
  have z := ntR_0 so c.1.1 c.2.1
  have e23 := hU 23 (by omega)
  have e24 := hU 24 (by omega)
  have e25 := hU 25 (by omega)
  induction m with
  | zero =>
    intro j y8 hm hj
    rw [bX_nears_64, if_neg (by omega), show n.toNat = j by omega]
  | succ m ih =>
    intro j y8 hm hj
    have si := sm_in (f := neI w s k) (lo := 0) (hi := 1) j (fun _ _ _ => neI_in)
    have dr := right_el hO hr j (by omega) (by omega)
    have x67 : c67 (w 25 (40 * s + (j : Int))) := ⟨dr.1.1, cell67 hw.2 dr.1⟩
    have x67' := x67
    unfold c67 at x67'
    have i := fun y8 => ih (j + 1) y8 (by omega) (by omega)
    have pe : pvR w s k ((j + 1 : Nat) : Int) = w 25 (40 * s + (j : Int)) := pv_s (i := (j : Int)) (by omega)
    rw [pe] at i
    rw [bX_nears_64, if_pos (by omega), sS_elementAt (p := w 1 3) (by rw [e23, e24, e25]; exact so), bX_nears_84, e23, e24, e25, elR_w c.1.1 z.1 ⟨by omega, by omega⟩, sP_stepsTo, if_pos x67', h39 _ x67, bX_nears_87, n32s (x := (j : Int) + 1) (by omega) (by omega), n32s (x := sm (neI w s k) j + 1) (by omega) (by omega), n32s (x := sm (neI w s k) j + 0) (by omega) (by omega)]
    by_cases q : disW w (w 1 1) (w 25 (40 * s + (j : Int))) < disW w (w 1 1) (pvR w s k j)
    · have ee : neI w s k (j : Int) = 1 := if_pos q
      rw [sm_s, ee] at i
      rw [if_pos q]; exact i _
    · have ee : neI w s k (j : Int) = 0 := if_neg q
      rw [sm_s, ee] at i
      rw [if_neg q]; exact i _
theorem sM_nears75 {g : Int → Int} (h : VM w v) (hr : wrR v s n k = 0) (e60 : w 60 = g) (hg : ∀ c, c67 c → g c - 1 = disW v (v 1 1) c) {y3 y4 : jV} (m : Nat) :
    ∀ (j : Nat) (y8 : jV), (n - j).toNat = m → (j : Int) ≤ n → AW mM_nears 75 [jR 45, jI s, jI n, y3, y4, jI (sm (neI v s k) j), jI (pvR v s k j), jI j, y8] [] w Q = Q (jI (sm (neI v s k) n.toNat)) w := by
  have so := h.sh
  have hO := h.1
  have hw := h.wk.2.2
  have c := wrR_0 hr
  induction m with
  | zero =>
    intro j y8 hm hj
    rw [bM_nears_75, if_neg (by omega), show n.toNat = j by omega]
  | succ m ih =>
    intro j y8 hm hj
    have si := sm_in (f := neI v s k) (lo := 0) (hi := 1) j (fun _ _ _ => neI_in)
    have dr := right_el hO hr j (by omega) (by omega)
    have dp := pv_dry hO hr j (by omega) (by omega)
    have x67 : c67 (v 25 (40 * s + (j : Int))) := ⟨dr.1.1, cell67 hw.2 dr.1⟩
    have p67 : c67 (pvR v s k (j : Int)) := ⟨dp.1.1, cell67 hw.2 dp.1⟩
    have x67' := x67
    have p67' := p67
    unfold c67 at x67' p67'
    have i := fun y8 => ih (j + 1) y8 (by omega) (by omega)
    have pe : pvR v s k ((j + 1 : Nat) : Int) = v 25 (40 * s + (j : Int)) := pv_s (i := (j : Int)) (by omega)
    have g1 := hg _ x67
    have g2 := hg _ p67
    rw [pe] at i
    rw [bM_nears_75, if_pos (by omega), bM_toldAt_0, n32s (x := 40 * s) (by omega) (by omega), n32s (x := 40 * s + (j : Int)) (by omega) (by omega), if_pos (by omega), h.m55 ⟨by omega, by omega⟩, bM_nears_88, n32s (x := v 25 (40 * s + (j : Int))) (by omega) (by omega), if_pos x67', if_pos p67', e60, n32s (x := (j : Int) + 1) (by omega) (by omega), n32s (x := sm (neI v s k) j + 1) (by omega) (by omega)]
    by_cases q : disW v (v 1 1) (v 25 (40 * s + (j : Int))) < disW v (v 1 1) (pvR v s k j)
    · have ee : neI v s k (j : Int) = 1 := if_pos q
      rw [sm_s, ee] at i
      rw [if_pos (by omega)]; exact i _
    · have ee : neI v s k (j : Int) = 0 := if_neg q
      rw [sm_s, ee, Int.add_zero] at i
      rw [if_neg (by omega)]; exact i _
theorem p_nears (h : INV K w) : Both mX_nears mM_nears [jR 0, jI s, jI n, jI k, jX, jX, jX, jX, jX] [jR 45, jI s, jI n, jI k, jX, jX, jX, jX, jX] K w := by
  unfold Both
  have kk := h.wk
  have F := h.ref (a := -2) (by omega) (by omega)
  have R := h.vR
  have wi := wrR_in (v := w) (s := s) (n := n) (k := k)
  have N : okT w s n k → ∀ u, VM u w → ∀ Q, AW mM_nears 0 [jR 45, jI s, jI n, jI k, jX, jX, jX, jX, jX] [] u Q = AW mM_nears 39 [jR 45, jI s, jI n, jI k, jX, jX, jX, jX, jX] [jI (wrR w s n k)] u Q := by
    intro c u hu Q
    rw [bM_nears_0, sM_isShelf, bM_nears_4, jb_ite, if_pos c.1, sM_within, bM_nears_14, jb_ite, if_pos c.2.1, hu.isWalker, bM_nears_22, jb_ite, if_pos c.2.2, hu.noWalk c]
  rw [bX_nears_0, sX_wnrw h.1, bX_nears_7]
  by_cases z : wrR w s n k = 0
  · have c := wrR_0 z
    have hh : cellB (w 1 0) (w 1 1) := h.1.1.2.1.1
    have kt := h.1.kt c.1.2.2
    have k6 := kt.2.2
    unfold c67 at k6
    rw [if_pos z]
    refine h.1.measure hh (fun f q hf => ?_)
    have V := h.vm (SX.PW (w := w) (f := f) (q := q))
    have p0 : pvR w s k ((0 : Nat) : Int) = w 6 k := if_pos rfl
    have S := fun Q y4 => sX_nears64 (Q := Q) (PW w f q) h.1 (fun o t => PW_n (by omega)) z (fun c hc => by rw [PW_39]; exact hf c hc) (y3 := jI k) (y4 := y4) _ 0 jX rfl (by omega)
    rw [p0] at S
    rw [bX_nears_39, if_pos (by omega), PW_n (o := 6) (by omega), sP_stepsTo, if_pos k6, PW_39, hf _ kt.2.2, bX_nears_56]
    refine (S _ _).mpr ?_
    rw [N c.1 _ V, bM_nears_39, if_neg (by omega), V.eq.2.1]
    refine V.walks hh (fun g hg => ?_)
    have V2 : VM (jwr (PW w f q) 60 g) w := V.w60
    have S2 := fun Q y4 => sM_nears75 (Q := Q) V2 z jwr_s (fun c hc => hg.dq hc) (y3 := jI k) (y4 := y4) _ 0 jX rfl (by omega)
    rw [p0] at S2
    rw [bM_nears_61, if_pos (by omega), (V2.kt c.1.2.2).1.1]
    refine (S2 _ _).mpr ?_
    exact h.q SX.PW h.2.2.PW (SMo.w (by omega)) rfl
  · rw [if_neg z, sX_refuse (by omega) (by omega), bX_nears_20]
    by_cases c : okT w s n k
    · rw [N c _ (R _), bM_nears_39, if_pos (by omega), sM_no (by omega) (by omega), bM_nears_52]
      exact h.ref (by omega) (by omega)
    · have e : wrR w s n k = -2 := by unfold wrR; rw [wnR_n c, if_neg (by omega)]
      rw [e, bM_nears_0, sM_isShelf, bM_nears_4, jb_ite]
      by_cases c1 : 0 ≤ s ∧ s < 8
      · rw [if_pos c1, sM_within, bM_nears_14, jb_ite]
        by_cases c2 : 0 ≤ n ∧ n ≤ 40
        · rw [if_pos c2, (R _).isWalker, bM_nears_22, jb_ite, if_neg (fun t => c ⟨c1, c2, t⟩), sM_no2, bM_nears_31]
          exact F
        · rw [if_neg c2, sM_no2, bM_nears_31]
          exact F
      · rw [if_neg c1, sM_no2, bM_nears_31]
        exact F
theorem sX_done46 {y1 y2 y4 : jV} (hk : 0 ≤ k ∧ k < 4) : AW mX_done 46 [jR 0, y1, y2, jI k, y4] [] w Q = Q (jI (w 6 k)) (jup w 7 k (if w 6 k = w 1 1 then 9 else w 7 k)) := by
  rw [bX_done_46, if_pos hk]
  by_cases c : w 6 k = w 1 1
  · rw [if_pos c, if_pos c, if_pos hk, if_pos hk]
  · rw [if_neg c, if_neg c, if_pos hk, jup_same rfl]
theorem sM_done72 {y1 y2 y4 : jV} (hk : 0 ≤ k ∧ k < 4) : AW mM_done 72 [jR 45, y1, y2, jI k, y4] [] w Q = Q (jI (w 50 k)) (jup w 51 k (if w 50 k = w 45 2 then 9 else w 51 k)) := by
  rw [bM_done_72, if_pos hk]
  by_cases c : w 50 k = w 45 2
  · rw [if_pos c, if_pos c, if_pos hk, if_pos hk]
  · rw [if_neg c, if_neg c, if_pos hk, jup_same rfl]
theorem p_done (h : INV K w) : Both mX_done mM_done [jR 0, jI s, jI n, jI k, jX] [jR 45, jI s, jI n, jI k, jX] K w := by
  unfold Both
  have kk := h.wk
  have F := h.ref (a := -2) (by omega) (by omega)
  have R := h.vR
  have wi := wrR_in (v := w) (s := s) (n := n) (k := k)
  have so := h.sh
  have N : okT w s n k → ∀ u, VM u w → ∀ Q, AW mM_done 0 [jR 45, jI s, jI n, jI k, jX] [] u Q = AW mM_done 39 [jR 45, jI s, jI n, jI k, jX] [jI (wrR w s n k)] u Q := by
    intro c u hu Q
    rw [bM_done_0, sM_isShelf, bM_done_4, jb_ite, if_pos c.1, sM_within, bM_done_14, jb_ite, if_pos c.2.1, hu.isWalker, bM_done_22, jb_ite, if_pos c.2.2, hu.noWalk c]
  rw [bX_done_0, sX_wnrw h.1, bX_done_7]
  by_cases z : wrR w s n k = 0
  · have c := wrR_0 z
    have kt := h.1.kt c.1.2.2
    have z0 := ntR_0 so c.1.1 c.2.1
    have k4 : 0 ≤ k ∧ k < 4 := by omega
    have V0 := h.vm (SX.r (w := w))
    rw [if_pos z]
    have hx := pv_dry h.1 z n (by omega) (by omega)
    have x67 : c67 (pvR w s k n) := ⟨hx.1.1, cell67 kk.2.2.2 hx.1⟩
    have x67' := x67
    unfold c67 at x67'
    have pn : ¬ 0 < n → pvR w s k n = w 6 k := fun t => if_pos (by omega)
    have pp : 0 < n → pvR w s k n = w 25 (40 * s + (n - 1)) := fun t => if_neg (by omega)
    have E1 : ∀ Q, (if 0 < n then AW mS_elementAt 0 [jR 22, jI s, jI (n32 (n - 1))] [] w (fun r w' => AW mX_done 44 [jR 0, jI s, jI n, jI k, jI (wrR w s n k)] (r :: [jI k, jR 6]) w' Q) else AW mX_done 46 [jR 0, jI s, jI n, jI k, jI (wrR w s n k)] [] w Q) = AW mX_done 46 [jR 0, jI s, jI n, jI k, jI (wrR w s n k)] [] (jup w 6 k (pvR w s k n)) Q := by
      intro Q
      by_cases y : 0 < n
      · rw [if_pos y, n32s (x := n - 1) (by omega) (by omega), sS_elementAt so, elR_w c.1.1 z0.1 ⟨by omega, by omega⟩, ← pp y, bX_done_44, if_pos k4, n32s (x := pvR w s k n) (by omega) (by omega)]
      · rw [if_neg y, jup_same (pn y).symm]
    have E2 : ∀ u, VM u w → u 50 k = w 6 k → ∀ Q, AW mM_done 39 [jR 45, jI s, jI n, jI k, jX] [jI (wrR w s n k)] u Q = AW mM_done 72 [jR 45, jI s, jI n, jI k, jI (wrR w s n k)] [] (jup u 50 k (pvR w s k n)) Q := by
      intro u hu h50 Q
      rw [bM_done_39, if_neg (by omega)]
      by_cases y : 0 < n
      · rw [if_pos y, n32s (x := n - 1) (by omega) (by omega), bM_toldAt_0, n32s (x := 40 * s) (by omega) (by omega), n32s (x := 40 * s + (n - 1)) (by omega) (by omega), if_pos (by omega), hu.m55 ⟨by omega, by omega⟩, ← pp y, bM_done_70, if_pos k4, n32s (x := pvR w s k n) (by omega) (by omega)]
      · rw [if_neg y, jup_same (h50.trans (pn y).symm)]
    have S := h.step (x := if pvR w s k n = w 1 1 then 9 else w 7 k) c.1.2.2 hx (by split <;> omega)
    have V1 : VM (jup (jup w 6 k (pvR w s k n)) 7 k (if pvR w s k n = w 1 1 then 9 else w 7 k)) w := ⟨h.1, h.2.1.cg (fun o q => by simp (disch := omega) only [jupn]) (fun f _ => by simp (disch := omega) only [jupn]) (fun _ _ => rfl)⟩
    rw [E1, sX_done46 k4, jups, up1_s, jupn (o := 6) (p := 1) (by omega), jupn (o := 6) (p := 7) (by omega), N c.1 _ V1, E2 _ V1 (V1.kt c.1.2.2).1.1, sM_done72 k4, jups, up1_s, jupn (o := 50) (p := 45) (by omega), jupn (o := 50) (p := 51) (by omega), V1.eq.2.1, (V1.kt c.1.2.2).1.2]
    exact ⟨rfl, ⟨S.1, S.2.1, S.2.2.le (by omega)⟩, fun o q => by simp (disch := omega) only [jupn]⟩
  · rw [if_neg z, sX_refuse (by omega) (by omega), bX_done_20]
    by_cases c : okT w s n k
    · rw [N c _ (R _), bM_done_39, if_pos (by omega), sM_no (by omega) (by omega), bM_done_52]
      exact h.ref (by omega) (by omega)
    · have e : wrR w s n k = -2 := by unfold wrR; rw [wnR_n c, if_neg (by omega)]
      rw [e, bM_done_0, sM_isShelf, bM_done_4, jb_ite]
      by_cases c1 : 0 ≤ s ∧ s < 8
      · rw [if_pos c1, sM_within, bM_done_14, jb_ite]
        by_cases c2 : 0 ≤ n ∧ n ≤ 40
        · rw [if_pos c2, (R _).isWalker, bM_done_22, jb_ite, if_neg (fun t => c ⟨c1, c2, t⟩), sM_no2, bM_done_31]
          exact F
        · rw [if_neg c2, sM_no2, bM_done_31]
          exact F
      · rw [if_neg c1, sM_no2, bM_done_31]
        exact F
end TB
