/-! which to look at next; which is false -/
noncomputable def ctI (v : jW) (s n p a c : Int) : Int := if ftI v s n (-1) c = 1 ∧ armO v p c = a then 1 else 0
noncomputable def ctN (v : jW) (s n p a : Int) : Int := sm (ctI v s n p a) 67
noncomputable def WO (v : jW) (s n p : Int) : Int := mxR (fun k => ctN v s n p (k - 1)) 10
def gI (u : jW) (p a i : Int) : Int := if u 32 (p * 49 + u 42 i) = a - 1 then 1 else 0
theorem mxR_up {f : Int → Int} {x y : Int} (m : Nat) (hx : 0 ≤ x ∧ x < (m : Int)) (hy : f x ≤ y) : mxR (up1 f x y) m = jmax (mxR f m) y := by
  induction m with
  | zero => omega
  | succ m ih =>
    rw [mxR_s, mxR_s]
    by_cases e : x = (m : Int)
    · have a : mxR (up1 f x y) m = mxR f m := mxR_cg m (fun i q1 q2 => up1_n (by omega))
      rw [a, ← e, up1_s]
      unfold jmax
      repeat' split
      all_goals omega
    · rw [ih (by omega), up1_n (by omega)]
      unfold jmax
      repeat' split
      all_goals omega
section RB
variable {w v u : jW} {Q : jV → jW → Prop} {K s n c x p : Int}
theorem ctI_in {a : Int} : 0 ≤ ctI v s n p a c ∧ ctI v s n p a c ≤ 1 := by unfold ctI; split <;> omega
theorem sm_ctI {a : Int} (m : Nat) : 0 ≤ sm (ctI v s n p a) m ∧ sm (ctI v s n p a) m ≤ m := by
  have := sm_in (f := ctI v s n p a) (lo := 0) (hi := 1) m (fun _ _ _ => ctI_in)
  omega
theorem gI_in {a i : Int} : 0 ≤ gI u p a i ∧ gI u p a i ≤ 1 := by unfold gI; split <;> omega
theorem sm_gI {a : Int} (m : Nat) : 0 ≤ sm (gI u p a) m ∧ sm (gI u p a) m ≤ m := by
  have := sm_in (f := gI u p a) (lo := 0) (hi := 1) m (fun _ _ _ => gI_in)
  omega
theorem WO_0 : 0 ≤ WO v s n p := mxR_0 10
/-- what the shelf of fitting places holds -/
def FtL (w u : jW) (s n : Int) : Prop := ∀ k : Nat, (k : Int) < rk w 67 → fpI w s n k = 1 → u 42 (sm (fpI w s n) k) = (k : Int)
theorem NF_fp : NF w s n (-1) = sm (fpI w s n) (rk w 67).toNat := sm_fp 67
theorem FtL.pl (h : OKC w) (H : FtL w u s n) {i : Int} (h0 : 0 ≤ i) (h1 : i < NF w s n (-1)) : 0 ≤ u 42 i ∧ u 42 i < rk w 67 := by
  have r0 := rk_in (v := w) (c := 67) (by omega)
  rw [NF_fp] at h1
  obtain ⟨k, k1, k2, k3⟩ := sm_sur (f := fpI w s n) (fun i => fpI_01) (rk w 67).toNat i h0 h1
  have e := H k (by omega) k2
  rw [k3] at e
  omega
theorem FtL.ct {a : Int} (h : OKC w) (S : SV w u) (H : FtL w u s n) (hp : 0 ≤ p ∧ p < w 1 3) : sm (gI u p a) (NF w s n (-1)).toNat = ctN w s n p (a - 1) := by
  have r0 := rk_in (v := w) (c := 67) (by omega)
  have hw : 3 ≤ w 1 0 ∧ w 1 0 ≤ 7 := h.1.1
  have A : sm (fun k => if fpI w s n k = 1 ∧ u 32 (p * 49 + k) = a - 1 then (1 : Int) else 0) (rk w 67).toNat = sm (gI u p a) (sm (fpI w s n) (rk w 67).toNat).toNat := by
    refine sm_sel (b := fpI w s n) (fun i => fpI_01) _ (fun k k0 k1 k2 => ?_) (fun k k0 k1 k2 => if_neg (fun t => by omega))
    have e := H k.toNat (by omega) (by rw [show ((k.toNat : Nat) : Int) = k by omega]; exact k2)
    show (if fpI w s n k = 1 ∧ u 32 (p * 49 + k) = a - 1 then (1 : Int) else 0) = (if u 32 (p * 49 + u 42 (sm (fpI w s n) k.toNat)) = a - 1 then 1 else 0)
    rw [e, show ((k.toNat : Nat) : Int) = k by omega]
    by_cases z : u 32 (p * 49 + k) = a - 1
    · rw [if_pos ⟨k2, z⟩, if_pos z]
    · rw [if_neg (fun t => z t.2), if_neg z]
  have B : sm (ctI w s n p (a - 1)) 67 = sm (fun k => if fpI w s n k = 1 ∧ u 32 (p * 49 + k) = a - 1 then (1 : Int) else 0) (rk w ((67 : Nat) : Int)).toNat := by
    refine sm_rk (v := w) (fun c _ hc => ?_) (fun c _ hc => if_neg (fun t => ?_)) 67
    · show (if ftI w s n (-1) c = 1 ∧ armO w p c = a - 1 then (1 : Int) else 0) = (if fpI w s n (rk w c) = 1 ∧ u 32 (p * 49 + rk w c) = a - 1 then 1 else 0)
      rw [fpI_rk hc, S.2.2.2.2 p c hp.1 hp.2 hc]
    · have := t.1
      rw [ftI_n (fun z => hc z.1)] at this
      omega
  rw [NF_fp, ← A]
  exact B.symm
theorem sK_most14 (h : OKC w) (S : SV w u) (H : FtL w u s n) (hp : 0 ≤ p ∧ p < w 1 3) (hQ : ∀ f, Q (jI (WO w s n p)) (jwr u 35 f)) (m : Nat) :
    ∀ (i : Nat) (f : Int → Int) (y6 : jV), (NF w s n (-1) - i).toNat = m → (i : Int) ≤ NF w s n (-1) → (∀ a, 0 ≤ a → a < 10 → f a = sm (gI u p a) i) → AW mK_mostByOneArm 14 [jR 30, jI p, jR 42, jI (NF w s n (-1)), jI (mxR f 10), jI i, y6] [] (jwr u 35 f) Q := by
  have hw : 3 ≤ w 1 0 ∧ w 1 0 ≤ 7 := h.1.1
  have r67 := rk_67 (v := w) hw.2
  have r0 := rk_in (v := w) (c := 67) (by omega)
  have sN := sm_fpI (w := w) (s := s) (n := n) (rk w 67).toNat
  have eN := NF_fp (w := w) (s := s) (n := n)
  have G := S.gk h
  induction m with
  | zero =>
    intro i f y6 hm hi hf
    rw [bK_mostByOneArm_14, if_neg (by omega)]
    have e : mxR f 10 = WO w s n p := by
      refine mxR_cg 10 (fun k k0 k1 => ?_)
      rw [hf k k0 (by omega), ← FtL.ct h S H hp, show i = (NF w s n (-1)).toNat by omega]
    rw [e]
    exact hQ f
  | succ m ih =>
    intro i f y6 hm hi hf
    have pl := H.pl h (i := (i : Int)) (by omega) (by omega)
    have G' : GK (jwr u 35 f) := (S.wr (o := 35) (f := f) (by omega)).gk h
    have ai := G.2.2 p (u 42 (i : Int)) hp.1 (by rw [S.2.2.1]; exact hp.2) pl.1 (by rw [S.2.1]; exact pl.2)
    have fi := hf (u 32 (p * 49 + u 42 (i : Int)) + 1) (by omega) (by omega)
    have si := sm_gI (u := u) (p := p) (a := u 32 (p * 49 + u 42 (i : Int)) + 1) i
    rw [bK_mostByOneArm_14, if_pos (by omega), if_pos (by omega), if_pos (by omega), jwr_n (o := 35) (p := 42) (by omega), sK_armOf G' (by rw [jwr_n (by omega), S.2.2.1]; exact hp) (by rw [jwr_n (by omega), S.2.1]; exact pl), bK_mostByOneArm_36, jwr_n (o := 35) (p := 32) (by omega), n32s (x := u 32 (p * 49 + u 42 (i : Int)) + 1) (by omega) (by omega), if_pos (by omega), if_pos (by omega), if_pos (by omega), jwr_s, n32s (x := f (u 32 (p * 49 + u 42 (i : Int)) + 1) + 1) (by omega) (by omega), n32s (x := (i : Int) + 1) (by omega) (by omega), jwr_jup, jwr_s, up1_s, ← mxR_up (f := f) (x := u 32 (p * 49 + u 42 (i : Int)) + 1) (y := f (u 32 (p * 49 + u 42 (i : Int)) + 1) + 1) 10 (by omega) (by omega)]
    refine ih (i + 1) _ _ (by omega) (by omega) (fun a a0 a1 => ?_)
    rw [sm_s]
    by_cases z : a = u 32 (p * 49 + u 42 (i : Int)) + 1
    · rw [z, up1_s, fi]
      have : gI u p (u 32 (p * 49 + u 42 (i : Int)) + 1) (i : Int) = 1 := if_pos (by omega)
      rw [this]
    · rw [up1_n z, hf a a0 a1]
      have : gI u p a (i : Int) = 0 := if_neg (by omega)
      rw [this, Int.add_zero]
theorem sK_most (h : OKC w) (S : SV w u) (H : FtL w u s n) (hp : 0 ≤ p ∧ p < w 1 3) (hQ : ∀ f, Q (jI (WO w s n p)) (jwr u 35 f)) : AW mK_mostByOneArm 0 [jR 30, jI p, jR 42, jI (NF w s n (-1)), jX, jX, jX] [] u Q := by
  have gi := NF_in (w := w) (s := s) (n := n) (b := -1)
  rw [bK_mostByOneArm_0, sJ_fill_35, bK_mostByOneArm_8]
  have Z : ∀ a, 0 ≤ a → a < 10 → cf (u 35) 0 10 0 a = 0 := fun a b c => if_pos ⟨b, c⟩
  have e : mxR (cf (u 35) 0 10 0) 10 = 0 := (mxR_cg 10 (g := fun _ => 0) (fun i a b => Z i a (by omega))).trans rfl
  have R := sK_most14 (Q := Q) h S H hp hQ _ 0 (cf (u 35) 0 10 0) jX rfl (by omega) (fun a a0 a1 => Z a a0 a1)
  rw [e] at R
  exact R
theorem FtL.wr {o : Nat} {f : Int → Int} (H : FtL w u s n) (ho : o ≠ 42) : FtL w (jwr u o f) s n := fun k a b => by rw [jwr_n (fun t => ho t.symm)]; exact H k a b
theorem sX_next14 (h : OKC w) (hQ : ∀ u, SV w u → LK K u → Q (jI (mn (WO w s n) (w 1 3).toNat).1) u) (m : Nat) :
    ∀ (j : Nat) (u : jW) (y5 : jV), (w 1 3 - j).toNat = m → (j : Int) ≤ w 1 3 → SV w u → LK K u → FtL w u s n → AW mX_nextPost 14 [jR 0, jI (NF w s n (-1)), jI (mn (WO w s n) j).1, jI (mn (WO w s n) j).2, jI j, y5] [] u Q := by
  have h3 : 0 ≤ w 1 3 ∧ w 1 3 ≤ 8 := h.1.2.2.1
  induction m with
  | zero =>
    intro j u y5 hm hj S L H
    rw [bX_nextPost_14, S.1 1 (by omega), if_neg (by omega), show j = (w 1 3).toNat by omega]
    exact hQ u S L
  | succ m ih =>
    intro j u y5 hm hj S L H
    rw [bX_nextPost_14, S.1 1 (by omega), if_pos (by omega)]
    refine sK_most h S H ⟨by omega, by omega⟩ (fun f => ?_)
    have i := fun y5 => ih (j + 1) (jwr u 35 f) y5 (by omega) (by omega) (S.wr (by omega)) (LK.wr L (by omega)) (H.wr (by omega))
    have w0 := WO_0 (v := w) (s := s) (n := n) (p := (j : Int))
    have ne : WO w s n (j : Int) ≠ -1 := by omega
    rw [bX_nextPost_40, n32s (x := (j : Int) + 1) (by omega) (by omega)]
    by_cases z : (mn (WO w s n) j).1 = -1
    · rw [mn_y ne (Or.inl z)] at i
      rw [if_pos z]; exact i _
    · rw [if_neg z]
      by_cases z2 : WO w s n (j : Int) < (mn (WO w s n) j).2
      · rw [mn_y ne (Or.inr z2)] at i
        rw [if_pos z2]; exact i _
      · rw [mn_n ne (fun t => t.elim z z2)] at i
        rw [if_neg z2]; exact i _
theorem sM_wo19 {w0 : jW} (h0 : VM w0 v) (P : PrOk v s n) (hp : 0 ≤ p ∧ p < v 1 3) {x4 a : Int} (ha : -1 ≤ a ∧ a < 9) (hQ : ∀ u y6 y7, SMo w0 u → AW mM_worstOf 6 [jR 45, jI s, jI n, jI p, jI (jmax x4 (ctN v s n p a)), jI (a + 1), y6, y7] [] u Q) (m : Nat) :
    ∀ (j : Nat) (u : jW), 67 - j = m → j ≤ 67 → SMo w0 u → AW mM_worstOf 19 [jR 45, jI s, jI n, jI p, jI x4, jI a, jI (sm (ctI v s n p a) j), jI j] [] u Q := by
  induction m with
  | zero =>
    intro j u hm hj S
    rw [bM_worstOf_19, if_neg (by omega), n32s (x := a + 1) (by omega) (by omega), show j = 67 by omega]
    exact hQ u _ _ S
  | succ m ih =>
    intro j u hm hj S
    have h := h0.t S
    have j67 : c67 (j : Int) := ⟨by omega, by omega⟩
    have si := sm_ctI (v := v) (s := s) (n := n) (p := p) (a := a) j
    have i := fun u hS => ih (j + 1) u (by omega) (by omega) hS
    rw [sm_s] at i
    rw [bM_worstOf_19, if_pos (by omega)]
    refine h.fits P j67 (fun t u' S' => ?_) (fun t u' S' => ?_)
    · rw [bM_worstOf_35, if_neg (by omega), ((h0.t S).t S').armFor hp j67, bM_worstOf_45, n32s (x := (j : Int) + 1) (by omega) (by omega), n32s (x := sm (ctI v s n p a) j + 1) (by omega) (by omega)]
      have S2 := (S.t S').t (SMo.one (w := u') (c := (j : Int)))
      by_cases z : armO v p (j : Int) = a
      · have e : ctI v s n p a (j : Int) = 1 := if_pos ⟨ftI_y t, z⟩
        rw [e] at i
        rw [if_pos z]; exact i _ S2
      · have e : ctI v s n p a (j : Int) = 0 := if_neg (fun t => z t.2)
        rw [e, Int.add_zero] at i
        rw [if_neg z]; exact i _ S2
    · have e : ctI v s n p a (j : Int) = 0 := if_neg (fun z => by have := z.1; rw [ftI_n t] at this; omega)
      rw [e, Int.add_zero] at i
      rw [bM_worstOf_35, if_pos rfl, n32s (x := (j : Int) + 1) (by omega) (by omega)]
      exact i _ (S.t S')
theorem sM_wo6 {w0 : jW} (h0 : VM w0 v) (P : PrOk v s n) (hp : 0 ≤ p ∧ p < v 1 3) (hQ : ∀ u, SMo w0 u → Q (jI (WO v s n p)) u) (m : Nat) :
    ∀ (k : Nat) (u : jW) (y6 y7 : jV), 10 - k = m → k ≤ 10 → SMo w0 u → AW mM_worstOf 6 [jR 45, jI s, jI n, jI p, jI (mxR (fun k => ctN v s n p (k - 1)) k), jI ((k : Int) - 1), y6, y7] [] u Q := by
  induction m with
  | zero =>
    intro k u y6 y7 hm hk S
    rw [bM_worstOf_6, if_neg (by omega), show k = 10 by omega]
    exact hQ u S
  | succ m ih =>
    intro k u y6 y7 hm hk S
    rw [bM_worstOf_6, if_pos (by omega)]
    refine sM_wo19 h0 P hp (a := (k : Int) - 1) (by omega) (fun u' y6 y7 S' => ?_) _ 0 u rfl (by omega) S
    have i := ih (k + 1) u' y6 y7 (by omega) (by omega) S'
    rw [mxR_s, show ((k + 1 : Nat) : Int) - 1 = (k : Int) - 1 + 1 by omega] at i
    exact i
theorem VM.worstOf (h : VM w v) (P : PrOk v s n) (hp : 0 ≤ p ∧ p < v 1 3) (hQ : ∀ u, SMo w u → Q (jI (WO v s n p)) u) : AW mM_worstOf 0 [jR 45, jI s, jI n, jI p, jX, jX, jX, jX] [] w Q := by
  rw [bM_worstOf_0]
  have R := sM_wo6 (Q := Q) h P hp hQ _ 0 w jX jX rfl (by omega) SMo.r
  rw [show ((0 : Nat) : Int) - 1 = -1 by omega] at R
  exact R
theorem sM_ask21 {w0 : jW} (h0 : VM w0 v) (P : PrOk v s n) (hQ : ∀ u, SMo w0 u → Q (jI (mn (WO v s n) (v 1 3).toNat).1) u) (m : Nat) :
    ∀ (j : Nat) (u : jW) (y6 : jV), (v 1 3 - j).toNat = m → (j : Int) ≤ v 1 3 → SMo w0 u → AW mM_asked 21 [jR 45, jI s, jI n, jI (mn (WO v s n) j).1, jI (mn (WO v s n) j).2, jI j, y6] [] u Q := by
  induction m with
  | zero =>
    intro j u y6 hm hj S
    rw [bM_asked_21, (h0.t S).eq.2.2.1, if_neg (by omega), show j = (v 1 3).toNat by omega]
    exact hQ u S
  | succ m ih =>
    intro j u y6 hm hj S
    have h := h0.t S
    have kk := h.wk
    rw [bM_asked_21, h.eq.2.2.1, if_pos (by omega)]
    refine h.worstOf P ⟨by omega, by omega⟩ (fun u' S' => ?_)
    have i := fun y6 => ih (j + 1) u' y6 (by omega) (by omega) (S.t S')
    have w0 := WO_0 (v := v) (s := s) (n := n) (p := (j : Int))
    have ne : WO v s n (j : Int) ≠ -1 := by omega
    rw [bM_asked_38, n32s (x := (j : Int) + 1) (by omega) (by omega)]
    by_cases z : (mn (WO v s n) j).1 = -1
    · rw [mn_y ne (Or.inl z)] at i
      rw [if_pos z]; exact i _
    · rw [if_neg z]
      by_cases z2 : WO v s n (j : Int) < (mn (WO v s n) j).2
      · rw [mn_y ne (Or.inr z2)] at i
        rw [if_pos z2]; exact i _
      · rw [mn_n ne (fun t => t.elim z z2)] at i
        rw [if_neg z2]; exact i _
/-! the false pair -/
noncomputable def msF (w u : jW) (s n i k : Int) : Int := if msR w s n (u 31 k) n.toNat (-1) 0 = i then 1 else 0
theorem msF_in {i k : Int} : 0 ≤ msF w u s n i k ∧ msF w u s n i k ≤ 1 := by unfold msF; split <;> omega
theorem sm_msF {i : Int} (m : Nat) : 0 ≤ sm (msF w u s n i) m ∧ sm (msF w u s n i) m ≤ m := by
  have := sm_in (f := msF w u s n i) (lo := 0) (hi := 1) m (fun _ _ _ => msF_in)
  omega
theorem NF_ms (h : OKC w) (S : SV w u) (P : PrOk w s n) (h0 : NF w s n (-1) = 0) {i : Int} (hi : 0 ≤ i ∧ i < n) : sm (msF w u s n i) (rk w 67).toNat = NF w s n i := by
  have hw : 3 ≤ w 1 0 ∧ w 1 0 ≤ 7 := h.1.1
  have none : ∀ c, dryB (w 1 0) (w 2) c → ¬ Ft w s n (-1) c := by
    intro c hc t
    have a := sm_le1 (f := fun _ => 0) (g := ftI w s n (-1)) (x := c) 67 (fun i _ _ => ftI_in.1) ⟨hc.1.1, by have := cell67 hw.2 hc.1; omega⟩ (by rw [ftI_y ⟨hc, t⟩]; omega)
    have b : sm (fun _ => (0 : Int)) 67 = 0 := rfl
    have e : NF w s n (-1) = sm (ftI w s n (-1)) 67 := rfl
    omega
  refine Eq.symm (sm_rk (v := w) (fun c _ hc => ?_) (fun c _ hc => ftI_n (fun t => hc t.1)) 67)
  have sp := ms_all (v := w) (s := s) (c := c) (n := n) P.2.1.1
  have ne : msR w s n c n.toNat (-1) 0 ≠ -1 := fun t => none c hc (sp.1.mp t)
  unfold msF
  rw [S.2.2.2.1 c hc]
  by_cases z : msR w s n c n.toNat (-1) 0 = i
  · rw [if_pos z, ftI_y ⟨hc, (sp.2.1 i hi.1 hi.2 ne).mp z⟩]
  · rw [if_neg z, ftI_n (fun t => z ((sp.2.1 i hi.1 hi.2 ne).mpr t.2))]
theorem sX_fp17 (h : OKC w) (S : SV w u) (P : PrOk w s n) {y3 : jV} (hQ : ∀ f, (∀ i, 0 ≤ i → i < n → f i = sm (msF w u s n i) (rk w 67).toNat) → AW mX_falsePair 73 [jR 0, jI s, jI n, y3, jI 0, jI 1] [] (jwr u 43 f) Q) (m : Nat) :
    ∀ (k : Nat) (f : Int → Int) (y5 : jV), (rk w 67 - k).toNat = m → (k : Int) ≤ rk w 67 → (∀ i, 0 ≤ i → i < n → f i = sm (msF w u s n i) k) → AW mX_falsePair 17 [jR 0, jI s, jI n, y3, jI k, y5] [] (jwr u 43 f) Q := by
  have hw : 3 ≤ w 1 0 ∧ w 1 0 ≤ 7 := h.1.1
  have r67 := rk_67 (v := w) hw.2
  have hn := P.2.1
  induction m with
  | zero =>
    intro k f y5 hm hk hf
    rw [bX_falsePair_17, jwr_n (by omega), S.2.1, if_neg (by omega)]
    exact hQ f (fun i a b => by rw [hf i a b, show k = (rk w 67).toNat by omega])
  | succ m ih =>
    intro k f y5 hm hk hf
    obtain ⟨c, _, c2, c3⟩ := rk_sur (v := w) hw.2 67 k (by omega) (by
      have : rk w ((67 : Nat) : Int) = rk w 67 := rfl
      omega)
    have e31 : u 31 (k : Int) = c := by rw [← c3]; exact S.2.2.2.1 c c2
    have sp := ms_all (v := w) (s := s) (c := c) (n := n) P.2.1.1
    have M := fun Q => sX_missAt (Q := Q) h (S.wr (o := 43) (f := f) (by omega)) P c2
    rw [c3] at M
    have i := fun f y5 => ih (k + 1) f y5 (by omega) (by omega)
    have mF : ∀ i, msF w u s n i (k : Int) = if msR w s n c n.toNat (-1) 0 = i then 1 else 0 := fun i => by unfold msF; rw [e31]
    have same : (msR w s n c n.toNat (-1) 0 < 0 ∨ n ≤ msR w s n c n.toNat (-1) 0) → ∀ i, 0 ≤ i → i < n → f i = sm (msF w u s n i) (k + 1) := by
      intro hr i a b
      rw [sm_s, mF, if_neg (by omega), Int.add_zero]; exact hf i a b
    rw [bX_falsePair_17, jwr_n (by omega), S.2.1, if_pos (by omega), M, bX_falsePair_37, n32s (x := (k : Int) + 1) (by omega) (by omega)]
    by_cases z : msR w s n c n.toNat (-1) 0 < 0
    · rw [if_pos z]
      exact i f _ (same (Or.inl z))
    · rw [if_neg z]
      by_cases z2 : msR w s n c n.toNat (-1) 0 < n
      · have fm := hf (msR w s n c n.toNat (-1) 0) (by omega) z2
        have si := sm_msF (w := w) (u := u) (s := s) (n := n) (i := msR w s n c n.toNat (-1) 0) k
        rw [if_pos z2, if_pos (by omega), if_pos (by omega), jwr_s, jwr_jup, n32s (x := f (msR w s n c n.toNat (-1) 0) + 1) (by omega) (by omega)]
        refine i _ _ (fun i a b => ?_)
        rw [sm_s, mF]
        by_cases y : i = msR w s n c n.toNat (-1) 0
        · rw [y, up1_s, fm, if_pos rfl]
        · rw [up1_n y, if_neg (fun t => y t.symm), Int.add_zero]; exact hf i a b
      · rw [if_neg z2]
        exact i f _ (same (Or.inr (by omega)))
theorem sX_fp73 (hf : ∀ i, 0 ≤ i → i < n → u 43 i = NF w s n i) (hn : 1 ≤ n ∧ n ≤ 20) {y1 y3 : jV} (m : Nat) : ∀ j : Nat, (n - 1 - j).toNat = m → (j : Int) + 1 ≤ n → AW mX_falsePair 73 [jR 0, y1, jI n, y3, jI (lsR (fun i => - NF w s n i) j), jI ((j : Int) + 1)] [] u Q = Q (jI (lsR (fun i => - NF w s n i) (n - 1).toNat)) u := by
  induction m with
  | zero =>
    intro j hm hj
    rw [bX_falsePair_73, if_neg (by omega), show (n - 1).toNat = j by omega]
  | succ m ih =>
    intro j hm hj
    have i := lsR_in (f := fun i => - NF w s n i) j
    have ih' := ih (j + 1) (by omega) (by omega)
    have a := hf ((j : Int) + 1) (by omega) (by omega)
    have b := hf (lsR (fun i => - NF w s n i) j) i.1 (by omega)
    rw [bX_falsePair_73, if_pos (by omega), if_pos (by omega), if_pos (by omega), a, b, n32s (x := (j : Int) + 1 + 1) (by omega) (by omega)]
    by_cases c : - NF w s n ((j : Int) + 1) < - NF w s n (lsR (fun i => - NF w s n i) j)
    · rw [if_pos (by omega)]; rw [lsR_y c] at ih'; exact ih'
    · rw [if_neg (by omega)]; rw [lsR_n c] at ih'; exact ih'
theorem sM_liar20 {w0 : jW} (h0 : VM w0 v) (P : PrOk v s n) (hn : 1 ≤ n) (hQ : ∀ u, SMo w0 u → Q (jI (lsR (fun i => - NF v s n i) (n - 1).toNat)) u) (m : Nat) :
    ∀ (j : Nat) (u : jW) (y6 : jV), (n - 1 - j).toNat = m → (j : Int) + 1 ≤ n → SMo w0 u → AW mM_liar 20 [jR 45, jI s, jI n, jI (lsR (fun i => - NF v s n i) j), jI (NF v s n (lsR (fun i => - NF v s n i) j)), jI ((j : Int) + 1), y6] [] u Q := by
  have n20 := P.2.1
  induction m with
  | zero =>
    intro j u y6 hm hj S
    rw [bM_liar_20, if_neg (by omega), show (j : Nat) = (n - 1).toNat by omega]
    exact hQ u S
  | succ m ih =>
    intro j u y6 hm hj S
    rw [bM_liar_20, if_pos (by omega)]
    refine (h0.t S).fitting P (fun u' S' => ?_)
    have i := fun y6 => ih (j + 1) u' y6 (by omega) (by omega) (S.t S')
    rw [bM_liar_34, n32s (x := (j : Int) + 1 + 1) (by omega) (by omega)]
    by_cases c : - NF v s n ((j : Int) + 1) < - NF v s n (lsR (fun i => - NF v s n i) j)
    · rw [if_pos (by omega)]; rw [lsR_y c] at i; exact i _
    · rw [if_neg (by omega)]; rw [lsR_n c] at i; exact i _
theorem NF_home (h : OKC w) (hn : n = 0) : 0 < NF w s n (-1) := by
  have hw : 3 ≤ w 1 0 ∧ w 1 0 ≤ 7 := h.1.1
  have hh : dryB (w 1 0) (w 2) (w 1 1) := h.1.2.1
  have a := sm_le1 (f := fun _ => 0) (g := ftI w s n (-1)) (x := w 1 1) 67 (fun i _ _ => ftI_in.1) ⟨hh.1.1, by have := cell67 hw.2 hh.1; omega⟩ (by rw [ftI_y ⟨hh, fun i i0 i1 => by omega⟩]; omega)
  have b : sm (fun _ => (0 : Int)) 67 = 0 := rfl
  have e : NF w s n (-1) = sm (ftI w s n (-1)) 67 := rfl
  omega
theorem p_of (h : INV K w) : Both mX_of mM_of [jR 0, jI s, jI n, jI x, jX, jX] [jR 45, jI s, jI n, jI x, jX] K w := by
  unfold Both
  have kk := h.wk
  have so := h.sh
  have F := h.ref (a := -2) (by omega) (by omega)
  have r0 := rk_in (v := w) (c := 67) (by omega)
  have gi := NF_in (w := w) (s := s) (n := n) (b := -1)
  rw [bX_of_0, sX_isWithin, bX_of_10]
  by_cases ok : (0 ≤ s ∧ s < 8) ∧ (0 ≤ n ∧ n ≤ 20) ∧ jb (0 ≤ x ∧ x ≤ 1) ≠ 0
  · have hx : 0 ≤ x ∧ x ≤ 1 := by
      by_cases z : 0 ≤ x ∧ x ≤ 1
      · exact z
      · exact absurd (jb_neg z) ok.2.2
    have N : ∀ u, VM u w → ∀ Q, AW mM_of 0 [jR 45, jI s, jI n, jI x, jX] [] u Q = AW mM_of 39 [jR 45, jI s, jI n, jI x, jX] [jI (prR w s n)] u Q := by
      intro u hu Q
      rw [bM_of_0, sM_isShelf, bM_of_4, jb_ite, if_pos ok.1, sM_within, bM_of_14, jb_ite, if_pos ok.2.1, sM_within, bM_of_23, jb_ite, if_pos hx, hu.noPairs ok.1 ok.2.1]
    rw [sX_wnp h.1 ok, bX_of_13]
    by_cases z : prR w s n = 0
    · have P := prR_0 so ok.1 ok.2.1 z
      rw [if_pos z]
      refine sX_ff h.1 h.2.2 P (fun u S L H => ?_)
      have V := h.vm S.1
      rw [bX_of_33]
      by_cases x0 : x = 0
      · have M : ∀ u, VM u w → ∀ Q, (∀ u2, SMo u u2 → Q (jI (if NF w s n (-1) < 2 then -1 else (mn (WO w s n) (w 1 3).toNat).1)) u2) → AW mM_of 0 [jR 45, jI s, jI n, jI x, jX] [] u Q := by
          intro u hu Q hQ
          rw [N u hu, bM_of_39, if_neg (by omega), if_pos x0, bM_asked_0]
          refine hu.fitting P (fun u1 S1 => ?_)
          rw [bM_asked_7]
          by_cases y : NF w s n (-1) < 2
          · have q := hQ u1 S1
            rw [if_pos y] at q
            rw [if_pos y, bM_of_63, bM_of_72]; exact q
          · rw [if_neg y]
            refine sM_ask21 (hu.t S1) P (fun u2 S2 => ?_) _ 0 u1 jX rfl (by omega) SMo.r
            have q := hQ u2 (S1.t S2)
            rw [if_neg y] at q
            rw [bM_of_63, bM_of_72]; exact q
        rw [if_pos x0, bX_nextPost_0]
        by_cases y : NF w s n (-1) < 2
        · rw [if_pos y, bX_of_45, bX_of_56]
          refine M u V _ (fun u2 S2 => ?_)
          rw [if_pos y]
          exact h.q S.1 (L.to (by omega)) S2 rfl
        · rw [if_neg y]
          refine sX_next14 h.1 (fun u S L => ?_) _ 0 u jX rfl (by omega) S L H
          rw [bX_of_45, bX_of_56]
          refine M u (h.vm S.1) _ (fun u2 S2 => ?_)
          rw [if_neg y]
          exact h.q S.1 (L.to (by omega)) S2 rfl
      · have M : ∀ u, VM u w → ∀ Q, (∀ u2, SMo u u2 → Q (jI (if 0 < NF w s n (-1) then -1 else lsR (fun i => - NF w s n i) (n - 1).toNat)) u2) → AW mM_of 0 [jR 45, jI s, jI n, jI x, jX] [] u Q := by
          intro u hu Q hQ
          rw [N u hu, bM_of_39, if_neg (by omega), if_neg x0, bM_liar_0]
          refine hu.fitting P (fun u1 S1 => ?_)
          rw [bM_liar_7]
          by_cases y : 0 < NF w s n (-1)
          · have q := hQ u1 S1
            rw [if_pos y] at q
            rw [if_pos y, bM_of_72]; exact q
          · have n1 : 1 ≤ n := by
              by_cases t : n = 0
              · exact absurd (NF_home h.1 t) y
              · omega
            have g0 := NF_in (w := w) (s := s) (n := n) (b := 0)
            rw [if_neg y, bM_liar_20, if_pos (by omega)]
            refine (hu.t S1).fitting P (fun u2 S2 => ?_)
            rw [bM_liar_34, if_pos (by omega), n32s (x := 0 + 1) (by omega) (by omega)]
            have R := sM_liar20 (Q := fun r w' => AW mM_of 72 [jR 45, jI s, jI n, jI x, jI (prR w s n)] [r] w' Q) ((hu.t S1).t S2) P n1 (fun u3 S3 => by
              have q := hQ u3 ((S1.t S2).t S3)
              rw [if_neg y] at q
              rw [bM_of_72]; exact q) _ 0 u2 (jI (NF w s n 0)) rfl (by omega) SMo.r
            exact R
        rw [if_neg x0, bX_falsePair_0]
        by_cases y : 0 < NF w s n (-1)
        · rw [if_pos y, bX_of_56]
          refine M u V _ (fun u2 S2 => ?_)
          rw [if_pos y]
          exact h.q S.1 (L.to (by omega)) S2 rfl
        · have n1 : 1 ≤ n := by
            by_cases t : n = 0
            · exact absurd (NF_home h.1 t) y
            · omega
          rw [if_neg y, sJ_fill_43, bX_falsePair_14]
          refine sX_fp17 h.1 S P (fun f hf => ?_) _ 0 _ _ rfl (by omega) (fun i a b => if_pos ⟨a, by omega⟩)
          have W := fun Q => sX_fp73 (w := w) (u := jwr u 43 f) (s := s) (n := n) (Q := Q) (fun i a b => by rw [jwr_s, hf i a b]; exact NF_ms h.1 S P (by omega) ⟨a, b⟩) ⟨n1, by omega⟩ (y1 := jI s) (y3 := jI (NF w s n (-1))) _ 0 rfl (by omega)
          refine (W _).mpr ?_
          rw [bX_of_56]
          have S' := S.wr (o := 43) (f := f) (by omega)
          refine M _ (h.vm S'.1) _ (fun u2 S2 => ?_)
          rw [if_neg y]
          exact h.q S'.1 ((LK.wr L (by omega)).to (by omega)) S2 rfl
    · have i := (prR_in (v := w) (n := n) ok.1).resolve_left z
      rw [if_neg z, sX_refuse (by omega) (by omega), bX_of_26, N _ (h.vR _), bM_of_39, if_pos (by omega), sM_no (by omega) (by omega), bM_of_52]
      exact h.ref (by omega) (by omega)
  · rw [sX_wnpB ok, bX_of_13, if_neg (by omega), sX_refuse2, bX_of_26, bM_of_0, sM_isShelf, bM_of_4, jb_ite]
    by_cases c1 : 0 ≤ s ∧ s < 8
    · rw [if_pos c1, sM_within, bM_of_14, jb_ite]
      by_cases c2 : 0 ≤ n ∧ n ≤ 20
      · have hx : ¬ (0 ≤ x ∧ x ≤ 1) := fun t => ok ⟨c1, c2, by rw [jb_pos t]; omega⟩
        rw [if_pos c2, sM_within, bM_of_23, jb_ite, if_neg hx, sM_no2, bM_of_32]
        exact F
      · rw [if_neg c2, sM_no2, bM_of_32]
        exact F
    · rw [if_neg c1, sM_no2, bM_of_32]
      exact F
end RB
