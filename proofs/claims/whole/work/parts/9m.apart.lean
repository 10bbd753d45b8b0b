/-! sizes -/
def eqI (g : Int → Int) (l k : Int) : Int := if g k = l then 1 else 0
theorem eqI_in {g : Int → Int} {l k : Int} : 0 ≤ eqI g l k ∧ eqI g l k ≤ 1 := by unfold eqI; split <;> omega
theorem sm_eqI {g : Int → Int} {l : Int} (m : Nat) : 0 ≤ sm (eqI g l) m ∧ sm (eqI g l) m ≤ m := by
  have := sm_in (f := eqI g l) (lo := 0) (hi := 1) m (fun _ _ _ => eqI_in)
  omega
def szI (v : jW) (g : Int → Int) (l c : Int) : Int := if dryB (v 1 0) (v 2) c ∧ g c = l then 1 else 0
theorem szI_in {v : jW} {g : Int → Int} {l c : Int} : 0 ≤ szI v g l c ∧ szI v g l c ≤ 1 := by unfold szI; split <;> omega
def mxR (f : Int → Int) : Nat → Int
  | 0 => 0
  | m + 1 => jmax (mxR f m) (f (m : Int))
theorem mxR_s {f : Int → Int} {m : Nat} : mxR f (m + 1) = jmax (mxR f m) (f (m : Int)) := rfl
theorem mxR_0 {f : Int → Int} (m : Nat) : 0 ≤ mxR f m := by
  induction m with
  | zero => exact Int.le_refl _
  | succ m ih => rw [mxR_s]; unfold jmax; split <;> omega
theorem mxR_cg {f g : Int → Int} (m : Nat) (h : ∀ i, 0 ≤ i → i < (m : Int) → f i = g i) : mxR f m = mxR g m := by
  induction m with
  | zero => rfl
  | succ m ih => rw [mxR_s, mxR_s, ih (fun i a b => h i a (by omega)), h m (by omega) (by omega)]
theorem mxR_z {f : Int → Int} (k m : Nat) (h : ∀ i, (m : Int) ≤ i → i < (m : Int) + (k : Int) → f i = 0) : mxR f (m + k) = mxR f m := by
  induction k with
  | zero => rfl
  | succ k ih =>
    rw [show m + (k + 1) = m + k + 1 by omega, mxR_s, ih (fun i a b => h i a (by omega)), h ((m + k : Nat) : Int) (by omega) (by omega)]
    have := mxR_0 (f := f) m
    unfold jmax
    split <;> omega
def BlP (v : jW) (c : Int) : Prop := ∀ p, 0 ≤ p → p < v 1 3 → armO v p c = -1
noncomputable def blI (v : jW) (c : Int) : Int := @ite _ (dryB (v 1 0) (v 2) c ∧ BlP v c) (Classical.propDecidable _) 1 0
def BkP (u : jW) (k : Int) : Prop := ∀ p, 0 ≤ p → p < u 30 2 → u 32 (p * 49 + k) = -1
noncomputable def bkI (u : jW) (k : Int) : Int := @ite _ (BkP u k) (Classical.propDecidable _) 1 0
section AA
variable {w v u : jW} {Q : jV → jW → Prop} {K s c d x : Int}
theorem blI_y (h : dryB (v 1 0) (v 2) c ∧ BlP v c) : blI v c = 1 := by unfold blI; exact if_pos h
theorem blI_n (h : ¬ (dryB (v 1 0) (v 2) c ∧ BlP v c)) : blI v c = 0 := by unfold blI; exact if_neg h
theorem blI_in : 0 ≤ blI v c ∧ blI v c ≤ 1 := by
  by_cases h : dryB (v 1 0) (v 2) c ∧ BlP v c
  · rw [blI_y h]; omega
  · rw [blI_n h]; omega
theorem bkI_y (h : BkP u c) : bkI u c = 1 := by unfold bkI; exact if_pos h
theorem bkI_n (h : ¬ BkP u c) : bkI u c = 0 := by unfold bkI; exact if_neg h
theorem bkI_in : 0 ≤ bkI u c ∧ bkI u c ≤ 1 := by
  by_cases h : BkP u c
  · rw [bkI_y h]; omega
  · rw [bkI_n h]; omega
theorem LK.wr {o : Nat} {f : Int → Int} (h : LK K u) (ho : o ≠ 30 ∧ o ≠ 37) : LK K (jwr u o f) := by
  unfold LK at h ⊢
  rw [jwr_n (fun t => ho.1 t.symm), jwr_n (fun t => ho.2 t.symm)]
  exact h
theorem sK_sizes10 (hN : 0 ≤ u 30 0 ∧ u 30 0 ≤ 49) (hg : ∀ k, 0 ≤ k → k < u 30 0 → 0 ≤ u 33 k ∧ u 33 k < 49) (hQ : ∀ f, (∀ l, 0 ≤ l → l < 49 → f l = sm (eqI (u 33) l) (u 30 0).toNat) → Q (jI 0) (jwr u 34 f)) (m : Nat) :
    ∀ (k : Nat) (f : Int → Int), (u 30 0 - k).toNat = m → (k : Int) ≤ u 30 0 → (∀ l, 0 ≤ l → l < 49 → f l = sm (eqI (u 33) l) k) → AW mK_countSizes 10 [jR 30, jI k] [] (jwr u 34 f) Q := by
  induction m with
  | zero =>
    intro k f hm hk hf
    rw [bK_countSizes_10, jwr_n (by omega), if_neg (by omega)]
    exact hQ f (fun l a b => by rw [hf l a b, show k = (u 30 0).toNat by omega])
  | succ m ih =>
    intro k f hm hk hf
    have gk := hg k (by omega) (by omega)
    have fk := hf (u 33 (k : Int)) gk.1 gk.2
    have si := sm_eqI (g := u 33) (l := u 33 (k : Int)) k
    rw [bK_countSizes_10, jwr_n (by omega), if_pos (by omega), if_pos (by omega), jwr_n (by omega), if_pos gk, if_pos gk, jwr_s, jwr_jup, n32s (x := (k : Int) + 1) (by omega) (by omega), n32s (x := f (u 33 (k : Int)) + 1) (by omega) (by omega)]
    refine ih (k + 1) _ (by omega) (by omega) (fun l a b => ?_)
    rw [sm_s]
    by_cases z : l = u 33 (k : Int)
    · rw [z, up1_s, fk, show eqI (u 33) (u 33 (k : Int)) (k : Int) = 1 from if_pos rfl]
    · rw [up1_n z, hf l a b, show eqI (u 33) l (k : Int) = 0 from if_neg (fun t => z t.symm), Int.add_zero]
theorem sK_sizes (hN : 0 ≤ u 30 0 ∧ u 30 0 ≤ 49) (hg : ∀ k, 0 ≤ k → k < u 30 0 → 0 ≤ u 33 k ∧ u 33 k < 49) (hQ : ∀ f, (∀ l, 0 ≤ l → l < 49 → f l = sm (eqI (u 33) l) (u 30 0).toNat) → Q (jI 0) (jwr u 34 f)) : AW mK_countSizes 0 [jR 30, jX] [] u Q := by
  rw [bK_countSizes_0, sJ_fill_34, bK_countSizes_8]
  exact sK_sizes10 hN hg hQ _ 0 _ rfl (by omega) (fun l a b => if_pos ⟨a, b⟩)
theorem sK_great8 (hN : 0 ≤ u 30 0 ∧ u 30 0 ≤ 49) (m : Nat) : ∀ (k : Nat), (u 30 0 - k).toNat = m → (k : Int) ≤ u 30 0 → AW mK_greatestGroup 8 [jR 30, jI (mxR (u 34) k), jI k] [] u Q = Q (jI (mxR (u 34) (u 30 0).toNat)) u := by
  induction m with
  | zero =>
    intro k hm hk
    rw [bK_greatestGroup_8, if_neg (by omega), show k = (u 30 0).toNat by omega]
  | succ m ih =>
    intro k hm hk
    rw [bK_greatestGroup_8, if_pos (by omega), if_pos (by omega), n32s (x := (k : Int) + 1) (by omega) (by omega), ← mxR_s]
    exact ih (k + 1) (by omega) (by omega)
theorem sK_size6 (S : SV w u) (h : OKC w) (hx : dryB (w 1 0) (w 2) x) (hg : 0 ≤ u 33 (rk w x) ∧ u 33 (rk w x) < 49) (m : Nat) : ∀ (k : Int), (rk w x - k).toNat = m → 0 ≤ k → k ≤ rk w x → AW mK_groupSizeOf 6 [jR 30, jI x, jI k] [] u Q = Q (jI (u 34 (u 33 (rk w x)))) u := by
  have hw : 3 ≤ w 1 0 ∧ w 1 0 ≤ 7 := h.1.1
  have r := rk_49 hw.2 hx
  obtain ⟨S1, S2, S3, S4, S5⟩ := S
  induction m with
  | zero =>
    intro k hm k0 hk
    have e : k = rk w x := by omega
    rw [bK_groupSizeOf_6, S2, if_pos (by omega), if_pos (by omega), e, S4 x hx, if_pos rfl, if_pos (by omega), if_pos hg]
  | succ m ih =>
    intro k hm k0 hk
    obtain ⟨c, _, c2, c3⟩ := rk_sur (v := w) hw.2 67 k k0 (by
      have : rk w ((67 : Nat) : Int) = rk w 67 := rfl
      omega)
    have ne : u 31 k ≠ x := by
      rw [← c3, S4 c c2]
      intro t
      rw [t] at c3; omega
    rw [bK_groupSizeOf_6, S2, if_pos (by omega), if_pos (by omega), if_neg ne, n32s (x := k + 1) (by omega) (by omega)]
    exact ih (k + 1) (by omega) (by omega) (by omega)
theorem sK_isBlind2 (h : GK u) {k : Int} (hk : 0 ≤ k ∧ k < u 30 0) (h1 : BkP u k → Q (jI 1) u) (h0 : ¬ BkP u k → Q (jI 0) u) (m : Nat) : ∀ (p : Int), (u 30 2 - p).toNat = m → 0 ≤ p → p ≤ u 30 2 → (∀ q, 0 ≤ q → q < p → u 32 (q * 49 + k) = -1) → AW mK_isBlind 2 [jR 30, jI k, jI p] [] u Q := by
  have h2 := h.2.1
  induction m with
  | zero =>
    intro p hm p0 hp A
    rw [bK_isBlind_2, if_neg (by omega)]
    exact h1 (fun q a b => A q a (by omega))
  | succ m ih =>
    intro p hm p0 hp A
    rw [bK_isBlind_2, if_pos (by omega), sK_armOf h ⟨p0, by omega⟩ hk, bK_isBlind_16, n32s (x := p + 1) (by omega) (by omega)]
    by_cases z : u 32 (p * 49 + k) = -1
    · rw [if_pos z]
      refine ih (p + 1) (by omega) (by omega) (by omega) (fun q a b => ?_)
      by_cases y : q = p
      · rw [y]; exact z
      · exact A q a (by omega)
    · rw [if_neg z]
      exact h0 (fun t => z (t p p0 (by omega)))
theorem sK_blind4 (h : GK u) (hQ : Q (jI (sm (bkI u) (u 30 0).toNat)) u) (m : Nat) : ∀ (k : Nat), (u 30 0 - k).toNat = m → (k : Int) ≤ u 30 0 → AW mK_blindCells 4 [jR 30, jI (sm (bkI u) k), jI k] [] u Q := by
  have h1 := h.1
  induction m with
  | zero =>
    intro k hm hk
    rw [bK_blindCells_4, if_neg (by omega), show k = (u 30 0).toNat by omega]
    exact hQ
  | succ m ih =>
    intro k hm hk
    have si := sm_in (f := bkI u) (lo := 0) (hi := 1) k (fun _ _ _ => bkI_in)
    have i := ih (k + 1) (by omega) (by omega)
    rw [sm_s] at i
    rw [bK_blindCells_4, if_pos (by omega), bK_isBlind_0]
    refine sK_isBlind2 h ⟨by omega, by omega⟩ (fun t => ?_) (fun t => ?_) _ 0 rfl (by omega) h.2.1.1 (fun q a b => by omega)
    · rw [bkI_y t] at i
      rw [bK_blindCells_18, if_neg (by omega), n32s (x := sm (bkI u) k + 1) (by omega) (by omega), n32s (x := (k : Int) + 1) (by omega) (by omega)]
      exact i
    · rw [bkI_n t] at i
      rw [bK_blindCells_18, if_pos rfl, n32s (x := sm (bkI u) k + 0) (by omega) (by omega), n32s (x := (k : Int) + 1) (by omega) (by omega)]
      exact i
theorem SV.blind (S : SV w u) : sm (blI w) 67 = sm (bkI u) (u 30 0).toNat := by
  obtain ⟨S1, S2, S3, S4, S5⟩ := S
  rw [S2]
  refine sm_rk (v := w) (fun c _ hc => ?_) (fun c _ hc => blI_n (fun t => hc t.1)) 67
  have e : BlP w c ↔ BkP u (rk w c) := by
    unfold BlP BkP
    rw [S3]
    exact ⟨fun t p a b => by rw [S5 p c a b hc]; exact t p a b, fun t p a b => by rw [← S5 p c a b hc]; exact t p a b⟩
  by_cases z : BlP w c
  · rw [blI_y ⟨hc, z⟩, bkI_y (e.mp z)]
  · rw [blI_n (fun t => z t.2), bkI_n (fun t => z (e.mpr t))]
theorem SV.sz {g : Int → Int} {l : Int} (hg : ∀ c, dryB (w 1 0) (w 2) c → g c = u 33 (rk w c)) (S : SV w u) : sm (szI w g l) 67 = sm (eqI (u 33) l) (u 30 0).toNat := by
  rw [S.2.1]
  refine sm_rk (v := w) (fun c _ hc => ?_) (fun c _ hc => if_neg (fun t => hc t.1)) 67
  show (if dryB (w 1 0) (w 2) c ∧ g c = l then (1 : Int) else 0) = if u 33 (rk w c) = l then 1 else 0
  rw [hg c hc]
  by_cases z : u 33 (rk w c) = l
  · rw [if_pos ⟨hc, z⟩, if_pos z]
  · rw [if_neg (fun t => z t.2), if_neg z]
/-- the reference's size of a group -/
theorem sM_size4 (h : VM w v) {l : Int} (m : Nat) : ∀ (j : Nat), 67 - j = m → j ≤ 67 → AW mM_sizeOf 4 [jR 45, jI l, jI (sm (szI v (w 61) l) j), jI j] [] w Q = Q (jI (sm (szI v (w 61) l) 67)) w := by
  induction m with
  | zero =>
    intro j hm hj
    rw [bM_sizeOf_4, if_neg (by omega), show j = 67 by omega]
  | succ m ih =>
    intro j hm hj
    have si := sm_in (f := szI v (w 61) l) (lo := 0) (hi := 1) j (fun _ _ _ => szI_in)
    have i := ih (j + 1) (by omega) (by omega)
    rw [sm_s] at i
    rw [bM_sizeOf_4, if_pos (by omega), h.isDry (by unfold in32; omega), bM_sizeOf_15, jb_ite, n32s (x := (j : Int) + 1) (by omega) (by omega), n32s (x := sm (szI v (w 61) l) j + 1) (by omega) (by omega)]
    by_cases c : dryB (v 1 0) (v 2) (j : Int)
    · rw [if_pos c, if_pos (by omega)]
      by_cases z : w 61 (j : Int) = l
      · rw [if_pos z]; rw [show szI v (w 61) l (j : Int) = 1 from if_pos ⟨c, z⟩] at i; exact i
      · rw [if_neg z]; rw [show szI v (w 61) l (j : Int) = 0 from if_neg (fun t => z t.2), Int.add_zero] at i; exact i
    · rw [if_neg c]; rw [show szI v (w 61) l (j : Int) = 0 from if_neg (fun t => c t.1), Int.add_zero] at i; exact i
theorem VM.sizeOf (h : VM w v) {l : Int} : AW mM_sizeOf 0 [jR 45, jI l, jX, jX] [] w Q = Q (jI (sm (szI v (w 61) l) 67)) w := by
  rw [bM_sizeOf_0]
  exact sM_size4 h _ 0 rfl (by omega)
theorem sM_apart40 (h : VM w v) {n : Int} (hn : 0 ≤ n ∧ n ≤ 67) (m : Nat) : ∀ (k : Nat), (n - k).toNat = m → (k : Int) ≤ n → AW mM_apart 40 [jR 45, jI x, jI n, jI (mxR (fun l => sm (szI v (w 61) l) 67) k), jI k] [] w Q = (if x = 0 then Q (jI n) w else Q (jI (mxR (fun l => sm (szI v (w 61) l) 67) n.toNat)) w) := by
  induction m with
  | zero =>
    intro k hm hk
    rw [bM_apart_40, if_neg (by omega), show k = n.toNat by omega]
  | succ m ih =>
    intro k hm hk
    rw [bM_apart_40, if_pos (by omega), h.sizeOf, bM_apart_53, n32s (x := (k : Int) + 1) (by omega) (by omega)]
    exact ih (k + 1) (by omega) (by omega)
theorem sM_blind19 {w0 : jW} (h0 : VM w0 v) {x1 : Int} (hc : c67 c) (h1 : BlP v c → ∀ u y4, SMo w0 u → AW mM_blind 55 [jR 45, jI x1, jI c, jI 1, y4] [] u Q) (h2 : ¬ BlP v c → ∀ u y4, SMo w0 u → AW mM_blind 55 [jR 45, jI x1, jI c, jI 0, y4] [] u Q) (m : Nat) :
    ∀ (p : Int) (u : jW), (v 1 3 - p).toNat = m → 0 ≤ p → p ≤ v 1 3 → SMo w0 u → (∀ q, 0 ≤ q → q < p → armO v q c = -1) → AW mM_blind 19 [jR 45, jI x1, jI c, jI 1, jI p] [] u Q := by
  induction m with
  | zero =>
    intro p u hm p0 hp S A
    have h := h0.t S
    rw [bM_blind_19, h.eq.2.2.1, if_neg (by omega)]
    exact h1 (fun q a b => A q a (by omega)) u _ S
  | succ m ih =>
    intro p u hm p0 hp S A
    have h := h0.t S
    have kk := h.wk
    rw [bM_blind_19, h.eq.2.2.1, if_pos (by omega), if_neg (by omega), h.armFor ⟨p0, by omega⟩ hc, bM_blind_39, n32s (x := p + 1) (by omega) (by omega)]
    have S' := S.t (SMo.one (w := u) (c := c))
    by_cases z : armO v p c = -1
    · rw [if_pos z]
      refine ih (p + 1) _ (by omega) (by omega) (by omega) S' (fun q a b => ?_)
      by_cases y : q = p
      · rw [y]; exact z
      · exact A q a (by omega)
    · have nB : ¬ BlP v c := fun t => z (t p p0 (by omega))
      rw [if_neg z, bM_blind_19]
      have X := h2 nB _ (jI (p + 1)) S'
      by_cases y : p + 1 < jup (jup u 45 24 1) 59 0 c 45 3
      · rw [if_pos y, if_pos rfl]; exact X
      · rw [if_neg y]; exact X
theorem sM_blind19w {w0 : jW} {x1 p : Int} (hc : c67 c) (hQ : ∀ y4, AW mM_blind 55 [jR 45, jI x1, jI c, jI 0, y4] [] w0 Q) : AW mM_blind 19 [jR 45, jI x1, jI c, jI 0, jI p] [] w0 Q := by
  rw [bM_blind_19]
  by_cases y : p < w0 45 3
  · rw [if_pos y, if_pos rfl]; exact hQ _
  · rw [if_neg y]; exact hQ _
theorem sM_blind4 {w0 : jW} (h0 : VM w0 v) (hQ : ∀ u, SMo w0 u → Q (jI (sm (blI v) 67)) u) (m : Nat) : ∀ (j : Nat) (u : jW) (y3 y4 : jV), 67 - j = m → j ≤ 67 → SMo w0 u → AW mM_blind 4 [jR 45, jI (sm (blI v) j), jI j, y3, y4] [] u Q := by
  induction m with
  | zero =>
    intro j u y3 y4 hm hj S
    rw [bM_blind_4, if_neg (by omega), show j = 67 by omega]
    exact hQ u S
  | succ m ih =>
    intro j u y3 y4 hm hj S
    have h := h0.t S
    have kk := h.wk
    have si := sm_in (f := blI v) (lo := 0) (hi := 1) j (fun _ _ _ => blI_in)
    have i := fun u y3 y4 hS => ih (j + 1) u y3 y4 (by omega) (by omega) hS
    rw [sm_s] at i
    have j67 : c67 (j : Int) := ⟨by omega, by omega⟩
    have N0 : blI v (j : Int) = 0 → ∀ u y4, SMo w0 u → AW mM_blind 55 [jR 45, jI (sm (blI v) j), jI j, jI 0, y4] [] u Q := by
      intro z u y4 hS
      rw [bM_blind_55, if_pos rfl, n32s (x := (j : Int) + 1) (by omega) (by omega)]
      have i' := i u (jI 0) y4 hS
      rw [z, Int.add_zero] at i'
      exact i'
    rw [bM_blind_4, if_pos (by omega), h.isDry (by unfold in32; omega), bM_blind_15]
    by_cases c : dryB (v 1 0) (v 2) (j : Int)
    · rw [jb_pos c]
      refine sM_blind19 h0 j67 (fun t u y4 hS => ?_) (fun t u y4 hS => N0 (blI_n (fun z => t z.2)) u y4 hS) _ 0 u rfl (by omega) kk.2.1.1 S (fun q a b => by omega)
      rw [bM_blind_55, if_neg (by omega), n32s (x := (j : Int) + 1) (by omega) (by omega), n32s (x := sm (blI v) j + 1) (by omega) (by omega)]
      have i' := i u (jI 1) y4 hS
      rw [blI_y ⟨c, t⟩] at i'
      exact i'
    · rw [jb_neg c]
      exact sM_blind19w j67 (fun y4 => N0 (blI_n (fun z => c z.1)) u y4 S)
theorem p_apart (h : INV K w) (hK : K ≤ 1000000000) : Both mX_apart mM_apart [jR 0, jI x, jX] [jR 45, jI x, jX, jX, jX] K w := by
  unfold Both
  have kk := h.wk
  have F := h.ref (a := -2) (by omega) (by omega)
  have r67 := rk_67 (v := w) kk.2.2.2
  have r0 := rk_in (v := w) (c := 67) (by omega)
  rw [bX_apart_0, sX_isWithin, bX_apart_7, jb_ite]
  by_cases c : 0 ≤ x ∧ x ≤ 2
  · rw [if_pos c]
    refine sK_survey h.1 h.2.2 (fun u S L => ?_)
    rw [bX_apart_32, bX_allPosts_0, bX_apart_40, S.1 1 (by omega)]
    refine S.groupBy (s := allP (w 1 3)) h.1 L (by omega) (fun u S L H Hn HN => ?_)
    have V := h.vm S.1
    have gi := NG_in (v := w) (s := allP (w 1 3))
    have R : ∀ (u1 : jW), SX u u1 → VM u1 w → x ≠ 2 → ∀ Q, (∀ u2, SMo u1 u2 → (∀ c, dryB (w 1 0) (w 2) c → u2 61 c = u 33 (rk w c)) → (if x = 0 then Q (jI (NG w (allP (w 1 3)))) u2 else Q (jI (mxR (fun l => sm (szI w (u2 61) l) 67) (NG w (allP (w 1 3))).toNat)) u2)) → AW mM_apart 0 [jR 45, jI x, jX, jX, jX] [] u1 Q := by
      intro u1 hx1 V1 hne Q hQ
      rw [bM_apart_0, sM_within, bM_apart_6, jb_ite, if_pos c, if_neg hne, bM_allPosts_0, bM_apart_31, V1.eq.2.2.1]
      refine V1.groups (s := allP (w 1 3)) (fun u2 S2 H2 => ?_)
      rw [bM_apart_34]
      have Z := sM_apart40 (Q := Q) (x := x) (V1.t S2) gi _ 0 rfl (by omega)
      refine Z.mpr (hQ u2 S2 (fun c hc => ?_))
      exact LbP.eq H2 H 67 c (cell67 kk.2.2.2 hc.1) ⟨hc.1.1, cell67 kk.2.2.2 hc.1⟩ hc
    rw [bX_apart_43]
    by_cases x0 : x = 0
    · rw [if_pos x0]
      refine R u SX.r V (by omega) _ (fun u2 S2 _ => ?_)
      rw [if_pos x0]
      exact h.q S.1 (L.to (by omega)) S2 rfl
    · rw [if_neg x0]
      by_cases x1 : x = 1
      · rw [if_pos x1, bK_greatestGroup_0]
        refine sK_sizes (by rw [S.2.1]; omega) (fun k a b => by rw [S.2.1] at b; have := Hn k a b; omega) (fun f hf => ?_)
        have hs : SX u (jwr u 34 f) := SX.w (by omega)
        have e30 : jwr u 34 f 30 = u 30 := jwr_n (by omega)
        rw [bK_greatestGroup_4]
        have Z := fun Q => sK_great8 (Q := Q) (u := jwr u 34 f) (by rw [e30, S.2.1]; omega) _ 0 rfl (by rw [e30, S.2.1]; omega)
        refine (Z _).mpr ?_
        rw [bX_apart_81]
        refine R (jwr u 34 f) hs (h.vm (S.1.t hs)) (by omega) _ (fun u2 S2 H2 => ?_)
        rw [if_neg x0]
        refine h.q (S.1.t hs) ((LK.wr L (by omega)).to (by omega)) S2 ?_
        rw [jwr_s, e30, S.2.1]
        congr 1
        have a1 : mxR f (rk w 67).toNat = mxR (fun l => sm (szI w (u2 61) l) 67) (rk w 67).toNat := by
          refine mxR_cg _ (fun i q1 q2 => ?_)
          rw [hf i q1 (by omega)]
          exact (S.sz H2).symm
        have a2 := mxR_z (f := fun l => sm (szI w (u2 61) l) 67) ((rk w 67).toNat - (NG w (allP (w 1 3))).toNat) (NG w (allP (w 1 3))).toNat (fun i q1 q2 => by
          show sm (szI w (u2 61) i) 67 = 0
          have : sm (szI w (u2 61) i) 67 = sm (fun _ => 0) 67 := sm_cg 67 (fun j p1 p2 => by
            refine if_neg (fun t => ?_)
            have r := rk_49 kk.2.2.2 t.1
            have := Hn (rk w j) r.1 r.2.1
            rw [← H2 j t.1, t.2] at this
            omega)
          rw [this]; rfl)
        rw [show (NG w (allP (w 1 3))).toNat + ((rk w 67).toNat - (NG w (allP (w 1 3))).toNat) = (rk w 67).toNat by omega] at a2
        rw [a1, a2]
      · have x2 : x = 2 := by omega
        rw [if_neg x1, bK_blindCells_0]
        refine sK_blind4 (S.gk h.1) ?_ _ 0 rfl (by rw [S.2.1]; omega)
        rw [bX_apart_89, bM_apart_0, sM_within, bM_apart_6, jb_ite, if_pos c, if_pos x2, bM_blind_0]
        refine sM_blind4 V (fun u2 S2 => ?_) _ 0 u _ _ rfl (by omega) SMo.r
        rw [bM_apart_25]
        exact h.q S.1 (L.to (by omega)) S2 (by rw [S.blind])
  · rw [if_neg c, sX_refuse2, bX_apart_16, bM_apart_0, sM_within, bM_apart_6, jb_ite, if_neg c, sM_no2, bM_apart_15]
    exact F
theorem p_alike (h : INV K w) (hK : K ≤ 1000000000) (hx : in32 x) : Both mX_alike mM_alike [jR 0, jI x] [jR 45, jI x] K w := by
  unfold Both
  have kk := h.wk
  have F := h.ref (a := -2) (by omega) (by omega)
  have r67 := rk_67 (v := w) kk.2.2.2
  have r0 := rk_in (v := w) (c := 67) (by omega)
  rw [bX_alike_0, sL_isDry kk.2.2.2, bX_alike_9, jb_ite]
  by_cases c : dryB (w 1 0) (w 2) x
  · have r := rk_49 kk.2.2.2 c
    have x67 : c67 x := ⟨c.1.1, cell67 kk.2.2.2 c.1⟩
    have x67' := x67
    unfold c67 at x67'
    rw [if_pos c]
    refine sK_survey h.1 h.2.2 (fun u S L => ?_)
    rw [bX_alike_34, bX_allPosts_0, bX_alike_42, S.1 1 (by omega)]
    refine S.groupBy (s := allP (w 1 3)) h.1 L (by omega) (fun u S L H Hn HN => ?_)
    rw [bX_alike_45, bK_groupSizeOf_0]
    refine sK_sizes (by rw [S.2.1]; omega) (fun k a b => by rw [S.2.1] at b; have := Hn k a b; omega) (fun f hf => ?_)
    have hs : SX u (jwr u 34 f) := SX.w (by omega)
    have e33 : jwr u 34 f 33 = u 33 := jwr_n (by omega)
    have S' : SV w (jwr u 34 f) := ⟨S.1.t hs, by rw [jwr_n (by omega)]; exact S.2.1, by rw [jwr_n (by omega)]; exact S.2.2.1, fun c hc => by rw [jwr_n (by omega)]; exact S.2.2.2.1 c hc, fun p c a b e => by rw [jwr_n (by omega)]; exact S.2.2.2.2 p c a b e⟩
    have V := h.vm S'.1
    have gx := Hn (rk w x) r.1 r.2.1
    have Z := fun Q => sK_size6 (Q := Q) S' h.1 c (by rw [e33]; omega) _ 0 rfl (by omega) r.1
    rw [bK_groupSizeOf_4]
    refine (Z _).mpr ?_
    rw [bX_alike_54, jwr_s, e33, bM_alike_0, V.isDry hx, bM_alike_5, jb_ite, if_pos c, bM_allPosts_0, bM_alike_20, V.eq.2.2.1]
    refine V.groups (s := allP (w 1 3)) (fun u2 S2 H2 => ?_)
    have E : ∀ c, dryB (w 1 0) (w 2) c → u2 61 c = u 33 (rk w c) := fun c hc => LbP.eq H2 H 67 c (cell67 kk.2.2.2 hc.1) ⟨hc.1.1, cell67 kk.2.2.2 hc.1⟩ hc
    rw [bM_alike_23, if_pos x67', (V.t S2).sizeOf, bM_alike_34]
    refine h.q S'.1 ((LK.wr L (by omega)).to (by omega)) S2 ?_
    rw [hf _ gx.1 (by omega), E x c, S.sz E]
  · rw [if_neg c, sX_refuse2, bX_alike_18, bM_alike_0, (h.vR (-2)).isDry hx, bM_alike_5, jb_ite, if_neg c, sM_no2, bM_alike_14]
    exact F
end AA
