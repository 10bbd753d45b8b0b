/-! the command that leads nearer -/
def ldR (g : Int → Int) : Nat → Int → Int
  | 0, _ => -1
  | m + 1, k => if g k = 1 then k else ldR g m (k + 1)
theorem ldR_y {g : Int → Int} {m : Nat} {k : Int} (h : g k = 1) : ldR g (m + 1) k = k := if_pos h
theorem ldR_n {g : Int → Int} {m : Nat} {k : Int} (h : ¬ g k = 1) : ldR g (m + 1) k = ldR g m (k + 1) := if_neg h
theorem ldR_in {g : Int → Int} (m : Nat) : ∀ k, 0 ≤ k → ldR g m k = -1 ∨ (k ≤ ldR g m k ∧ ldR g m k < k + m ∧ g (ldR g m k) = 1) := by
  induction m with
  | zero => intro k _; exact Or.inl rfl
  | succ m ih =>
    intro k hk
    by_cases c : g k = 1
    · rw [ldR_y c]; exact Or.inr ⟨by omega, by omega, c⟩
    · rw [ldR_n c]
      rcases ih (k + 1) (by omega) with h | h
      · exact Or.inl h
      · exact Or.inr ⟨by omega, by omega, h.2.2⟩
theorem ldR_cg {f g : Int → Int} (m : Nat) : ∀ k : Int, (∀ i, k ≤ i → i < k + m → (f i = 1 ↔ g i = 1)) → ldR f m k = ldR g m k := by
  induction m with
  | zero => intro k _; rfl
  | succ m ih =>
    intro k h
    have a := h k (by omega) (by omega)
    have b := ih (k + 1) (fun i q1 q2 => h i (by omega) (by omega))
    by_cases c : f k = 1
    · rw [ldR_y c, ldR_y (a.mp c)]
    · rw [ldR_n c, ldR_n (fun t => c (a.mpr t)), b]
noncomputable def cnI (v : jW) (t a k : Int) : Int := if dryB (v 1 0) (v 2) (a + jcmd k) ∧ disW v t (a + jcmd k) ≠ -1 ∧ disW v t (a + jcmd k) < disW v t a then 1 else 0
noncomputable def cnM (v : jW) (t a k : Int) : Int := if disW v a t ≠ -1 ∧ dryB (v 1 0) (v 2) (a + jcmd k) ∧ disW v (a + jcmd k) t = disW v a t - 1 then 1 else 0
section MF
variable {w v : jW} {Q : jV → jW → Prop} {K x y a t : Int}
theorem disW_in (hn : v 1 0 ≤ 7) (ha : cellB (v 1 0) a) (ht : c67 t) : -1 ≤ disW v a t ∧ disW v a t ≤ 66 := (disW_ds hn ha).1 t ht
theorem cnM_cnI {k : Int} (hn : v 1 0 ≤ 7) (ha : dryB (v 1 0) (v 2) a) (ht : dryB (v 1 0) (v 2) t) (hne : a ≠ t) (hk : 1 ≤ k ∧ k ≤ 4) : cnM v t a k = 1 ↔ cnI v t a k = 1 := by
  have e1 := disW_sym hn ha ht
  have a67 : c67 a := ⟨ha.1.1, cell67 hn ha.1⟩
  have d := disW_ds hn ht.1
  have i1 := d.1 a a67
  have z1 := d.2.2.1 a a67
  unfold cnM cnI
  by_cases c : dryB (v 1 0) (v 2) (a + jcmd k)
  · have e2 := disW_sym hn c ht
    have x67 : c67 (a + jcmd k) := ⟨c.1.1, cell67 hn c.1⟩
    have i2 := d.1 _ x67
    have ad : adj a (a + jcmd k) := ⟨k, hk.1, hk.2, rfl⟩
    have s1 := d.2.2.2.2 (a + jcmd k) a x67
    have s1' := fun h => s1 h ad.sym ha
    rw [e1, e2]
    constructor
    · intro h
      split at h
      · rename_i q
        have z2 : disW v t a ≠ 0 := fun z => hne (z1 z)
        exact if_pos ⟨c, by omega, by omega⟩
      · omega
    · intro h
      split at h
      · rename_i q
        have := s1' (by omega)
        rw [if_pos ⟨by omega, c, by omega⟩]
      · omega
  · rw [if_neg (fun h => c h.2.1), if_neg (fun h => c h.1)]
theorem sP_near (hn : w 1 0 ≤ 7) (ha : c67 a) (f39 : ∀ c, c67 c → w 39 c = disW w t c) (m : Nat) : ∀ k y4, (5 - k).toNat = m → 1 ≤ k → k ≤ 5 →
    AW mP_commandNearer 2 [jR 38, jR 1, jI a, jI k, y4] [] w Q = Q (jI (ldR (cnI w t a) m k)) w := by
  have ha' := ha
  unfold c67 at ha'
  induction m with
  | zero =>
    intro k y4 hm h1 h5
    rw [bP_commandNearer_2, if_pos (by omega)]
    rfl
  | succ m ih =>
    intro k y4 hm h1 h5
    have jc := jcmd_in (k := k)
    have ih' := fun y4 => ih (k + 1) y4 (by omega) (by omega) (by omega)
    rw [bP_commandNearer_2, if_neg (by omega), if_pos (by omega), n32s (x := a + jcmd k) (by omega) (by omega), sL_isDry hn, bP_commandNearer_23, jb_ite, n32s (x := k + 1) (by omega) (by omega)]
    by_cases c : dryB (w 1 0) (w 2) (a + jcmd k)
    · have x67 : c67 (a + jcmd k) := ⟨c.1.1, cell67 hn c.1⟩
      have x67' := x67
      unfold c67 at x67'
      rw [if_pos c, sP_stepsTo, if_pos x67', bP_commandNearer_33, f39 _ x67, n32s (x := k + 1) (by omega) (by omega)]
      by_cases c2 : disW w t (a + jcmd k) = -1
      · rw [if_pos c2, ih', ldR_n (fun h => by
          unfold cnI at h
          rw [if_neg (fun z => z.2.1 c2)] at h; omega)]
      · rw [if_neg c2, sP_stepsTo, if_pos x67', bP_commandNearer_44, sP_stepsTo, if_pos ha', bP_commandNearer_50, f39 _ x67, f39 _ ha, n32s (x := k + 1) (by omega) (by omega)]
        by_cases c3 : disW w t (a + jcmd k) < disW w t a
        · rw [if_pos c3, ldR_y (by unfold cnI; rw [if_pos ⟨c, c2, c3⟩])]
        · rw [if_neg c3, ih', ldR_n (fun h => by
            unfold cnI at h
            rw [if_neg (fun z => c3 z.2.2)] at h; omega)]
    · rw [if_neg c, ih', ldR_n (fun h => by
        unfold cnI at h
        rw [if_neg (fun z => c z.1)] at h; omega)]
theorem sM_ct17 (ha : dryB (v 1 0) (v 2) a) (ht : c67 t) (m : Nat) : ∀ (k : Int) (w : jW), VM w v → (5 - k).toNat = m → 1 ≤ k → k ≤ 5 → (∀ u, SMo w u → Q (jI (ldR (cnM v t a) m k)) u) →
    AW mM_commandTo 17 [jR 45, jI a, jI t, jI (disW v a t), jI k] [] w Q := by
  induction m with
  | zero =>
    intro k w h hm h1 h5 hQ
    rw [bM_commandTo_17, if_neg (by omega)]
    exact hQ w SMo.r
  | succ m ih =>
    intro k w h hm h1 h5 hQ
    have kk := h.wk
    have i1 := disW_in kk.2.2.2 ha.1 ht
    rw [bM_commandTo_17, if_pos (by omega), n32s (x := k + 1) (by omega) (by omega)]
    have skip : ∀ u, SMo w u → ¬ cnM v t a k = 1 → AW mM_commandTo 17 [jR 45, jI a, jI t, jI (disW v a t), jI (k + 1)] [] u Q := by
      intro u hu hn
      refine ih (k + 1) u (h.t hu) (by omega) (by omega) (by omega) (fun u' h' => ?_)
      have := hQ u' (hu.t h')
      rw [ldR_n hn] at this; exact this
    by_cases c0 : disW v a t = -1
    · rw [if_pos c0]
      exact skip w SMo.r (fun h => by
        unfold cnM at h
        rw [if_neg (fun z => z.1 c0)] at h; omega)
    · rw [if_neg c0, h.can ha.1 ⟨by omega, by omega⟩, bM_commandTo_35, jb_ite, n32s (x := k + 1) (by omega) (by omega)]
      by_cases c : canB v a k
      · have D : dryB (v 1 0) (v 2) (a + jcmd k) := c.elim (fun t => absurd t (by omega)) id
        rw [if_pos c, h.bes ha.1 D.1 ⟨by omega, by omega⟩, bM_commandTo_46]
        refine h.pathOf D.1 ht (fun g => ?_)
        rw [bM_commandTo_50, n32s (x := k + 1) (by omega) (by omega), n32s (x := disW v a t - 1) (by omega) (by omega)]
        by_cases c2 : disW v (a + jcmd k) t = disW v a t - 1
        · rw [if_pos c2]
          have := hQ _ (SMo.w (w := w) (o := 60) (f := g) (by omega))
          rw [ldR_y (by unfold cnM; rw [if_pos ⟨c0, D, c2⟩])] at this
          exact this
        · rw [if_neg c2]
          exact skip _ (SMo.w (by omega)) (fun h => by
            unfold cnM at h
            rw [if_neg (fun z => c2 z.2.2)] at h; omega)
      · rw [if_neg c]
        exact skip w SMo.r (fun h => by
          unfold cnM at h
          rw [if_neg (fun z => c (Or.inr z.2.1))] at h; omega)
theorem VM.commandTo (h : VM w v) (ha : dryB (v 1 0) (v 2) a) (ht : dryB (v 1 0) (v 2) t) (hne : a ≠ t) (hQ : ∀ u, SMo w u → Q (jI (ldR (cnI v t a) 4 1)) u) :
    AW mM_commandTo 0 [jR 45, jI a, jI t, jX, jX] [] w Q := by
  have hn := h.wk.2.2.2
  have t67 : c67 t := ⟨ht.1.1, cell67 hn ht.1⟩
  rw [bM_commandTo_0, if_neg hne]
  refine h.pathOf ha.1 t67 (fun g => ?_)
  rw [bM_commandTo_13]
  refine sM_ct17 ha t67 4 1 _ (h.t (SMo.w (by omega))) rfl (by omega) (by omega) (fun u hu => ?_)
  have := hQ u (SMo.t (SMo.w (by omega)) hu)
  rw [← ldR_cg (f := cnM v t a) 4 1 (fun i q1 q2 => cnM_cnI hn ha ht hne ⟨q1, by omega⟩)] at this
  exact this
theorem disW_wet (hn : v 1 0 ≤ 7) (ha : cellB (v 1 0) a) (ht : c67 t) (hw : ¬ dryB (v 1 0) (v 2) t) (hne : a ≠ t) : disW v a t = -1 := by
  have d := disW_ds hn ha
  have i := d.1 t ht
  by_cases z : 0 < disW v a t
  · exact absurd (d.2.2.2.1 t ht z).1 hw
  · by_cases z2 : disW v a t = 0
    · exact absurd (d.2.2.1 t ht z2).symm hne
    · omega
theorem VM.commandNo (h : VM w v) (ha : dryB (v 1 0) (v 2) a) (ht : c67 t) (hw : ¬ dryB (v 1 0) (v 2) t) (hne : a ≠ t) (hQ : ∀ u, SMo w u → Q (jI (-1)) u) :
    AW mM_commandTo 0 [jR 45, jI a, jI t, jX, jX] [] w Q := by
  have hn := h.wk.2.2.2
  have e := disW_wet hn ha.1 ht hw hne
  rw [bM_commandTo_0, if_neg hne]
  refine h.pathOf ha.1 ht (fun g => ?_)
  rw [bM_commandTo_13]
  refine sM_ct17 ha ht 4 1 _ (h.t (SMo.w (by omega))) rfl (by omega) (by omega) (fun u hu => ?_)
  have r : ldR (cnM v t a) 4 1 = ldR (fun _ => 0) 4 1 := ldR_cg 4 1 (fun i _ _ => by
    unfold cnM
    rw [if_neg (fun z => z.1 e)])
  rw [r]
  exact hQ u (SMo.t (SMo.w (by omega)) hu)
theorem disW_cg {v v' : jW} (h0 : v 1 0 = v' 1 0) (h2 : v 2 = v' 2) : disW v = disW v' := by
  funext s
  unfold disW
  rw [h0, h2]
theorem cnI_cg {v v' : jW} (h0 : v 1 0 = v' 1 0) (h2 : v 2 = v' 2) : cnI v = cnI v' := by
  funext t a k
  unfold cnI
  rw [disW_cg h0 h2, h0, h2]
theorem p_leads (h : INV K w) (hy : in32 y) : Both mX_leads mM_leads [jR 0, jI x, jI y, jX] [jR 45, jI x, jI y] K w := by
  unfold Both
  unfold in32 at hy
  have k := h.wk
  have F := h.ref (a := -2) (by omega) (by omega)
  have R := h.vR (-2)
  rw [bX_leads_0, sL_hasWalker, bX_leads_8, jb_ite]
  by_cases c : 0 ≤ x ∧ x < w 1 4
  · have V := h.vm (SX.r (w := w))
    have kt := V.kt c
    rw [if_pos c, sL_isCell k.2.2.2, bX_leads_20, jb_ite]
    by_cases d : cellB (w 1 0) y
    · have M : ∀ u, VM u w → ∀ Q, AW mM_leads 0 [jR 45, jI x, jI y] [] u Q = AW mM_commandTo 0 [jR 45, jI (w 6 x), jI y, jX, jX] [] u (fun r w' => AW mM_leads 35 [jR 45, jI x, jI y] [r] w' Q) := by
        intro u hu Q
        rw [bM_leads_0, hu.isWalker, bM_leads_5, jb_ite, if_pos c, hu.isCell (by unfold in64; omega), bM_leads_14, jb_ite, if_pos d, if_pos (by omega), (hu.kt c).1.1]
      have d6 : c67 y := ⟨d.1, cell67 k.2.2.2 d⟩
      rw [if_pos d, if_pos (by omega)]
      by_cases e : w 6 x = y
      · rw [if_pos e, M w V, bM_commandTo_0, if_pos e, bM_leads_35]
        exact h.q SX.r (h.2.2.le (by omega)) SMo.r rfl
      · rw [if_neg e, sL_isDry k.2.2.2, bX_leads_56, jb_ite]
        by_cases g : dryB (w 1 0) (w 2) y
        · rw [if_pos g]
          refine h.1.measure d (fun f q hf => ?_)
          have V := h.vm (SX.PW (w := w) (f := f) (q := q))
          have c1 : PW w f q 1 = w 1 := PW_n (by omega)
          have c2 : PW w f q 2 = w 2 := PW_n (by omega)
          rw [bX_leads_73, bP_commandNearer_0, sP_near (t := y) (by rw [c1]; exact k.2.2.2) kt.2.2.2 (fun c hc => by rw [PW_39, hf c hc, disW_cg (by rw [c1]) c2]) 4 1 _ rfl (by omega) (by omega), bX_leads_85, M _ V, cnI_cg (v := PW w f q) (by rw [c1]) c2]
          refine V.commandTo kt.2.1 g e (fun u hu => ?_)
          rw [bM_leads_35]
          exact h.q SX.PW h.2.2.PW hu rfl
        · rw [if_neg g, M w V]
          refine V.commandNo kt.2.1 d6 g e (fun u hu => ?_)
          rw [bM_leads_35]
          exact h.q SX.r (h.2.2.le (by omega)) hu rfl
    · rw [if_neg d, sX_refuse2, bX_leads_29, bM_leads_0, R.isWalker, bM_leads_5, jb_ite, if_pos c, R.isCell (by unfold in64; omega), bM_leads_14, jb_ite, if_neg d, sM_no2, bM_leads_23]
      exact F
  · rw [if_neg c, sX_refuse2, bX_leads_29, bM_leads_0, R.isWalker, bM_leads_5, jb_ite, if_neg c, sM_no2, bM_leads_23]
    exact F
end MF
