/-! groups of cells, class and reference -/
def Eal (v : jW) (s : Int) (c d : Int) : Prop := ∀ p, 0 ≤ p → p < v 1 3 → bitB s p → armO v p c = armO v p d
noncomputable def NG (v : jW) (s : Int) : Int := sm (fI (dryB (v 1 0) (v 2)) (Eal v s)) 67
def armM (w : jW) (p c : Int) : Int := armR (w 47 p) (w 48 p) (w 49 p) 1 (fun _ => c)
def GM (w : jW) : Prop := (3 ≤ w 45 0 ∧ w 45 0 ≤ 7) ∧ (0 ≤ w 45 3 ∧ w 45 3 ≤ 9) ∧ ∀ p, 0 ≤ p → p < w 45 3 → c67 (w 49 p)
def EalM (w : jW) (s : Int) (c d : Int) : Prop := ∀ p, 0 ≤ p → p < w 45 3 → bitB s p → armM w p c = armM w p d
def S59 (w u : jW) : Prop := (∀ o, o ≠ 45 → o ≠ 59 → u o = w o) ∧ ∀ f, f ≠ 24 → u 45 f = w 45 f
def S61 (w u : jW) : Prop := (∀ o, o ≠ 45 → o ≠ 59 → o ≠ 61 → u o = w o) ∧ ∀ f, f ≠ 24 → u 45 f = w 45 f
section KB
variable {w u v : jW} {Q : jV → jW → Prop} {g ng mk : Int → Int} {K l s c d : Int}
theorem SV.gk (h : OKC w) (S : SV w u) : GK u := by
  have hw : 3 ≤ w 1 0 ∧ w 1 0 ≤ 7 := h.1.1
  have h3 : 0 ≤ w 1 3 ∧ w 1 3 ≤ 8 := h.1.2.2.1
  have r := rk_67 (v := w) hw.2
  have r0 := rk_in (v := w) (c := 67) (by omega)
  obtain ⟨S1, S2, S3, S4, S5⟩ := S
  unfold GK
  rw [S2, S3]
  refine ⟨by omega, by omega, fun p k p0 p1 k0 k1 => ?_⟩
  obtain ⟨c, _, c2, c3⟩ := rk_sur (v := w) hw.2 67 k k0 k1
  rw [← c3, S5 p c p0 p1 c2]
  exact armO_in
theorem SV.kw (S : SV w u) : SV w (KW u l g ng mk) := by
  obtain ⟨S1, S2, S3, S4, S5⟩ := S
  refine ⟨S1.t SX.KW, by rw [KW_f (by omega)]; exact S2, by rw [KW_f (by omega)]; exact S3, fun c hc => by rw [KW_n (by omega)]; exact S4 c hc, fun p c a b e => by rw [KW_n (by omega)]; exact S5 p c a b e⟩
theorem SV.esp (S : SV w u) (hc : dryB (w 1 0) (w 2) c) (hd : dryB (w 1 0) (w 2) d) : Eal w s c d ↔ Esp u s (u 30 2) (rk w c) (rk w d) := by
  obtain ⟨S1, S2, S3, S4, S5⟩ := S
  unfold Eal Esp
  rw [S3]
  constructor
  · intro h q q1 q2 q3
    rw [S5 q c q1 q2 hc, S5 q d q1 q2 hd]; exact h q q1 q2 q3
  · intro h q q1 q2 q3
    have := h q q1 q2 q3
    rw [S5 q c q1 q2 hc, S5 q d q1 q2 hd] at this; exact this
theorem SV.groupBy (h : OKC w) (S : SV w u) (L : LK K u) (hK : K ≤ 1900000000)
    (hQ : ∀ u', SV w u' → LK (K + 8) u' → LbP (dryB (w 1 0) (w 2)) (Eal w s) (fun c => u' 33 (rk w c)) 67 → (∀ k, 0 ≤ k → k < rk w 67 → 0 ≤ u' 33 k ∧ u' 33 k < NG w s) → NG w s ≤ rk w 67 → Q (jI (NG w s)) u') :
    AW mK_groupBy 0 [jR 30, jI s, jX, jX] [] u Q := by
  have hw : 3 ≤ w 1 0 ∧ w 1 0 ≤ 7 := h.1.1
  refine sK_groupBy (S.gk h) L hK (fun l g ng mk L' H => ?_)
  have e0 : u 30 0 = rk w 67 := S.2.1
  have r0 := rk_in (v := w) (c := 67) (by omega)
  rw [e0] at H ⊢
  have C := LbP.cells hw.2 (E := Eal w s) H (fun c d hc hd => S.esp hc hd)
  have si := sm_fI (D := inN (rk w 67)) (E := Esp u s (u 30 2)) (rk w 67).toNat
  have eN : NG w s = sm (fI (inN (rk w 67)) (Esp u s (u 30 2))) (rk w 67).toNat := C.2
  rw [← eN]
  refine hQ _ S.kw L' ?_ (fun k k0 k1 => ?_) (by omega)
  · have e33 : (fun c => KW u l g ng mk 33 (rk w c)) = fun c => g (rk w c) := by rw [KW_33]
    rw [e33]; exact C.1
  · rw [KW_33, eN]
    exact H.2.2 k ⟨k0, k1⟩ ⟨k0, k1⟩
theorem S59.r : S59 w w := ⟨fun _ _ _ => rfl, fun _ _ => rfl⟩
theorem S59.t {a b c : jW} (h : S59 a b) (h' : S59 b c) : S59 a c := ⟨fun o p q => (h'.1 o p q).trans (h.1 o p q), fun f p => (h'.2 f p).trans (h.2 f p)⟩
theorem S59.one : S59 w (jup (jup w 45 24 1) 59 0 c) := ⟨fun o p q => by rw [jupn q, jupn p], fun f p => by rw [jupn (by omega), jups, up1_n p]⟩
theorem S61.r : S61 w w := ⟨fun _ _ _ _ => rfl, fun _ _ => rfl⟩
theorem S61.t {a b c : jW} (h : S61 a b) (h' : S61 b c) : S61 a c := ⟨fun o p q r => (h'.1 o p q r).trans (h.1 o p q r), fun f p => (h'.2 f p).trans (h.2 f p)⟩
theorem S59.s61 (h : S59 w u) : S61 w u := ⟨fun o p q _ => h.1 o p q, h.2⟩
theorem S61.j {x y : Int} : S61 w (jup w 61 x y) := ⟨fun o p q r => jupn r, fun f p => by rw [jupn (by omega)]⟩
theorem S61.smo (h : S61 w u) : SMo w u := ⟨fun o q => h.1 o (by omega) (by omega) (by omega), h.2⟩
theorem S61.gm (h : S61 w u) (hG : GM w) : GM u := by
  unfold GM at hG ⊢
  rw [h.2 0 (by omega), h.2 3 (by omega), h.1 49 (by omega) (by omega) (by omega)]
  exact hG
theorem S61.ea (h : S61 w u) : EalM u s = EalM w s := by
  funext c d
  unfold EalM armM
  rw [h.2 3 (by omega), h.1 47 (by omega) (by omega) (by omega), h.1 48 (by omega) (by omega) (by omega), h.1 49 (by omega) (by omega) (by omega)]
theorem eqv_al : Eqv (EalM w s) := ⟨fun _ _ _ _ _ => rfl, fun _ _ h p a b e => (h p a b e).symm, fun _ _ _ h h' p a b e => (h p a b e).trans (h' p a b e)⟩
theorem sM_alike3 (h : GM w) (hc : c67 c) (hd : c67 d) (h1 : EalM w s c d → ∀ u, S59 w u → Q (jI 1) u) (h0 : ¬ EalM w s c d → ∀ u, S59 w u → Q (jI 0) u) (m : Nat) :
    ∀ (p : Int) (u : jW), (w 45 3 - p).toNat = m → 0 ≤ p → p ≤ w 45 3 → S59 w u → (∀ q, 0 ≤ q → q < p → bitB s q → armM w q c = armM w q d) →
    AW mM_isAlike 3 [jR 45, jI s, jI c, jI d, jI p] [] u Q := by
  have h3 := h.2.1
  induction m with
  | zero =>
    intro p u hm p0 p1 S A
    rw [bM_isAlike_3, S.2 3 (by omega), if_neg (by omega)]
    exact h1 (fun q a b e => A q a (by omega) e) u S
  | succ m ih =>
    intro p u hm p0 p1 S A
    have c9 := h.2.2 p p0 (by omega)
    have e47 := S.1 47 (by omega) (by omega)
    have e48 := S.1 48 (by omega) (by omega)
    have e49 := S.1 49 (by omega) (by omega)
    have S1 := S.t (S59.one (c := c))
    have S2 := S1.t (S59.one (c := d))
    rw [bM_isAlike_3, S.2 3 (by omega), if_pos (by omega), n32s (x := p + 1) (by omega) (by omega)]
    by_cases b : bitB s p
    · rw [if_pos b, sM_armFor ⟨p0, by omega⟩ hc (by rw [e49]; exact c9), bM_isAlike_29, sM_armFor ⟨p0, by omega⟩ hd (by rw [S1.1 49 (by omega) (by omega)]; exact c9), bM_isAlike_36, S1.1 47 (by omega) (by omega), S1.1 48 (by omega) (by omega), S1.1 49 (by omega) (by omega), e47, e48, e49, n32s (x := p + 1) (by omega) (by omega)]
      by_cases z : armM w p c = armM w p d
      · have z' := z
        unfold armM at z'
        rw [if_pos z']
        refine ih (p + 1) _ (by omega) (by omega) (by omega) S2 (fun q a b2 e => ?_)
        by_cases y : q = p
        · rw [y]; exact z
        · exact A q a (by omega) e
      · have z' := z
        unfold armM at z'
        rw [if_neg z']
        exact h0 (fun t => z (t p p0 (by omega) b)) _ S2
    · rw [if_neg b]
      refine ih (p + 1) u (by omega) (by omega) (by omega) S (fun q a b2 e => ?_)
      by_cases y : q = p
      · rw [y] at e; exact absurd e b
      · exact A q a (by omega) e
theorem sM_isAlike (h : GM w) (hc : c67 c) (hd : c67 d) (h1 : EalM w s c d → ∀ u, S59 w u → Q (jI 1) u) (h0 : ¬ EalM w s c d → ∀ u, S59 w u → Q (jI 0) u) : AW mM_isAlike 0 [jR 45, jI s, jI c, jI d, jX] [] w Q := by
  rw [bM_isAlike_0]
  exact sM_alike3 h hc hd h1 h0 _ 0 w rfl (by omega) h.2.1.1 S59.r (fun q a b => by omega)
abbrev dryM (w : jW) : Int → Prop := dryB (w 45 0) (w 46)
theorem sM_g24 (h : GM w) (hc : dryM w c) (hc67 : c67 c) {x2 : Int}
    (hF : Fst (dryM w) (EalM w s) c → ∀ u, S59 w u → AW mM_groups 56 [jR 45, jI s, jI x2, jI c, jI c] [] u Q)
    (hJ : ∀ d, (0 ≤ d ∧ d < c) → dryM w d → EalM w s c d → ∀ u, S59 w u → AW mM_groups 56 [jR 45, jI s, jI x2, jI c, jI d] [] u Q) (m : Nat) :
    ∀ (d : Int) (u : jW), (c - d).toNat = m → 0 ≤ d → d ≤ c → S59 w u → (∀ e, 0 ≤ e → e < d → dryM w e → ¬ EalM w s c e) →
    AW mM_groups 24 [jR 45, jI s, jI x2, jI c, jI d] [] u Q := by
  have hc' := hc67
  unfold c67 at hc'
  induction m with
  | zero =>
    intro d u hm d0 d1 S A
    have e : d = c := by omega
    rw [e] at A ⊢
    rw [bM_groups_24, if_neg (by omega)]
    exact hF ⟨hc, A⟩ u S
  | succ m ih =>
    intro d u hm d0 d1 S A
    have G := S.s61.gm h
    have e45 := S.2 0 (by omega)
    have e46 := S.1 46 (by omega) (by omega)
    have next : ∀ u, S59 w u → (dryM w d → ¬ EalM w s c d) → AW mM_groups 24 [jR 45, jI s, jI x2, jI c, jI (d + 1)] [] u Q := by
      intro u S hn
      refine ih (d + 1) u (by omega) (by omega) (by omega) S (fun e a b q => ?_)
      by_cases z : e = d
      · rw [z] at q ⊢; exact hn q
      · exact A e a (by omega) q
    rw [bM_groups_24, if_pos (by omega), sM_isDry (by rw [e45]; exact h.1.2) (by unfold in32; omega), bM_groups_36, jb_ite, e45, e46, n32s (x := d + 1) (by omega) (by omega)]
    by_cases z : dryM w d
    · rw [if_pos z]
      refine sM_isAlike G hc67 ⟨d0, by omega⟩ (fun t u' S' => ?_) (fun t u' S' => ?_)
      · rw [S.s61.ea] at t
        rw [bM_groups_47, if_neg (by omega)]
        exact hJ d ⟨d0, by omega⟩ z t u' (S.t S')
      · rw [S.s61.ea] at t
        rw [bM_groups_47, if_pos rfl, n32s (x := d + 1) (by omega) (by omega)]
        exact next u' (S.t S') (fun _ => t)
    · rw [if_neg z]
      exact next u S (fun t => absurd t z)
theorem sM_g4 (h : GM w) (hQ : ∀ u, S61 w u → LbP (dryM w) (EalM w s) (u 61) 67 → Q (jI (sm (fI (dryM w) (EalM w s)) 67)) u) (m : Nat) :
    ∀ (c : Int) (u : jW) (y4 : jV), (67 - c).toNat = m → 0 ≤ c → c ≤ 67 → S61 w u → LbP (dryM w) (EalM w s) (u 61) c →
    AW mM_groups 4 [jR 45, jI s, jI (sm (fI (dryM w) (EalM w s)) c.toNat), jI c, y4] [] u Q := by
  induction m with
  | zero =>
    intro c u y4 hm c0 c1 S H
    have e : c = 67 := by omega
    rw [e] at H ⊢
    rw [bM_groups_4, if_neg (by omega)]
    exact hQ u S H
  | succ m ih =>
    intro c u y4 hm c0 c1 S H
    have G := S.gm h
    have e45 := S.2 0 (by omega)
    have e46 := S.1 46 (by omega) (by omega) (by omega)
    have eD : dryM u = dryM w := by unfold dryM; rw [e45, e46]
    have si := sm_fI (D := dryM w) (E := EalM w s) c.toNat
    rw [bM_groups_4, if_pos (by omega), sM_isDry (by rw [e45]; exact h.1.2) (by unfold in32; omega), bM_groups_15, jb_ite, e45, e46, n32s (x := c + 1) (by omega) (by omega)]
    by_cases z : dryM w c
    · rw [if_pos z]
      have c67' : c67 c := ⟨c0, by omega⟩
      refine sM_g24 G (s := s) (c := c) (by rw [eD]; exact z) c67' (fun t u' S' => ?_) (fun d d1 d2 d3 u' S' => ?_) _ 0 u rfl (by omega) c0 S59.r (fun e a b => by omega)
      · rw [eD, S.ea] at t
        have J := H.first c0 eqv_al t
        have e61 : u' 61 = u 61 := S'.1 61 (by omega) (by omega)
        rw [bM_groups_56, if_pos rfl, if_pos (by omega), n32s (x := c + 1) (by omega) (by omega), n32s (x := sm (fI (dryM w) (EalM w s)) c.toNat + 1) (by omega) (by omega), ← J.2]
        refine ih (c + 1) _ _ (by omega) (by omega) (by omega) ((S.t S'.s61).t S61.j) ?_
        rw [jups, e61]; exact J.1
      · rw [eD] at d2
        rw [S.ea] at d3
        have J := H.join c0 eqv_al d1 d2 d3
        have e61 : u' 61 = u 61 := S'.1 61 (by omega) (by omega)
        rw [bM_groups_56, if_neg (by omega), if_pos (by omega), if_pos (by omega), n32s (x := c + 1) (by omega) (by omega), ← J.2]
        refine ih (c + 1) _ _ (by omega) (by omega) (by omega) ((S.t S'.s61).t S61.j) ?_
        rw [jups, e61]; exact J.1
    · have J := H.skip c0 z
      rw [if_neg z, ← J.2]
      exact ih (c + 1) u _ (by omega) (by omega) (by omega) S J.1
theorem sM_groups (h : GM w) (hQ : ∀ u, S61 w u → LbP (dryM w) (EalM w s) (u 61) 67 → Q (jI (sm (fI (dryM w) (EalM w s)) 67)) u) : AW mM_groups 0 [jR 45, jI s, jX, jX, jX] [] w Q := by
  rw [bM_groups_0]
  exact sM_g4 h hQ _ 0 w _ rfl (by omega) (by omega) S61.r LbP.nil
theorem VM.gm (h : VM w v) : GM w := by
  have kk := h.wk
  have e := h.eq
  refine ⟨by omega, by omega, fun p p0 p1 => ?_⟩
  have := h.pt (p := p) ⟨p0, by omega⟩
  rw [this.1.2.2]; exact this.2.2.2.2
theorem VM.al (h : VM w v) : EalM w s = Eal v s := by
  funext c d
  have e := h.eq.2.2.1
  have A : ∀ p c, 0 ≤ p → p < v 1 3 → armM w p c = armO v p c := by
    intro p c p0 p1
    have pt := (h.pt (p := p) ⟨p0, p1⟩).1
    unfold armM armO
    rw [pt.1, pt.2.1, pt.2.2]
  apply propext
  unfold EalM Eal
  rw [e]
  exact ⟨fun t p a b q => by rw [← A p c a b, ← A p d a b]; exact t p a b q, fun t p a b q => by rw [A p c a b, A p d a b]; exact t p a b q⟩
theorem VM.dm (h : VM w v) : dryM w = dryB (v 1 0) (v 2) := by
  funext c
  have kk := h.wk
  apply propext
  unfold dryM dryB
  rw [h.eq.1]
  exact ⟨fun t => ⟨t.1, by rw [← h.2.2.1 c t.1.1 (cell67 kk.2.2.2 t.1)]; exact t.2⟩, fun t => ⟨t.1, by rw [h.2.2.1 c t.1.1 (cell67 kk.2.2.2 t.1)]; exact t.2⟩⟩
theorem VM.groups (h : VM w v) (hQ : ∀ u, SMo w u → LbP (dryB (v 1 0) (v 2)) (Eal v s) (u 61) 67 → Q (jI (NG v s)) u) : AW mM_groups 0 [jR 45, jI s, jX, jX, jX] [] w Q := by
  refine sM_groups h.gm (fun u S H => ?_)
  rw [h.al, h.dm] at H ⊢
  exact hQ u S.smo H
end KB
