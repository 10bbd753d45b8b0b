/-! parts -/
theorem Ds.fwd {D : Int → Prop} {s t : Int} {f g : Int → Int} (hf : Ds D s f) (hg : Ds D t g) (h0 : 0 ≤ g s) (m : Nat) : ∀ c, c67 c → f c = (m : Int) → 0 ≤ g c := by
  induction m with
  | zero =>
    intro c hc h
    rw [hf.2.2.1 c hc h]; exact h0
  | succ m ih =>
    intro c hc h
    obtain ⟨hD, d, d67, ha, e⟩ := hf.2.2.2.1 c hc (by omega)
    have b := ih d d67 (by omega)
    exact (hg.2.2.2.2 d c d67 b ha hD).1
/-- what is marked when those below j are done -/
def Mk (w : jW) (f : Int → Int) (j : Int) : Prop := ∀ e, c67 e → -1 ≤ f e ∧ (f e ≠ -1 ↔ ∃ d, (0 ≤ d ∧ d < j) ∧ dryB (w 1 0) (w 2) d ∧ disW w d e ≠ -1)
abbrev seenB (w : jW) (e : Int) : Prop := ∃ d, (0 ≤ d ∧ d < e) ∧ dryB (w 1 0) (w 2) d ∧ disW w d e ≠ -1
noncomputable def ptI (w : jW) (e : Int) : Int := @ite _ (dryB (w 1 0) (w 2) e ∧ ¬ seenB w e) (Classical.propDecidable _) 1 0
section PA
variable {w v : jW} {Q : jV → jW → Prop} {f q f' : Int → Int} {K j : Int}
theorem ptI_y (h : dryB (w 1 0) (w 2) j ∧ ¬ seenB w j) : ptI w j = 1 := by unfold ptI; exact if_pos h
theorem ptI_n (h : ¬ (dryB (w 1 0) (w 2) j ∧ ¬ seenB w j)) : ptI w j = 0 := by unfold ptI; exact if_neg h
theorem ptI_in : 0 ≤ ptI w j ∧ ptI w j ≤ 1 := by
  by_cases h : dryB (w 1 0) (w 2) j ∧ ¬ seenB w j
  · rw [ptI_y h]; omega
  · rw [ptI_n h]; omega
theorem disW_tr {a b c : Int} (hn : w 1 0 ≤ 7) (ha : cellB (w 1 0) a) (hb : cellB (w 1 0) b) (hc : c67 c) (h1 : disW w a b ≠ -1) (h2 : disW w b c ≠ -1) : disW w a c ≠ -1 := by
  have da := disW_ds (v := w) hn ha
  have db := disW_ds (v := w) hn hb
  have i1 := da.1 b ⟨hb.1, cell67 hn hb⟩
  have i2 := db.1 c hc
  have := Ds.fwd db da (by omega) (disW w b c).toNat c hc (by omega)
  omega
theorem Mk.skip (hn : w 1 0 ≤ 7) (hM : Mk w f j) (hj : c67 j) (h : dryB (w 1 0) (w 2) j → f j ≠ -1) : Mk w f (j + 1) := by
  intro e he
  obtain ⟨a, b⟩ := hM e he
  refine ⟨a, b.trans ⟨?_, ?_⟩⟩
  · rintro ⟨d, d1, d2, d3⟩
    exact ⟨d, ⟨d1.1, by omega⟩, d2, d3⟩
  · rintro ⟨d, d1, d2, d3⟩
    by_cases z : d = j
    · rw [z] at d2 d3
      obtain ⟨d', e1, e2, e3⟩ := (hM j hj).2.mp (h d2)
      exact ⟨d', e1, e2, disW_tr hn e2.1 d2.1 he e3 d3⟩
    · exact ⟨d, ⟨d1.1, by omega⟩, d2, d3⟩
theorem Mk.step (hn : w 1 0 ≤ 7) (hM : Mk w f j) (hj : c67 j) (hd : dryB (w 1 0) (w 2) j) (hf : f j = -1) (h : SpD (dry0 w f) j f f') : Mk w f' (j + 1) := by
  have G : Ds (dryB (w 1 0) (w 2)) j (fun c => if f c = -1 then f' c else -1) := by
    obtain ⟨_, a1, a2, a3, a4, a5⟩ := h
    refine ⟨a1, a2, a3, fun c p q => ?_, fun c d p q r t => ?_⟩
    · obtain ⟨b1, b2⟩ := a4 c p q
      exact ⟨b1.1, b2⟩
    · have d67 : c67 d := ⟨t.1.1, cell67 hn t.1⟩
      refine a5 c d p q r ⟨t, ?_⟩
      by_cases z : f d = -1
      · exact z
      · exfalso
        have q' : 0 ≤ (if f c = -1 then f' c else -1) := q
        have fc : f c = -1 := by
          by_cases y : f c = -1
          · exact y
          · rw [if_neg y] at q'; omega
        have cd : dryB (w 1 0) (w 2) c := by
          by_cases y : 0 < (if f c = -1 then f' c else -1)
          · exact (a4 c p y).1.1
          · have := a3 c p (show (if f c = -1 then f' c else -1) = 0 by omega)
            rw [this]; exact hd
        obtain ⟨d', e1, e2, e3⟩ := (hM d d67).2.mp z
        have ds := disW_ds (v := w) hn e2.1
        have i := ds.1 d d67
        have := ds.2.2.2.2 d c d67 (by omega) r.sym cd
        exact (hM c p).2.mpr ⟨d', e1, e2, by omega⟩ fc
  intro e he
  obtain ⟨a, b⟩ := hM e he
  have g := G.dq he
  have gd : disW w j e = (if f e = -1 then f' e else -1) := g.symm
  have gi := (disW_ds (v := w) hn hd.1).1 e he
  by_cases z : f e = -1
  · rw [if_pos z] at gd
    refine ⟨by omega, ?_, ?_⟩
    · intro q
      exact ⟨j, ⟨hj.1, by omega⟩, hd, by rw [gd]; exact q⟩
    · rintro ⟨d, d1, d2, d3⟩
      by_cases y : d = j
      · rw [← gd, ← y]; exact d3
      · exact absurd z (b.mpr ⟨d, ⟨d1.1, by omega⟩, d2, d3⟩)
  · have fe := h.1 e he z
    refine ⟨by omega, ?_, ?_⟩
    · intro _
      obtain ⟨d, d1, d2, d3⟩ := b.mp z
      exact ⟨d, ⟨d1.1, by omega⟩, d2, d3⟩
    · intro _
      rw [fe]; exact z
theorem PW_PW {f2 q2 : Int → Int} : PW (PW w f q) f2 q2 = PW w f2 q2 := by
  funext o
  by_cases a : o = 40
  · rw [a, PW_40, PW_40]
  · by_cases b : o = 39
    · rw [b, PW_39, PW_39]
    · rw [PW_n ⟨b, a⟩, PW_n ⟨b, a⟩, PW_n ⟨b, a⟩]
theorem sP_parts12 (hn : w 1 0 ≤ 7) (hQ : ∀ f q, Q (jI (sm (ptI w) 67)) (PW w f q)) (m : Nat) : ∀ (j : Nat) (f q : Int → Int), 67 - j = m → j ≤ 67 → Mk w f j →
    AW mP_countParts 12 [jR 38, jR 1, jI (sm (ptI w) j), jI j] [] (PW w f q) Q := by
  induction m with
  | zero =>
    intro j f q hm hj hM
    rw [bP_countParts_12, if_neg (by omega), show j = 67 by omega]
    exact hQ f q
  | succ m ih =>
    intro j f q hm hj hM
    have j67 : c67 (j : Int) := ⟨by omega, by omega⟩
    have si := sm_in (f := ptI w) (lo := 0) (hi := 1) j (fun _ _ _ => ptI_in)
    have e1 : PW w f q 1 = w 1 := PW_n (by omega)
    have e2 : PW w f q 2 = w 2 := PW_n (by omega)
    have skip : (dryB (w 1 0) (w 2) (j : Int) → f j ≠ -1) → AW mP_countParts 12 [jR 38, jR 1, jI (sm (ptI w) j), jI ((j : Int) + 1)] [] (PW w f q) Q := by
      intro h
      have ih' := ih (j + 1) f q (by omega) (by omega) (hM.skip hn j67 h)
      rw [sm_s, ptI_n (fun z => h z.1 (by
        by_cases y : f (j : Int) = -1
        · exact y
        · exact absurd ((hM j j67).2.mp y) z.2)), Int.add_zero] at ih'
      exact ih'
    rw [bP_countParts_12, if_pos (by omega), sL_isDry (by rw [e1]; exact hn), bP_countParts_24, jb_ite, e1, e2, n32s (x := (j : Int) + 1) (by omega) (by omega), PW_39]
    by_cases c : dryB (w 1 0) (w 2) (j : Int)
    · rw [if_pos c, if_pos (by omega)]
      by_cases c2 : f (j : Int) = -1
      · rw [if_pos c2]
        refine sP_spread (w := PW w f q) (by rw [e1]; exact hn) (by rw [e1]; exact c.1) (by rw [PW_39]; exact c2) (fun c hc => by rw [PW_39]; exact (hM c hc).1) (fun f' q' h => ?_)
        have h' : SpD (dry0 w f) (j : Int) f f' := by
          have : dry0 (PW w f q) (PW w f q 39) = dry0 w f := by funext c; unfold dry0; rw [e1, e2, PW_39]
          rw [this, PW_39] at h; exact h
        have ih' := ih (j + 1) f' q' (by omega) (by omega) (hM.step hn j67 c c2 h')
        rw [sm_s, ptI_y ⟨c, fun z => (hM j j67).2.mpr z c2⟩] at ih'
        rw [PW_PW, bP_countParts_43, n32s (x := sm (ptI w) j + 1) (by omega) (by omega), n32s (x := (j : Int) + 1) (by omega) (by omega)]
        exact ih'
      · rw [if_neg c2]
        exact skip (fun _ => c2)
    · rw [if_neg c]
      exact skip (fun z => absurd z c)
theorem sM_parts31 {g : Int → Int} {x1 c : Int} (hc : c67 c) (hcd : dryB (v 1 0) (v 2) c) (hg : ∀ e, c67 e → g e - 1 = disW v c e) (h : VM w v) (e60 : w 60 = g) (hx : 0 ≤ x1 ∧ x1 ≤ 67) (hQ : ∀ y3 y4, AW mM_parts 4 [jR 45, jI (x1 + ptI v c), jI (c + 1), y3, y4] [] w Q) (m : Nat) :
    ∀ (k x3 : Int), (c - k).toNat = m → 0 ≤ k → k ≤ c → (x3 = 0 ↔ ∃ d, (0 ≤ d ∧ d < k) ∧ dryB (v 1 0) (v 2) d ∧ disW v d c ≠ -1) →
    AW mM_parts 31 [jR 45, jI x1, jI c, jI x3, jI k] [] w Q := by
  have hc' := hc
  unfold c67 at hc'
  induction m with
  | zero =>
    intro k x3 hm h0 hk h3
    have kc : k = c := by omega
    rw [kc] at h3
    rw [bM_parts_31, if_neg (by omega), n32s (x := c + 1) (by omega) (by omega), n32s (x := x1 + 1) (by omega) (by omega)]
    by_cases z : x3 = 0
    · rw [if_pos z]
      have := hQ (jI x3) (jI k)
      rw [ptI_n (fun t => t.2 (h3.mp z)), Int.add_zero] at this
      exact this
    · rw [if_neg z]
      have := hQ (jI x3) (jI k)
      rw [ptI_y ⟨hcd, fun t => z (h3.mpr t)⟩] at this
      exact this
  | succ m ih =>
    intro k x3 hm h0 hk h3
    have k67 : c67 k := ⟨h0, by omega⟩
    have gk := hg k k67
    have hn := h.wk.2.2.2
    have q1 : (c - (k + 1)).toNat = m := by clear h3; omega
    have q2 : k < c := by clear h3; omega
    have ih' := fun x3 => ih (k + 1) x3 q1 (by clear h3; omega) (by clear h3; omega)
    have same : (dryB (v 1 0) (v 2) k → disW v k c = -1) → AW mM_parts 31 [jR 45, jI x1, jI c, jI x3, jI (k + 1)] [] w Q := by
      intro hno
      refine ih' x3 (h3.trans ⟨?_, ?_⟩)
      · rintro ⟨d, d1, d2, d3⟩
        exact ⟨d, ⟨d1.1, by omega⟩, d2, d3⟩
      · rintro ⟨d, d1, d2, d3⟩
        by_cases y : d = k
        · rw [y] at d2 d3; exact absurd (hno d2) d3
        · exact ⟨d, ⟨d1.1, by omega⟩, d2, d3⟩
    rw [bM_parts_31, if_pos q2, h.isDry (by unfold in32; clear h3; omega), bM_parts_43, jb_ite, n32s (x := k + 1) (by clear h3; omega) (by clear h3; omega), e60]
    by_cases z : dryB (v 1 0) (v 2) k
    · have sy := disW_sym hn hcd z
      have si := (disW_ds (v := v) hn hcd.1).1 k k67
      rw [if_pos z, if_pos (by omega)]
      by_cases y : 0 < g k
      · rw [if_pos y]
        exact ih' 0 ⟨fun _ => ⟨k, ⟨h0, by omega⟩, z, by omega⟩, fun _ => rfl⟩
      · rw [if_neg y]
        exact same (fun _ => by omega)
    · rw [if_neg z]
      exact same (fun t => absurd t z)
theorem sM_parts4 (m : Nat) : ∀ (j : Nat) (w : jW) (y3 y4 : jV), 67 - j = m → j ≤ 67 → VM w v → (∀ u, SMo w u → Q (jI (sm (ptI v) 67)) u) →
    AW mM_parts 4 [jR 45, jI (sm (ptI v) j), jI j, y3, y4] [] w Q := by
  induction m with
  | zero =>
    intro j w y3 y4 hm hj h hQ
    rw [bM_parts_4, if_neg (by omega), show j = 67 by omega]
    exact hQ w SMo.r
  | succ m ih =>
    intro j w y3 y4 hm hj h hQ
    have j67 : c67 (j : Int) := ⟨by omega, by omega⟩
    have si := sm_in (f := ptI v) (lo := 0) (hi := 1) j (fun _ _ _ => ptI_in)
    rw [bM_parts_4, if_pos (by omega), h.isDry (by unfold in32; omega), bM_parts_15, jb_ite, n32s (x := (j : Int) + 1) (by omega) (by omega)]
    by_cases c : dryB (v 1 0) (v 2) (j : Int)
    · rw [if_pos c]
      refine h.walks c.1 (fun g hg => ?_)
      have h' : VM (jwr w 60 g) v := h.w60
      have s : SMo w (jwr w 60 g) := SMo.w (by omega)
      rw [bM_parts_26]
      refine sM_parts31 j67 c (fun e he => hg.dq he) h' jwr_s (by omega) (fun y3 y4 => ?_) _ 0 1 rfl (by omega) (by omega) ⟨fun z => by omega, fun ⟨d, d1, _⟩ => by omega⟩
      exact ih (j + 1) _ y3 y4 (by omega) (by omega) h' (fun u hu => hQ u (s.t hu))
    · rw [if_neg c]
      have ih' := ih (j + 1) w y3 y4 (by omega) (by omega) h hQ
      rw [sm_s, ptI_n (fun z => c z.1), Int.add_zero] at ih'
      exact ih'
theorem p_parts (h : INV K w) : Both mX_parts mM_parts [jR 0] [jR 45, jX, jX, jX, jX] K w := by
  unfold Both
  have k := h.wk
  rw [bX_parts_0, bP_countParts_0, sJ_fill_39, bP_countParts_8]
  have e : jwr w 39 (cf (w 39) 0 67 (-1)) = PW w (cf (w 39) 0 67 (-1)) (w 40) := by
    funext o
    by_cases a : o = 40
    · rw [a, PW_40, jwr_n (by omega)]
    · by_cases b : o = 39
      · rw [b, PW_39, jwr_s]
      · rw [PW_n ⟨b, a⟩, jwr_n b]
  rw [e]
  refine sP_parts12 k.2.2.2 (fun f q => ?_) _ 0 _ _ rfl (by omega) (fun e he => ?_)
  · have V := h.vm (SX.PW (w := w) (f := f) (q := q))
    rw [bX_parts_11, bM_parts_0]
    exact sM_parts4 _ 0 _ _ _ rfl (by omega) V (fun u hu => h.q SX.PW h.2.2.PW hu rfl)
  · have z : cf (w 39) 0 67 (-1) e = -1 := if_pos he
    rw [z]
    exact ⟨by omega, fun t => absurd rfl t, fun ⟨d, d1, _⟩ => by omega⟩
end PA
