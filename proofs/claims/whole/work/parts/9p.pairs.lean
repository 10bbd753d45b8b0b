/-! told pairs -/
def pP (v : jW) (s i : Int) : Int := v 25 (40 * s + 2 * i)
def pA (v : jW) (s i : Int) : Int := v 25 (40 * s + (2 * i + 1))
abbrev pkB (v : jW) (s i : Int) : Prop := (0 ≤ pP v s i ∧ pP v s i < v 1 3) ∧ -1 ≤ pA v s i ∧ pA v s i ≤ 8
def pkR (v : jW) (s : Int) : Nat → Int → Int
  | 0, _ => 0
  | m + 1, i => if pkB v s i then pkR v s m (i + 1) else -5
theorem pkR_y {v : jW} {s i : Int} {m : Nat} (h : pkB v s i) : pkR v s (m + 1) i = pkR v s m (i + 1) := if_pos h
theorem pkR_n {v : jW} {s i : Int} {m : Nat} (h : ¬ pkB v s i) : pkR v s (m + 1) i = -5 := if_neg h
theorem pkR_in {v : jW} {s : Int} (m : Nat) : ∀ i, pkR v s m i = 0 ∨ pkR v s m i = -5 := by
  induction m with
  | zero => intro i; exact Or.inl rfl
  | succ m ih =>
    intro i
    by_cases c : pkB v s i
    · rw [pkR_y c]; exact ih _
    · rw [pkR_n c]; exact Or.inr rfl
theorem pkR_all {v : jW} {s : Int} (m : Nat) : ∀ i, pkR v s m i = 0 → ∀ j, i ≤ j → j < i + (m : Int) → pkB v s j := by
  induction m with
  | zero => intro i _ j a b; omega
  | succ m ih =>
    intro i h j a b
    by_cases c : pkB v s i
    · rw [pkR_y c] at h
      by_cases e : j = i
      · rw [e]; exact c
      · exact ih (i + 1) h j (by omega) (by omega)
    · rw [pkR_n c] at h; omega
def prR (v : jW) (s n : Int) : Int := if ntR v s (2 * n) = 0 then pkR v s n.toNat 0 else ntR v s (2 * n)
def PrOk (v : jW) (s n : Int) : Prop := (0 ≤ s ∧ s < 8) ∧ (0 ≤ n ∧ n ≤ 20) ∧ (0 ≤ v 23 s ∧ v 23 s ≤ 4) ∧ 2 * n ≤ v 24 s ∧ ∀ i, 0 ≤ i → i < n → pkB v s i
section PA2
variable {w v u : jW} {Q : jV → jW → Prop} {K s n c x : Int}
theorem prR_in (hs : 0 ≤ s ∧ s < 8) : prR v s n = 0 ∨ (-5 ≤ prR v s n ∧ prR v s n ≤ -2) := by
  unfold prR
  have a := ntR_in (v := v) (n := 2 * n) hs
  have b := pkR_in (v := v) (s := s) n.toNat 0
  by_cases z : ntR v s (2 * n) = 0
  · rw [if_pos z]; omega
  · rw [if_neg z]; omega
theorem prR_0 (hO : SOk (v 1 3) (v 23) (v 24) (v 25)) (hs : 0 ≤ s ∧ s < 8) (hn : 0 ≤ n ∧ n ≤ 20) (h : prR v s n = 0) : PrOk v s n := by
  unfold prR at h
  by_cases z : ntR v s (2 * n) = 0
  · rw [if_pos z] at h
    have a := ntR_0 hO hs z
    exact ⟨hs, hn, a.1, a.2, fun i i0 i1 => pkR_all _ 0 h i i0 (by omega)⟩
  · rw [if_neg z] at h; exact absurd h z
theorem sX_np64 (h : OKC w) (hs : 0 ≤ s ∧ s < 8) (hc : 0 ≤ w 23 s ∧ w 23 s ≤ 4) (hn : n ≤ 20 ∧ 2 * n ≤ w 24 s) {y3 y4 : jV} (m : Nat) : ∀ i : Int, (n - i).toNat = m → 0 ≤ i → AW mX_whyNoPairs 64 [jR 0, jI s, jI n, y3, y4, jI i] [] w Q = Q (jI (pkR w s m i)) w := by
  have so : SOk (w 1 3) (w 23) (w 24) (w 25) := h.2.2.1
  induction m with
  | zero =>
    intro i hm h0
    rw [bX_whyNoPairs_64, if_neg (by omega)]
    rfl
  | succ m ih =>
    intro i hm h0
    have e1 : elR (w 23) (w 24) (w 25) s (2 * i) = pP w s i := elR_w hs hc ⟨by omega, by omega⟩
    have e2 : elR (w 23) (w 24) (w 25) s (2 * i + 1) = pA w s i := elR_w hs hc ⟨by omega, by omega⟩
    rw [bX_whyNoPairs_64, if_pos (by omega), n32s (x := 2 * i) (by omega) (by omega), sS_elementAt so, bX_whyNoPairs_86, e1, sL_hasPost, bX_whyNoPairs_89, jb_ite]
    by_cases c1 : 0 ≤ pP w s i ∧ pP w s i < w 1 3
    · rw [if_pos c1, n32s (x := 2 * i) (by omega) (by omega), n32s (x := 2 * i + 1) (by omega) (by omega), sS_elementAt so, bX_whyNoPairs_106, e2, sX_isArm, bX_whyNoPairs_109, jb_ite, n32s (x := i + 1) (by omega) (by omega)]
      by_cases c2 : -1 ≤ pA w s i ∧ pA w s i ≤ 8
      · rw [if_pos c2, ih (i + 1) (by omega) (by omega), pkR_y ⟨c1, c2⟩]
      · rw [if_neg c2, pkR_n (fun t => c2 t.2)]
    · rw [if_neg c1, pkR_n (fun t => c1 t.1)]
/-- why no pairs; b: whether the rest is right -/
theorem sX_wnp {b : Int} (h : OKC w) (hok : (0 ≤ s ∧ s < 8) ∧ (0 ≤ n ∧ n ≤ 20) ∧ b ≠ 0) : AW mX_whyNoPairs 0 [jR 0, jI s, jI n, jI b, jX, jX] [] w Q = Q (jI (prR w s n)) w := by
  have so : SOk (w 1 3) (w 23) (w 24) (w 25) := h.2.2.1
  obtain ⟨c1, c2, c3⟩ := hok
  have d := so.1 s c1.1 c1.2
  rw [bX_whyNoPairs_0, sX_isShelf, bX_whyNoPairs_4, jb_ite, if_pos c1, sX_isWithin, bX_whyNoPairs_15, jb_ite, if_pos c2, if_neg c3, sS_whyNoRow, bX_whyNoPairs_33]
  unfold prR ntR
  by_cases c4 : whyR (w 23) s = 0
  · have c4' := c4
    unfold whyR at c4'
    rw [if_pos c1] at c4'
    have hc : 0 ≤ w 23 s ∧ w 23 s ≤ 4 := by
      by_cases y : w 23 s < 10
      · rw [if_pos y] at c4'
        by_cases y2 : w 23 s = -1
        · rw [if_pos y2] at c4'; omega
        · omega
      · rw [if_neg y] at c4'; omega
    have sz : sizeR (w 23) (w 24) s = w 24 s := if_pos ⟨c1, by omega, by omega⟩
    rw [if_pos c4, if_pos c4, n32s (x := 2 * n) (by omega) (by omega), sS_hasRange so, bX_whyNoPairs_55, jb_ite, sz]
    by_cases c5 : 2 * n ≤ w 24 s
    · rw [if_pos ⟨by omega, by omega, by omega⟩, if_pos c5, if_pos rfl, sX_np64 h c1 hc ⟨c2.2, c5⟩ _ 0 rfl (by omega), show (n - 0).toNat = n.toNat by omega]
    · rw [if_neg (by omega), if_neg c5, if_neg (by omega)]
  · rw [if_neg c4, if_neg c4, if_neg c4]
theorem sX_wnpB {b : Int} (hok : ¬ ((0 ≤ s ∧ s < 8) ∧ (0 ≤ n ∧ n ≤ 20) ∧ b ≠ 0)) : AW mX_whyNoPairs 0 [jR 0, jI s, jI n, jI b, jX, jX] [] w Q = Q (jI (-2)) w := by
  rw [bX_whyNoPairs_0, sX_isShelf, bX_whyNoPairs_4, jb_ite]
  by_cases c1 : 0 ≤ s ∧ s < 8
  · rw [if_pos c1, sX_isWithin, bX_whyNoPairs_15, jb_ite]
    by_cases c2 : 0 ≤ n ∧ n ≤ 20
    · rw [if_pos c2]
      by_cases c3 : b = 0
      · rw [if_pos c3]
      · exact absurd ⟨c1, c2, c3⟩ hok
    · rw [if_neg c2]
  · rw [if_neg c1]
theorem VM.told (h : VM w v) {i : Int} (hs : 0 ≤ s ∧ s < 8) (hi : 0 ≤ i ∧ i < 40) : AW mM_toldAt 0 [jR 45, jI s, jI i] [] w Q = Q (jL (v 25 (40 * s + i))) w := by
  rw [bM_toldAt_0, n32s (x := 40 * s) (by omega) (by omega), n32s (x := 40 * s + i) (by omega) (by omega), if_pos (by omega), h.m55 ⟨by omega, by omega⟩]
theorem sM_np18 (h : VM w v) (hs : 0 ≤ s ∧ s < 8) (hn : n ≤ 20 ∧ 2 * n ≤ v 24 s) {y3 : jV} (m : Nat) : ∀ i : Int, (n - i).toNat = m → 0 ≤ i → AW mM_noPairs 18 [jR 45, jI s, jI n, y3, jI i] [] w Q = Q (jI (pkR v s m i)) w := by
  have so := h.sh
  have d := so.1 s hs.1 hs.2
  induction m with
  | zero =>
    intro i hm h0
    rw [bM_noPairs_18, if_neg (by omega)]
    rfl
  | succ m ih =>
    intro i hm h0
    have e1 : v 25 (40 * s + 2 * i) = pP v s i := rfl
    have e2 : v 25 (40 * s + (2 * i + 1)) = pA v s i := rfl
    rw [bM_noPairs_18, if_pos (by omega), n32s (x := 2 * i) (by omega) (by omega), h.told hs ⟨by omega, by omega⟩, bM_noPairs_34, e1, h.isPost, bM_noPairs_37, jb_ite]
    by_cases c1 : 0 ≤ pP v s i ∧ pP v s i < v 1 3
    · rw [if_pos c1, n32s (x := 2 * i) (by omega) (by omega), n32s (x := 2 * i + 1) (by omega) (by omega), h.told hs ⟨by omega, by omega⟩, bM_noPairs_51, e2]
      simp only [lc1]
      by_cases c2 : pA v s i < -1
      · rw [if_pos c2, pkR_n (fun t => by have := t.2; omega)]
      · rw [if_neg c2, n32s (x := 2 * i) (by omega) (by omega), n32s (x := 2 * i + 1) (by omega) (by omega), h.told hs ⟨by omega, by omega⟩, bM_noPairs_69, e2, n32s (x := i + 1) (by omega) (by omega)]
        simp only [lc2]
        by_cases c3 : 8 < pA v s i
        · rw [if_pos c3, pkR_n (fun t => by have := t.2; omega)]
        · rw [if_neg c3, ih (i + 1) (by omega) (by omega), pkR_y ⟨c1, by omega, by omega⟩]
    · rw [if_neg c1, pkR_n (fun t => c1 t.1)]
theorem VM.noPairs (h : VM w v) (hs : 0 ≤ s ∧ s < 8) (hn : 0 ≤ n ∧ n ≤ 20) : AW mM_noPairs 0 [jR 45, jI s, jI n, jX, jX] [] w Q = Q (jI (prR v s n)) w := by
  have a := ntR_in (v := v) (n := 2 * n) hs
  unfold prR
  rw [bM_noPairs_0, n32s (x := 2 * n) (by omega) (by omega), h.noTold hs, bM_noPairs_8]
  by_cases z : ntR v s (2 * n) = 0
  · have b := ntR_0 h.sh hs z
    rw [if_neg (by omega), if_pos z, sM_np18 h hs ⟨hn.2, b.2⟩ _ 0 rfl (by omega), show (n - 0).toNat = n.toNat by omega]
  · rw [if_pos (by omega), if_neg z]
/-- fits all pairs but one -/
def Ft (v : jW) (s n b c : Int) : Prop := ∀ i, 0 ≤ i → i < n → i ≠ b → armO v (pP v s i) c = pA v s i
noncomputable def ftI (v : jW) (s n b c : Int) : Int := @ite _ (dryB (v 1 0) (v 2) c ∧ Ft v s n b c) (Classical.propDecidable _) 1 0
noncomputable def NF (v : jW) (s n b : Int) : Int := sm (ftI v s n b) 67
theorem ftI_y {b : Int} (h : dryB (v 1 0) (v 2) c ∧ Ft v s n b c) : ftI v s n b c = 1 := by unfold ftI; exact if_pos h
theorem ftI_n {b : Int} (h : ¬ (dryB (v 1 0) (v 2) c ∧ Ft v s n b c)) : ftI v s n b c = 0 := by unfold ftI; exact if_neg h
theorem ftI_in {b : Int} : 0 ≤ ftI v s n b c ∧ ftI v s n b c ≤ 1 := by
  by_cases h : dryB (v 1 0) (v 2) c ∧ Ft v s n b c
  · rw [ftI_y h]; omega
  · rw [ftI_n h]; omega
theorem sm_ftI {b : Int} (m : Nat) : 0 ≤ sm (ftI v s n b) m ∧ sm (ftI v s n b) m ≤ m := by
  have := sm_in (f := ftI v s n b) (lo := 0) (hi := 1) m (fun _ _ _ => ftI_in)
  omega
def msR (v : jW) (s n c : Int) : Nat → Int → Int → Int
  | 0, e, _ => e
  | m + 1, e, i => if armO v (pP v s i) c = pA v s i then msR v s n c m e (i + 1) else if e = -1 then msR v s n c m i (i + 1) else n
theorem msR_y {e i : Int} {m : Nat} (h : armO v (pP v s i) c = pA v s i) : msR v s n c (m + 1) e i = msR v s n c m e (i + 1) := if_pos h
theorem msR_x {i : Int} {m : Nat} (h : ¬ armO v (pP v s i) c = pA v s i) : msR v s n c (m + 1) (-1) i = msR v s n c m i (i + 1) := by
  show (if armO v (pP v s i) c = pA v s i then msR v s n c m (-1) (i + 1) else if (-1 : Int) = -1 then msR v s n c m i (i + 1) else n) = _
  rw [if_neg h, if_pos rfl]
theorem msR_n {e i : Int} {m : Nat} (h : ¬ armO v (pP v s i) c = pA v s i) (h2 : e ≠ -1) : msR v s n c (m + 1) e i = n := by
  show (if armO v (pP v s i) c = pA v s i then msR v s n c m e (i + 1) else if e = -1 then msR v s n c m i (i + 1) else n) = _
  rw [if_neg h, if_neg h2]
/-- all below i fit but e -/
def MS (v : jW) (s c e i : Int) : Prop := (-1 ≤ e ∧ e < i) ∧ ∀ j, 0 ≤ j → j < i → (armO v (pP v s j) c = pA v s j ↔ j ≠ e)
theorem msR_sp (m : Nat) : ∀ e i, 0 ≤ i → i + (m : Int) = n → MS v s c e i → MS v s c (msR v s n c m e i) n ∨ (msR v s n c m e i = n ∧ ∃ a b, ((0 ≤ a ∧ a < n) ∧ (0 ≤ b ∧ b < n) ∧ a ≠ b) ∧ armO v (pP v s a) c ≠ pA v s a ∧ armO v (pP v s b) c ≠ pA v s b) := by
  induction m with
  | zero =>
    intro e i h0 hi h
    rw [show n = i by omega]
    exact Or.inl h
  | succ m ih =>
    intro e i h0 hi h
    have hh := h.1
    by_cases q : armO v (pP v s i) c = pA v s i
    · rw [msR_y q]
      refine ih e (i + 1) (by omega) (by omega) ⟨⟨h.1.1, by omega⟩, fun j a b => ?_⟩
      by_cases z : j = i
      · rw [z]; exact ⟨fun _ => by omega, fun _ => q⟩
      · exact h.2 j a (by omega)
    · by_cases z : e = -1
      · rw [z, msR_x q]
        refine ih i (i + 1) (by omega) (by omega) ⟨⟨by omega, by omega⟩, fun j a b => ?_⟩
        by_cases y : j = i
        · rw [y]; exact ⟨fun t => absurd t q, fun t => absurd rfl t⟩
        · exact ⟨fun _ => y, fun _ => (h.2 j a (by omega)).mpr (by omega)⟩
      · rw [msR_n q z]
        refine Or.inr ⟨rfl, e, i, ⟨⟨by omega, by omega⟩, ⟨h0, by omega⟩, by omega⟩, ?_, q⟩
        exact fun t => (h.2 e (by omega) h.1.2).mp t rfl
theorem ms_all (hn : 0 ≤ n) : (msR v s n c n.toNat (-1) 0 = -1 ↔ Ft v s n (-1) c) ∧ (∀ b, 0 ≤ b → b < n → msR v s n c n.toNat (-1) 0 ≠ -1 → (msR v s n c n.toNat (-1) 0 = b ↔ Ft v s n b c)) ∧ -1 ≤ msR v s n c n.toNat (-1) 0 ∧ msR v s n c n.toNat (-1) 0 ≤ n := by
  rcases msR_sp (v := v) (s := s) (c := c) (n := n) n.toNat (-1) 0 (by omega) (by omega) ⟨⟨by omega, by omega⟩, fun j a b => by omega⟩ with h | ⟨h, a, b, ⟨a1, b1, ab⟩, na, nb⟩
  · have y0 := h.1
    refine ⟨⟨fun e i i0 i1 _ => (h.2 i i0 i1).mpr (by omega), fun t => ?_⟩, fun b b0 b1 hne => ⟨fun e i i0 i1 ib => (h.2 i i0 i1).mpr (by omega), fun t => ?_⟩, h.1.1, by omega⟩
    · by_cases z : msR v s n c n.toNat (-1) 0 = -1
      · exact z
      · have y := h.1
        exact absurd rfl ((h.2 _ (by omega) y.2).mp (t _ (by omega) y.2 (by omega)))
    · by_cases z : msR v s n c n.toNat (-1) 0 = b
      · exact z
      · have y := h.1
        exact absurd rfl ((h.2 _ (by omega) y.2).mp (t _ (by omega) y.2 z))
  · refine ⟨⟨fun e => by omega, fun t => absurd (t a a1.1 a1.2 (by omega)) na⟩, fun d d0 d1 _ => ⟨fun e => by omega, fun t => ?_⟩, by omega, by omega⟩
    by_cases z : a = d
    · exact absurd (t b b1.1 b1.2 (by omega)) nb
    · exact absurd (t a a1.1 a1.2 z) na
theorem sX_ms6 (h : OKC w) (S : SV w u) (P : PrOk w s n) (hc : dryB (w 1 0) (w 2) c) (m : Nat) : ∀ (e i : Int) (y6 : jV), (n - i).toNat = m → 0 ≤ i → AW mX_missAt 6 [jR 0, jI s, jI n, jI (rk w c), jI e, jI i, y6] [] u Q = Q (jI (msR w s n c m e i)) u := by
  have so : SOk (w 1 3) (w 23) (w 24) (w 25) := h.2.2.1
  have h3 : 0 ≤ w 1 3 ∧ w 1 3 ≤ 8 := h.1.2.2.1
  have hw : 3 ≤ w 1 0 ∧ w 1 0 ≤ 7 := h.1.1
  have r := rk_49 hw.2 hc
  have G := S.gk h
  obtain ⟨p1, p2, p3, p4, p5⟩ := P
  have e23 := S.1 23 (by omega)
  have e24 := S.1 24 (by omega)
  have e25 := S.1 25 (by omega)
  have so' : SOk (w 1 3) (u 23) (u 24) (u 25) := by rw [e23, e24, e25]; exact so
  induction m with
  | zero =>
    intro e i y6 hm h0
    rw [bX_missAt_6, if_neg (by omega)]
    rfl
  | succ m ih =>
    intro e i y6 hm h0
    have pk := p5 i h0 (by omega)
    have e1 : elR (w 23) (w 24) (w 25) s (2 * i) = pP w s i := elR_w p1 p3 ⟨by omega, by omega⟩
    have e2 : elR (w 23) (w 24) (w 25) s (2 * i + 1) = pA w s i := elR_w p1 p3 ⟨by omega, by omega⟩
    rw [bX_missAt_6, if_pos (by omega), n32s (x := 2 * i) (by omega) (by omega), sS_elementAt so', bX_missAt_24, e23, e24, e25, e1, n32s (x := pP w s i) (by omega) (by omega), sK_armOf G (by rw [S.2.2.1]; exact pk.1) (by rw [S.2.1]; omega), bX_missAt_37, n32s (x := 2 * i) (by omega) (by omega), n32s (x := 2 * i + 1) (by omega) (by omega), sS_elementAt so', bX_missAt_52, e23, e24, e25, e2, S.2.2.2.2 _ c pk.1.1 pk.1.2 hc, n32s (x := i + 1) (by omega) (by omega)]
    simp only [lc3]
    by_cases q : armO w (pP w s i) c = pA w s i
    · rw [if_pos q, ih _ _ _ (by omega) (by omega), msR_y q]
    · rw [if_neg q]
      by_cases z : e = -1
      · rw [if_pos z, ih _ _ _ (by omega) (by omega), z, msR_x q]
      · rw [if_neg z, msR_n q z]
theorem sX_missAt (h : OKC w) (S : SV w u) (P : PrOk w s n) (hc : dryB (w 1 0) (w 2) c) : AW mX_missAt 0 [jR 0, jI s, jI n, jI (rk w c), jX, jX, jX] [] u Q = Q (jI (msR w s n c n.toNat (-1) 0)) u := by
  rw [bX_missAt_0]
  exact sX_ms6 h S P hc _ (-1) 0 jX (by omega) (by omega)
theorem sM_fits14 {w0 : jW} (h0 : VM w0 v) (P : PrOk v s n) {b : Int} (hc : c67 c) (h1 : Ft v s n b c → ∀ u, SMo w0 u → Q (jI 1) u) (h2 : ¬ Ft v s n b c → ∀ u, SMo w0 u → Q (jI 0) u) (m : Nat) :
    ∀ (i : Int) (u : jW), (n - i).toNat = m → 0 ≤ i → i ≤ n → SMo w0 u → (∀ j, 0 ≤ j → j < i → j ≠ b → armO v (pP v s j) c = pA v s j) → AW mM_fits 14 [jR 45, jI s, jI n, jI b, jI c, jI i] [] u Q := by
  obtain ⟨p1, p2, p3, p4, p5⟩ := P
  have kk := h0.wk
  have d := h0.sh.1 s p1.1 p1.2
  induction m with
  | zero =>
    intro i u hm i0 i1 S A
    rw [bM_fits_14, if_neg (by omega)]
    exact h1 (fun j a b => A j a (by omega)) u S
  | succ m ih =>
    intro i u hm i0 i1 S A
    have h := h0.t S
    have pk := p5 i i0 (by omega)
    have e1 : v 25 (40 * s + 2 * i) = pP v s i := rfl
    have e2 : v 25 (40 * s + (2 * i + 1)) = pA v s i := rfl
    have S' := S.t (SMo.one (w := u) (c := c))
    have next : ∀ u, SMo w0 u → (i ≠ b → armO v (pP v s i) c = pA v s i) → AW mM_fits 14 [jR 45, jI s, jI n, jI b, jI c, jI (i + 1)] [] u Q := by
      intro u S q
      refine ih (i + 1) u (by omega) (by omega) (by omega) S (fun j a b2 e => ?_)
      by_cases z : j = i
      · rw [z] at e ⊢; exact q e
      · exact A j a (by omega) e
    rw [bM_fits_14, if_pos (by omega), n32s (x := i + 1) (by omega) (by omega)]
    by_cases z : i = b
    · rw [if_pos z]
      exact next u S (fun t => absurd z t)
    · rw [if_neg z, n32s (x := 2 * i) (by omega) (by omega), h.told p1 ⟨by omega, by omega⟩, bM_fits_36, e1, n32s (x := pP v s i) (by omega) (by omega), h.armFor pk.1 hc, bM_fits_42, n32s (x := 2 * i) (by omega) (by omega), n32s (x := 2 * i + 1) (by omega) (by omega), (h0.t S').told p1 ⟨by omega, by omega⟩, bM_fits_54, e2, n32s (x := i + 1) (by omega) (by omega)]
      simp only [lc3]
      by_cases q : armO v (pP v s i) c = pA v s i
      · rw [if_pos q]
        exact next _ S' (fun _ => q)
      · rw [if_neg q]
        exact h2 (fun t => q (t i i0 (by omega) z)) _ S'
theorem VM.fits (h : VM w v) (P : PrOk v s n) {b : Int} (hc : c67 c) (h1 : (dryB (v 1 0) (v 2) c ∧ Ft v s n b c) → ∀ u, SMo w u → Q (jI 1) u) (h2 : ¬ (dryB (v 1 0) (v 2) c ∧ Ft v s n b c) → ∀ u, SMo w u → Q (jI 0) u) : AW mM_fits 0 [jR 45, jI s, jI n, jI b, jI c, jX] [] w Q := by
  have hc' := hc
  unfold c67 at hc'
  rw [bM_fits_0, h.isDry (by unfold in32; omega), bM_fits_6, jb_ite]
  by_cases d : dryB (v 1 0) (v 2) c
  · rw [if_pos d]
    exact sM_fits14 h P hc (fun t => h1 ⟨d, t⟩) (fun t => h2 (fun z => t z.2)) _ 0 w rfl (by omega) P.2.1.1 SMo.r (fun j a b => by omega)
  · rw [if_neg d]
    exact h2 (fun z => d z.1) w SMo.r
theorem sM_fitting6 {w0 : jW} (h0 : VM w0 v) (P : PrOk v s n) {b : Int} (hQ : ∀ u, SMo w0 u → Q (jI (NF v s n b)) u) (m : Nat) : ∀ (j : Nat) (u : jW), 67 - j = m → j ≤ 67 → SMo w0 u → AW mM_fitting 6 [jR 45, jI s, jI n, jI b, jI (sm (ftI v s n b) j), jI j] [] u Q := by
  induction m with
  | zero =>
    intro j u hm hj S
    rw [bM_fitting_6, if_neg (by omega), show j = 67 by omega]
    exact hQ u S
  | succ m ih =>
    intro j u hm hj S
    have h := h0.t S
    have si := sm_ftI (v := v) (s := s) (n := n) (b := b) j
    have i := fun u hS => ih (j + 1) u (by omega) (by omega) hS
    rw [sm_s] at i
    rw [bM_fitting_6, if_pos (by omega)]
    refine h.fits P ⟨by omega, by omega⟩ (fun t u' S' => ?_) (fun t u' S' => ?_)
    · rw [ftI_y t] at i
      rw [bM_fitting_22, if_neg (by omega), n32s (x := (j : Int) + 1) (by omega) (by omega), n32s (x := sm (ftI v s n b) j + 1) (by omega) (by omega)]
      exact i u' (S.t S')
    · rw [ftI_n t, Int.add_zero] at i
      rw [bM_fitting_22, if_pos rfl, n32s (x := (j : Int) + 1) (by omega) (by omega)]
      exact i u' (S.t S')
theorem VM.fitting (h : VM w v) (P : PrOk v s n) {b : Int} (hQ : ∀ u, SMo w u → Q (jI (NF v s n b)) u) : AW mM_fitting 0 [jR 45, jI s, jI n, jI b, jX, jX] [] w Q := by
  rw [bM_fitting_0]
  exact sM_fitting6 h P hQ _ 0 w rfl (by omega) SMo.r
end PA2
