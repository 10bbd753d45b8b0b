/-! one more post -/
theorem fI_cells {v : jW} {E E' : Int → Int → Prop} (hn : v 1 0 ≤ 7) (hE : ∀ c d, dryB (v 1 0) (v 2) c → dryB (v 1 0) (v 2) d → (E c d ↔ E' (rk v c) (rk v d))) :
    sm (fI (dryB (v 1 0) (v 2)) E) 67 = sm (fI (inN (rk v 67)) E') (rk v 67).toNat := by
  have R := fun c (hc : dryB (v 1 0) (v 2) c) => rk_49 hn hc
  have FF : ∀ c, dryB (v 1 0) (v 2) c → (Fst (dryB (v 1 0) (v 2)) E c ↔ Fst (inN (rk v 67)) E' (rk v c)) := by
    intro c hc
    constructor
    · intro t
      refine ⟨⟨(R c hc).1, (R c hc).2.1⟩, fun k p1 p2 p3 p4 => ?_⟩
      obtain ⟨d, d1, d2, d3⟩ := rk_sur (v := v) hn 67 k p3.1 p3.2
      have dc : d < c := by
        by_cases q : d < c
        · exact q
        · have := rk_mono (v := v) (a := c) (b := d) hc.1.1 (by omega)
          omega
      rw [← d3] at p4
      exact t.2 d d1.1 dc d2 ((hE c d hc d2).mpr p4)
    · intro t
      refine ⟨hc, fun d p1 p2 p3 p4 => ?_⟩
      have := rk_lt p3 p2
      exact t.2 (rk v d) (R d p3).1 this ⟨(R d p3).1, (R d p3).2.1⟩ ((hE c d hc p3).mp p4)
  refine sm_rk (v := v) (fun c _ hc => ?_) (fun c _ hc => fI_n (fun t => hc t.1)) 67
  by_cases q : Fst (dryB (v 1 0) (v 2)) E c
  · rw [fI_y q, fI_y ((FF c hc).mp q)]
  · rw [fI_n q, fI_n (fun t => q ((FF c hc).mpr t))]
def Ewy (v : jW) (s c : Int) (a b : Int) : Prop := Eal v s a b ∧ wayF c a = wayF c b
noncomputable def NGw (v : jW) (s c : Int) : Int := sm (fI (dryB (v 1 0) (v 2)) (Ewy v s c)) 67
noncomputable def mrR (v : jW) : Nat → Int × Int
  | 0 => (-1, 0)
  | m + 1 => if cellB (v 1 0) (m : Int) then bst (mrR v m) (NGw v (allP (v 1 3)) (m : Int)) (m : Int) else mrR v m
section OA
variable {w v u : jW} {Q : jV → jW → Prop} {K s c d x l : Int}
theorem wayF_in {a b : Int} : 0 ≤ wayF a b ∧ wayF a b ≤ 8 := wayR_in
theorem sK_gw14 (hN : 0 ≤ u 30 0 ∧ u 30 0 ≤ 49) (hg : ∀ k, 0 ≤ k → k < u 30 0 → 0 ≤ u 33 k ∧ u 33 k < 49) (ha : ∀ k, 0 ≤ k → k < u 30 0 → c67 (u 31 k)) (hc : c67 c) {ky : Int → Int} (hky : ∀ k, ky k = u 33 k * 10 + wayF c (u 31 k) + 1)
    (hQ : ∀ mk, (∀ m, 0 ≤ m → m < 490 → mk m ≤ l) → Q (jI (sm (fI (inN (u 30 0)) (fun i j => ky i = ky j)) (u 30 0).toNat)) (KW u l (u 33) (u 36) mk)) (m : Nat) :
    ∀ (k : Int) (mk : Int → Int) (y4 : jV), (u 30 0 - k).toNat = m → 0 ≤ k → k ≤ u 30 0 → MkK mk l ky k →
    AW mK_groupsWithPostAt 14 [jR 30, jI c, jI (sm (fI (inN (u 30 0)) (fun i j => ky i = ky j)) k.toNat), jI k, y4] [] (KW u l (u 33) (u 36) mk) Q := by
  induction m with
  | zero =>
    intro k mk y4 hm h0 hk H3
    have e : k = u 30 0 := by omega
    rw [bK_groupsWithPostAt_14, KW_f (by omega), if_neg (by omega), e]
    exact hQ mk (fun m a b => (H3 m a b).1)
  | succ m ih =>
    intro k mk y4 hm h0 hk H3
    have kN : inN (u 30 0) k := ⟨h0, by omega⟩
    have gi := hg k h0 (by omega)
    have ai := ha k h0 (by omega)
    have wi := wayF_in (a := c) (b := u 31 k)
    have kk := hky k
    have s := sm_fs (D := inN (u 30 0)) (E := fun i j => ky i = ky j) h0
    have si := sm_fI (D := inN (u 30 0)) (E := fun i j => ky i = ky j) k.toNat
    rw [bK_groupsWithPostAt_14, KW_f (by omega), if_pos (by omega), if_pos (by omega), if_pos (by omega), KW_n (o := 31) (by omega), sX_wayBetween hc ai, bK_groupsWithPostAt_41, KW_33, n32s (x := u 33 k * 10) (by omega) (by omega), n32s (x := u 33 k * 10 + wayF c (u 31 k)) (by omega) (by omega), n32s (x := u 33 k * 10 + wayF c (u 31 k) + 1) (by omega) (by omega), ← kk, if_pos (by omega), KW_37, KW_9, n32s (x := k + 1) (by omega) (by omega), n32s (x := sm (fI (inN (u 30 0)) (fun i j => ky i = ky j)) k.toNat + 1) (by omega) (by omega)]
    have mm := H3 (ky k) (by omega) (by omega)
    by_cases z : mk (ky k) = l
    · obtain ⟨j, j1, j2⟩ := mm.2.mp z
      clear mm
      rw [fI_n (fun t => t.2 j j1.1 j1.2 ⟨j1.1, by omega⟩ j2.symm), Int.add_zero] at s
      rw [if_pos z, ← s]
      exact ih (k + 1) mk _ (by omega) (by omega) (by omega) (H3.hit j1 j2.symm)
    · have nF : ∀ j, 0 ≤ j → j < k → ky k ≠ ky j := fun j a b e => z (mm.2.mpr ⟨j, ⟨a, b⟩, e.symm⟩)
      rw [fI_y ⟨kN, fun d d1 d2 _ d4 => nF d d1 d2 d4⟩] at s
      rw [if_neg z, if_pos (by omega), KW_m, ← s]
      exact ih (k + 1) _ _ (by omega) (by omega) (by omega) (H3.new h0)
theorem SV.gw (h : OKC w) (S : SV w u) (L : LK K u) (hK : K ≤ 1900000000) (H : LbP (dryB (w 1 0) (w 2)) (Eal w s) (fun c => u 33 (rk w c)) 67) (Hn : ∀ k, 0 ≤ k → k < rk w 67 → 0 ≤ u 33 k ∧ u 33 k < 49) (hc : c67 c)
    (hQ : ∀ u', SV w u' → LK (K + 1) u' → u' 33 = u 33 → Q (jI (NGw w s c)) u') : AW mK_groupsWithPostAt 0 [jR 30, jI c, jX, jX, jX] [] u Q := by
  have hw : 3 ≤ w 1 0 ∧ w 1 0 ≤ 7 := h.1.1
  have r67 := rk_67 (v := w) hw.2
  have r0 := rk_in (v := w) (c := 67) (by omega)
  obtain ⟨L1, L2, L3⟩ := L
  have e0 : u 30 0 = rk w 67 := S.2.1
  have A : ∀ k, 0 ≤ k → k < u 30 0 → c67 (u 31 k) := by
    intro k k0 k1
    rw [e0] at k1
    obtain ⟨a, a1, a2, a3⟩ := rk_sur (v := w) hw.2 67 k k0 k1
    rw [← a3, S.2.2.2.1 a a2]
    exact ⟨a2.1.1, cell67 hw.2 a2.1⟩
  have E : ∀ a b, dryB (w 1 0) (w 2) a → dryB (w 1 0) (w 2) b → (Ewy w s c a b ↔ (u 33 (rk w a) * 10 + wayF c (u 31 (rk w a)) + 1 = u 33 (rk w b) * 10 + wayF c (u 31 (rk w b)) + 1)) := by
    intro a b ha hb
    have wa := wayF_in (a := c) (b := a)
    have wb := wayF_in (a := c) (b := b)
    have hab := H.1 a b ⟨ha.1.1, cell67 hw.2 ha.1⟩ ⟨hb.1.1, cell67 hw.2 hb.1⟩ ha hb
    rw [S.2.2.2.1 a ha, S.2.2.2.1 b hb, key_iff (by omega) (by omega)]
    exact ⟨fun t => ⟨hab.mpr t.1, t.2⟩, fun t => ⟨hab.mp t.1, t.2⟩⟩
  have C := fI_cells hw.2 (E := Ewy w s c) (E' := fun i j => u 33 i * 10 + wayF c (u 31 i) + 1 = u 33 j * 10 + wayF c (u 31 j) + 1) E
  have e : jup u 30 9 (u 30 9 + 1) = KW u (u 30 9 + 1) (u 33) (u 36) (u 37) := by
    have := KW_l (u := u) (l := u 30 9) (g := u 33) (ng := u 36) (mk := u 37) (l' := u 30 9 + 1)
    rw [KW_eq] at this; exact this
  have Z := sK_gw14 (Q := Q) (l := u 30 9 + 1) (u := u) (by omega) (fun k a b => Hn k a (by omega)) A hc (ky := fun k => u 33 k * 10 + wayF c (u 31 k) + 1) (fun _ => rfl) (fun mk M => by
    have q := hQ (KW u (u 30 9 + 1) (u 33) (u 36) mk) S.kw (by
      unfold LK
      rw [KW_9, KW_37]
      exact ⟨by omega, by omega, M⟩) KW_33
    rw [e0]
    have C' : NGw w s c = _ := C
    rw [C'] at q
    exact q) _ 0 (u 37) jX rfl (by omega) (by omega) (fun m a b => ⟨by have := L3 m a b; omega, fun t => by have := L3 m a b; omega, fun ⟨j, j1, _⟩ => by omega⟩)
  rw [bK_groupsWithPostAt_0, n32s (x := u 30 9 + 1) (by omega) (by omega), e]
  exact Z
theorem mrR_y {m : Nat} (h : cellB (v 1 0) (m : Int)) : mrR v (m + 1) = bst (mrR v m) (NGw v (allP (v 1 3)) (m : Int)) (m : Int) := if_pos h
theorem mrR_n {m : Nat} (h : ¬ cellB (v 1 0) (m : Int)) : mrR v (m + 1) = mrR v m := if_neg h
theorem NGw_in : 0 ≤ NGw v s c ∧ NGw v s c ≤ 67 := sm_fI 67
theorem sX_more33 (h : OKC w) (hK : K ≤ 1000000000) {g : Int → Int} (H : LbP (dryB (w 1 0) (w 2)) (Eal w (allP (w 1 3))) (fun c => g (rk w c)) 67) (Hn : ∀ k, 0 ≤ k → k < rk w 67 → 0 ≤ g k ∧ g k < 49) (hQ : ∀ u, SV w u → LK (K + 67) u → Q (jI (mrR w 67).1) u) (m : Nat) :
    ∀ (j : Nat) (u : jW) (y4 : jV), 67 - j = m → j ≤ 67 → SV w u → LK (K + j) u → u 33 = g → AW mX_more 33 [jR 0, jI (mrR w j).1, jI (mrR w j).2, jI j, y4] [] u Q := by
  have hw : 3 ≤ w 1 0 ∧ w 1 0 ≤ 7 := h.1.1
  induction m with
  | zero =>
    intro j u y4 hm hj S L e33
    rw [bX_more_33, if_neg (by omega), show j = 67 by omega]
    exact hQ u S (L.to (by omega))
  | succ m ih =>
    intro j u y4 hm hj S L e33
    have j67 : c67 (j : Int) := ⟨by omega, by omega⟩
    have e1 : u 1 = w 1 := S.1 1 (by omega)
    rw [bX_more_33, if_pos (by omega), sL_isCell (by rw [e1]; exact hw.2), bX_more_48, jb_ite, e1, n32s (x := (j : Int) + 1) (by omega) (by omega)]
    by_cases c : cellB (w 1 0) (j : Int)
    · rw [if_pos c]
      refine S.gw (s := allP (w 1 3)) h L (by omega) (by rw [e33]; exact H) (by rw [e33]; exact Hn) j67 (fun u' S' L' e' => ?_)
      have i := fun y4 => ih (j + 1) u' y4 (by omega) (by omega) S' (L'.to (by omega)) (e'.trans e33)
      rw [mrR_y c] at i
      rw [bX_more_59, n32s (x := (j : Int) + 1) (by omega) (by omega)]
      by_cases z : (mrR w j).1 = -1
      · rw [bst_y (Or.inl z)] at i
        rw [if_pos z]; exact i _
      · rw [if_neg z]
        by_cases z2 : (mrR w j).2 < NGw w (allP (w 1 3)) (j : Int)
        · rw [bst_y (Or.inr z2)] at i
          rw [if_pos z2]; exact i _
        · rw [bst_n (fun t => t.elim z z2)] at i
          rw [if_neg z2]; exact i _
    · have i := ih (j + 1) u y4 (by omega) (by omega) S (L.to (by omega)) e33
      rw [mrR_n c] at i
      rw [if_neg c]; exact i
/-- the reference with one more post -/
def npW (w : jW) (n c : Int) : jW := jup (jup (jup (jup w 47 n 0) 48 n 0) 49 n c) 45 3 (n + 1)
theorem npW_n {n : Int} {o : Nat} (h : o ≠ 45 ∧ o ≠ 47 ∧ o ≠ 48 ∧ o ≠ 49) : npW w n c o = w o := by unfold npW; rw [jupn h.1, jupn h.2.2.2, jupn h.2.2.1, jupn h.2.1]
theorem npW_f {n f : Int} (h : f ≠ 3) : npW w n c 45 f = w 45 f := by unfold npW; rw [jups, up1_n h, jupn (by omega), jupn (by omega), jupn (by omega)]
theorem npW_3 {n : Int} : npW w n c 45 3 = n + 1 := by unfold npW; rw [jups, up1_s]
theorem npW_47 {n : Int} : npW w n c 47 = up1 (w 47) n 0 := by unfold npW; rw [jupn (by omega), jupn (by omega), jupn (by omega), jups]
theorem npW_48 {n : Int} : npW w n c 48 = up1 (w 48) n 0 := by unfold npW; rw [jupn (by omega), jupn (by omega), jups, jupn (by omega)]
theorem npW_49 {n : Int} : npW w n c 49 = up1 (w 49) n c := by unfold npW; rw [jupn (by omega), jups, jupn (by omega), jupn (by omega)]
theorem VM.npG (h : VM w v) (hc : c67 c) : GM (npW w (v 1 3) c) := by
  have kk := h.wk
  have G := h.gm
  have e3 := h.eq.2.2.1
  unfold GM at G ⊢
  rw [npW_f (by omega), npW_3, npW_49]
  refine ⟨G.1, by omega, fun p p0 p1 => ?_⟩
  by_cases z : p = v 1 3
  · rw [z, up1_s]; exact hc
  · rw [up1_n z]; exact G.2.2 p p0 (by omega)
theorem VM.npD (h : VM w v) : dryM (npW w (v 1 3) c) = dryB (v 1 0) (v 2) := by
  rw [← h.dm]
  unfold dryM
  rw [npW_f (by omega), npW_n (by omega)]
theorem VM.npE (h : VM w v) : EalM (npW w (v 1 3) c) (allP (v 1 3 + 1)) = Ewy v (allP (v 1 3)) c := by
  funext a b
  have kk := h.wk
  apply propext
  have A : ∀ p a, 0 ≤ p → p < v 1 3 → armM (npW w (v 1 3) c) p a = armO v p a := by
    intro p a p0 p1
    have pt := (h.pt (p := p) ⟨p0, p1⟩).1
    unfold armM armO
    rw [npW_47, npW_48, npW_49, up1_n (by omega), up1_n (by omega), up1_n (by omega), pt.1, pt.2.1, pt.2.2]
  have B : ∀ a, armM (npW w (v 1 3) c) (v 1 3) a = wayF c a := by
    intro a
    unfold armM armR
    rw [npW_47, npW_49, up1_s, up1_s, if_neg (by omega), if_neg (by omega), if_neg (by omega), if_neg (by omega), if_neg (by omega), if_pos rfl]
  unfold EalM Ewy Eal
  rw [npW_3]
  constructor
  · intro t
    refine ⟨fun p p0 p1 _ => ?_, ?_⟩
    · rw [← A p a p0 p1, ← A p b p0 p1]
      exact t p p0 (by omega) (bit_all (by omega) ⟨p0, by omega⟩)
    · rw [← B a, ← B b]
      exact t (v 1 3) (by omega) (by omega) (bit_all (by omega) ⟨by omega, by omega⟩)
  · rintro ⟨t1, t2⟩ p p0 p1 _
    by_cases z : p = v 1 3
    · rw [z, B, B]; exact t2
    · rw [A p a p0 (by omega), A p b p0 (by omega)]
      exact t1 p p0 (by omega) (bit_all (by omega) ⟨p0, by omega⟩)
theorem VM.npB {u2 : jW} (h : VM w v) (S : S61 (npW w (v 1 3) c) u2) : VM (jup u2 45 3 (v 1 3)) v := by
  have e3 := h.eq.2.2.1
  have O : ∀ o, o ≠ 45 → o ≠ 47 → o ≠ 48 → o ≠ 49 → o ≠ 59 → o ≠ 61 → jup u2 45 3 (v 1 3) o = w o := fun o a b d e f g => by rw [jupn a, S.1 o a f g, npW_n ⟨a, b, d, e⟩]
  have Fd : ∀ f, f ≠ 24 → jup u2 45 3 (v 1 3) 45 f = w 45 f := by
    intro f hf
    by_cases z : f = 3
    · rw [z, jups, up1_s, e3]
    · rw [jups, up1_n z, S.2 f hf, npW_f z]
  have e47 : jup u2 45 3 (v 1 3) 47 = up1 (w 47) (v 1 3) 0 := by rw [jupn (by omega), S.1 47 (by omega) (by omega) (by omega), npW_47]
  have e48 : jup u2 45 3 (v 1 3) 48 = up1 (w 48) (v 1 3) 0 := by rw [jupn (by omega), S.1 48 (by omega) (by omega) (by omega), npW_48]
  have e49 : jup u2 45 3 (v 1 3) 49 = up1 (w 49) (v 1 3) c := by rw [jupn (by omega), S.1 49 (by omega) (by omega) (by omega), npW_49]
  have U : ∀ (f g : Int → Int) (x : Int), Eqn (v 1 3) f g → Eqn (v 1 3) (up1 f (v 1 3) x) g := fun f g x H i a b => by rw [up1_n (by omega)]; exact H i a b
  obtain ⟨hc, hm⟩ := h
  refine ⟨hc, ?_⟩
  unfold RM Ra at hm ⊢
  rw [e47, e48, e49, O 46 (by omega) (by omega) (by omega) (by omega) (by omega) (by omega), O 50 (by omega) (by omega) (by omega) (by omega) (by omega) (by omega), O 51 (by omega) (by omega) (by omega) (by omega) (by omega) (by omega), O 52 (by omega) (by omega) (by omega) (by omega) (by omega) (by omega), O 53 (by omega) (by omega) (by omega) (by omega) (by omega) (by omega), O 54 (by omega) (by omega) (by omega) (by omega) (by omega) (by omega), O 55 (by omega) (by omega) (by omega) (by omega) (by omega) (by omega), O 56 (by omega) (by omega) (by omega) (by omega) (by omega) (by omega), O 57 (by omega) (by omega) (by omega) (by omega) (by omega) (by omega), Fd 0 (by omega), Fd 2 (by omega), Fd 10 (by omega), Fd 3 (by omega), Fd 7 (by omega), Fd 11 (by omega), Fd 21 (by omega)]
  obtain ⟨a, b, c1, c2, c3, d⟩ := hm
  exact ⟨a, b, U _ _ _ c1, U _ _ _ c2, U _ _ _ c3, d⟩
def z1 (p : Int × Int) : Int := if p.1 = -1 then 0 else p.1
theorem sM_more6 {w0 : jW} (hQ : ∀ u, VM u v → RO w0 u → Q (jI (z1 (mrR v 67))) u) (m : Nat) : ∀ (j : Nat) (u : jW) (y4 : jV), 67 - j = m → j ≤ 67 → VM u v → RO w0 u → AW mM_more 6 [jR 45, jI (z1 (mrR v j)), jI (l1 (mrR v j)), jI j, y4] [] u Q := by
  induction m with
  | zero =>
    intro j u y4 hm hj V R
    rw [bM_more_6, if_neg (by omega), show j = 67 by omega]
    exact hQ u V R
  | succ m ih =>
    intro j u y4 hm hj V R
    have kk := V.wk
    have j67 : c67 (j : Int) := ⟨by omega, by omega⟩
    rw [bM_more_6, if_pos (by omega), V.isCell (by unfold in64; omega), bM_more_18, jb_ite, n32s (x := (j : Int) + 1) (by omega) (by omega)]
    by_cases c : cellB (v 1 0) (j : Int)
    · have e3 := V.eq.2.2.1
      have eN : jup (jup (jup (jup u 47 (v 1 3) 0) 48 (v 1 3) 0) 49 (v 1 3) (j : Int)) 45 3 (v 1 3 + 1) = npW u (v 1 3) (j : Int) := rfl
      have gi := NGw_in (v := v) (s := allP (v 1 3)) (c := (j : Int))
      have lt := l1_lt (p := mrR v j) gi.1
      rw [if_pos c, bM_newPost_0, e3, if_pos (by omega), if_pos (by omega), if_pos (by omega), n32s (x := v 1 3 + 1) (by omega) (by omega), eN, bM_more_31, bM_allPosts_0, bM_more_37, npW_3]
      refine sM_groups (s := allP (v 1 3 + 1)) (V.npG j67) (fun u2 S2 _ => ?_)
      rw [V.npD, V.npE]
      have e4 : u2 45 3 = v 1 3 + 1 := (S2.2 3 (by omega)).trans npW_3
      have V2 := V.npB S2
      have R2 : RO w0 (jup u2 45 3 (v 1 3)) := fun o q => by
        rw [jupn (by omega), S2.1 o (by omega) (by omega) (by omega), npW_n (by omega)]; exact R o q
      have i := fun y4 => ih (j + 1) (jup u2 45 3 (v 1 3)) y4 (by omega) (by omega) V2 R2
      rw [mrR_y c] at i
      rw [bM_more_40, n32s (x := (j : Int) + 1) (by omega) (by omega), e4, show v 1 3 + 1 - 1 = v 1 3 by omega, n32s (x := v 1 3) (by omega) (by omega)]
      by_cases z : l1 (mrR v j) < NGw v (allP (v 1 3)) (j : Int)
      · rw [bst_y (lt.mp z), l1_k (by omega), show z1 ((j : Int), NGw v (allP (v 1 3)) (j : Int)) = (j : Int) from if_neg (by show (j : Int) ≠ -1; omega)] at i
        have z' := z
        unfold NGw at z'
        rw [if_pos z']; exact i _
      · rw [bst_n (fun t => z (lt.mpr t))] at i
        have z' := z
        unfold NGw at z'
        rw [if_neg z']; exact i _
    · have i := ih (j + 1) u y4 (by omega) (by omega) V R
      rw [mrR_n c] at i
      rw [if_neg c]; exact i
theorem mrR_nn (h3 : 3 ≤ v 1 0) (m : Nat) : (mrR v (m + 1)).1 ≠ -1 := by
  have c0 : cellB (v 1 0) ((0 : Nat) : Int) := ⟨by omega, by omega, by omega⟩
  induction m with
  | zero =>
    rw [mrR_y c0, bst_y (Or.inl rfl)]
    show ((0 : Nat) : Int) ≠ -1
    omega
  | succ m ih =>
    by_cases c : cellB (v 1 0) ((m + 1 : Nat) : Int)
    · rw [mrR_y c]
      by_cases z : (mrR v (m + 1)).1 = -1 ∨ (mrR v (m + 1)).2 < NGw v (allP (v 1 3)) ((m + 1 : Nat) : Int)
      · rw [bst_y z]; show ((m + 1 : Nat) : Int) ≠ -1; omega
      · rw [bst_n z]; exact ih
    · rw [mrR_n c]; exact ih
theorem p_more (h : INV K w) (hK : K ≤ 900000000) : Both mX_more mM_more [jR 0, jX, jX, jX, jX] [jR 45, jX, jX, jX, jX] K w := by
  unfold Both
  have kk := h.wk
  have r67 := rk_67 (v := w) kk.2.2.2
  have e : n32 (jshl 1 (w 1 3) - 1) = allP (w 1 3) := rfl
  rw [bX_more_0]
  refine sK_survey h.1 h.2.2 (fun u S L => ?_)
  rw [bX_more_15, bX_allPosts_0, bX_more_23, S.1 1 (by omega), e]
  refine S.groupBy h.1 L (by omega) (fun u S L H Hn HN => ?_)
  rw [bX_more_26]
  refine sX_more33 (K := K + 8) h.1 (by omega) (g := u 33) H (fun k a b => by have := Hn k a b; omega) (fun u S L => ?_) _ 0 u _ rfl (by omega) S (L.to (by omega)) rfl
  have V := h.vm S.1
  rw [bM_more_0]
  refine sM_more6 (v := w) (w0 := u) (fun u2 V2 R2 => ?_) _ 0 u _ rfl (by omega) V RO.r
  have z : z1 (mrR w 67) = (mrR w 67).1 := if_neg (mrR_nn kk.2.2.1 66)
  have O : ∀ o, o < 28 ∨ o = 41 → u2 o = w o := fun o q => (R2 o (by omega)).trans (S.1 o (by omega))
  refine ⟨by rw [z], ⟨h.1.cg O, V2.2.cg (fun _ _ => rfl) (fun _ _ => rfl) O, ?_⟩, fun o q => (R2 o (Or.inr q)).trans (S.1 o (by omega))⟩
  have L' : LK (K + 2100) u := L.to (by omega)
  unfold LK at L' ⊢
  rw [R2 30 (by omega), R2 37 (by omega)]
  exact L'
end OA
