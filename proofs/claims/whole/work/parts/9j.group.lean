/-! the class's groups -/
def KW (u : jW) (l : Int) (g ng mk : Int → Int) : jW := jwr (jwr (jwr (jup u 30 9 l) 33 g) 36 ng) 37 mk
section KA
variable {w u : jW} {Q : jV → jW → Prop} {g ng mk : Int → Int} {K l x y a b : Int}
theorem KW_n {o : Nat} (h : o ≠ 30 ∧ o ≠ 33 ∧ o ≠ 36 ∧ o ≠ 37) : KW u l g ng mk o = u o := by unfold KW; rw [jwr_n h.2.2.2, jwr_n h.2.2.1, jwr_n h.2.1, jupn h.1]
theorem KW_30 : KW u l g ng mk 30 = up1 (u 30) 9 l := by unfold KW; rw [jwr_n (by omega), jwr_n (by omega), jwr_n (by omega), jups]
theorem KW_f {f : Int} (h : f ≠ 9) : KW u l g ng mk 30 f = u 30 f := by rw [KW_30, up1_n h]
theorem KW_9 : KW u l g ng mk 30 9 = l := by rw [KW_30, up1_s]
theorem KW_33 : KW u l g ng mk 33 = g := by unfold KW; rw [jwr_n (by omega), jwr_n (by omega), jwr_s]
theorem KW_36 : KW u l g ng mk 36 = ng := by unfold KW; rw [jwr_n (by omega), jwr_s]
theorem KW_37 : KW u l g ng mk 37 = mk := by unfold KW; rw [jwr_s]
theorem jwr_cm {o p : Nat} {f h : Int → Int} (hne : o ≠ p) : jwr (jwr u o f) p h = jwr (jwr u p h) o f := by
  funext q
  by_cases e : q = o
  · rw [e, jwr_n hne, jwr_s, jwr_s]
  · by_cases e2 : q = p
    · rw [e2, jwr_s, jwr_n (fun t => hne t.symm), jwr_s]
    · rw [jwr_n e2, jwr_n e, jwr_n e, jwr_n e2]
theorem jwr_jwr {o : Nat} {f h : Int → Int} : jwr (jwr u o f) o h = jwr u o h := by
  funext q
  by_cases e : q = o
  · rw [e, jwr_s, jwr_s]
  · rw [jwr_n e, jwr_n e, jwr_n e]
theorem KW_g : jup (KW u l g ng mk) 33 x y = KW u l (up1 g x y) ng mk := by
  rw [jwr_up, KW_33]
  unfold KW
  rw [jwr_cm (o := 37) (p := 33) (by omega), jwr_cm (o := 36) (p := 33) (by omega), jwr_jwr]
theorem KW_x : jup (KW u l g ng mk) 36 x y = KW u l g (up1 ng x y) mk := by
  rw [jwr_up, KW_36]
  unfold KW
  rw [jwr_cm (o := 37) (p := 36) (by omega), jwr_jwr]
theorem KW_m : jup (KW u l g ng mk) 37 x y = KW u l g ng (up1 mk x y) := by
  rw [jwr_up, KW_37]
  unfold KW
  rw [jwr_jwr]
theorem KW_l {l' : Int} : jup (KW u l g ng mk) 30 9 l' = KW u l' g ng mk := by
  funext q
  by_cases e : q = 30
  · rw [e, jups, KW_30, KW_30]
    funext i
    unfold up1
    split <;> rfl
  · rw [jupn e]
    by_cases e1 : q = 33
    · rw [e1, KW_33, KW_33]
    · by_cases e2 : q = 36
      · rw [e2, KW_36, KW_36]
      · by_cases e3 : q = 37
        · rw [e3, KW_37, KW_37]
        · rw [KW_n ⟨e, e1, e2, e3⟩, KW_n ⟨e, e1, e2, e3⟩]
theorem KW_eq : KW u (u 30 9) (u 33) (u 36) (u 37) = u := by
  unfold KW
  rw [jup_same rfl, jwr_e rfl, jwr_e rfl, jwr_e rfl]
theorem KW_fill {f : Int → Int} : jwr (KW u l g ng mk) 33 f = KW u l f ng mk := by
  unfold KW
  rw [jwr_cm (o := 37) (p := 33) (by omega), jwr_cm (o := 36) (p := 33) (by omega), jwr_jwr]
theorem SX.KW : SX u (KW u l g ng mk) := ((((SX.j (by omega)).t (SX.w (by omega))).t (SX.w (by omega))).t (SX.w (by omega)))
/-- what the lookout holds -/
def GK (u : jW) : Prop := (0 ≤ u 30 0 ∧ u 30 0 ≤ 49) ∧ (0 ≤ u 30 2 ∧ u 30 2 ≤ 8) ∧ ∀ p k, 0 ≤ p → p < u 30 2 → 0 ≤ k → k < u 30 0 → -1 ≤ u 32 (p * 49 + k) ∧ u 32 (p * 49 + k) ≤ 8
theorem sK_armOf {p k : Int} (h : GK u) (hp : 0 ≤ p ∧ p < u 30 2) (hk : 0 ≤ k ∧ k < u 30 0) : AW mK_armOf 0 [jR 30, jI p, jI k, jX] [] u Q = Q (jI (u 32 (p * 49 + k))) u := by
  have h1 := h.1
  have h2 := h.2.1
  rw [bK_armOf_0, if_neg (by omega), if_pos hp.2, if_neg (by omega), if_pos hk.2, bK_armOf_29, if_neg (by omega), n32s (x := p * 49) (by omega) (by omega), n32s (x := p * 49 + k) (by omega) (by omega), if_pos (by omega)]
abbrev inN (N k : Int) : Prop := 0 ≤ k ∧ k < N
/-- marks: which keys have been -/
def MkK (mk : Int → Int) (l : Int) (ky : Int → Int) (k : Int) : Prop := ∀ m, 0 ≤ m → m < 490 → mk m ≤ l ∧ (mk m = l ↔ ∃ j, (0 ≤ j ∧ j < k) ∧ ky j = m)
theorem MkK.hit {ky : Int → Int} {k j : Int} (h : MkK mk l ky k) (hj : 0 ≤ j ∧ j < k) (e : ky k = ky j) : MkK mk l ky (k + 1) := by
  intro m h0 h1
  obtain ⟨a, b⟩ := h m h0 h1
  refine ⟨a, b.trans ⟨?_, ?_⟩⟩
  · rintro ⟨i, i1, i2⟩
    exact ⟨i, ⟨i1.1, by omega⟩, i2⟩
  · rintro ⟨i, i1, i2⟩
    by_cases z : i = k
    · exact ⟨j, hj, by rw [← e, ← z]; exact i2⟩
    · exact ⟨i, ⟨i1.1, by omega⟩, i2⟩
theorem MkK.new {ky : Int → Int} {k : Int} (h : MkK mk l ky k) (h0 : 0 ≤ k) : MkK (up1 mk (ky k) l) l ky (k + 1) := by
  intro m h0' h1
  obtain ⟨a, b⟩ := h m h0' h1
  by_cases z : m = ky k
  · rw [z, up1_s]
    exact ⟨by omega, fun _ => ⟨k, ⟨h0, by omega⟩, rfl⟩, fun _ => rfl⟩
  · rw [up1_n z]
    refine ⟨a, b.trans ⟨?_, ?_⟩⟩
    · rintro ⟨i, i1, i2⟩
      exact ⟨i, ⟨i1.1, by omega⟩, i2⟩
    · rintro ⟨i, i1, i2⟩
      by_cases z2 : i = k
      · rw [z2] at i2; exact absurd i2.symm z
      · exact ⟨i, ⟨i1.1, by omega⟩, i2⟩
theorem eqv_ky (ky : Int → Int) : Eqv (fun i j => ky i = ky j) := ⟨fun _ => rfl, fun _ _ h => h.symm, fun _ _ _ h h' => h.trans h'⟩
theorem key_in {N : Int} {E : Int → Int → Prop} {g0 : Int → Int} {k : Int} (hN : 0 ≤ N ∧ N ≤ 49) (h : LbP (inN N) E g0 N) (hk : inN N k) : 0 ≤ g0 k ∧ g0 k < 49 := by
  have a := h.2.2 k hk hk
  have b := sm_fI (D := inN N) (E := E) N.toNat
  omega
theorem key_iff {a b c d : Int} (h1 : -1 ≤ c ∧ c ≤ 8) (h2 : -1 ≤ d ∧ d ≤ 8) : a * 10 + c + 1 = b * 10 + d + 1 ↔ (a = b ∧ c = d) := by omega
theorem sK_split14 (h : GK u) {p : Int} (hp : 0 ≤ p ∧ p < u 30 2) {E : Int → Int → Prop} {g0 : Int → Int} (hg : LbP (inN (u 30 0)) E g0 (u 30 0)) {ky : Int → Int} (hky : ∀ k, ky k = g0 k * 10 + u 32 (p * 49 + k) + 1)
    (hQ : ∀ g ng mk, LbP (inN (u 30 0)) (fun i j => ky i = ky j) g (u 30 0) → (∀ m, 0 ≤ m → m < 490 → mk m ≤ l) → Q (jI (sm (fI (inN (u 30 0)) (fun i j => ky i = ky j)) (u 30 0).toNat)) (KW u l g ng mk)) (m : Nat) :
    ∀ (k : Int) (g ng mk : Int → Int) (y4 : jV), (u 30 0 - k).toNat = m → 0 ≤ k → k ≤ u 30 0 → (∀ j, k ≤ j → j < u 30 0 → g j = g0 j) → LbP (inN (u 30 0)) (fun i j => ky i = ky j) g k → MkK mk l ky k → (∀ j, 0 ≤ j → j < k → ng (ky j) = g j) →
    AW mK_splitBy 14 [jR 30, jI p, jI (sm (fI (inN (u 30 0)) (fun i j => ky i = ky j)) k.toNat), jI k, y4] [] (KW u l g ng mk) Q := by
  have h1 := h.1
  induction m with
  | zero =>
    intro k g ng mk y4 hm h0 hk H1 H2 H3 H4
    have e : k = u 30 0 := by omega
    rw [bK_splitBy_14, KW_f (by omega), if_neg (by omega), e]
    rw [e] at H2
    exact hQ g ng mk H2 (fun m a b => (H3 m a b).1)
  | succ m ih =>
    intro k g ng mk y4 hm h0 hk H1 H2 H3 H4
    have kN : inN (u 30 0) k := ⟨h0, by omega⟩
    have gi := key_in h1 hg kN
    have ai := h.2.2 p k hp.1 hp.2 h0 kN.2
    have gk := H1 k (by omega) (by omega)
    have kk := hky k
    have G' : GK (KW u l g ng mk) := by
      unfold GK
      rw [KW_f (f := 0) (by omega), KW_f (f := 2) (by omega), KW_n (o := 32) (by omega)]
      exact h
    have si := sm_fI (D := inN (u 30 0)) (E := fun i j => ky i = ky j) k.toNat
    have H1' : ∀ x j, k + 1 ≤ j → j < u 30 0 → up1 g k x j = g0 j := fun x j a b => by rw [up1_n (by omega)]; exact H1 j (by omega) b
    rw [bK_splitBy_14, KW_f (by omega), if_pos kN.2, if_pos (by omega), sK_armOf G' (by rw [KW_f (by omega)]; exact hp) (by rw [KW_f (by omega)]; exact kN), bK_splitBy_37, KW_n (o := 32) (by omega), KW_33, gk, n32s (x := g0 k * 10) (by omega) (by omega), n32s (x := g0 k * 10 + u 32 (p * 49 + k)) (by omega) (by omega), n32s (x := g0 k * 10 + u 32 (p * 49 + k) + 1) (by omega) (by omega), ← kk, if_pos (by omega), KW_37, KW_9, KW_36, n32s (x := k + 1) (by omega) (by omega), n32s (x := sm (fI (inN (u 30 0)) (fun i j => ky i = ky j)) k.toNat + 1) (by omega) (by omega)]
    have mm := H3 (ky k) (by omega) (by omega)
    by_cases c : mk (ky k) = l
    · obtain ⟨j, j1, j2⟩ := mm.2.mp c
      clear mm
      have J := H2.join h0 (eqv_ky ky) j1 ⟨j1.1, by omega⟩ j2.symm
      rw [if_pos c, if_pos (by omega), if_pos (by omega), KW_g, show ng (ky k) = g j by rw [← j2]; exact H4 j j1.1 j1.2, ← J.2]
      refine ih (k + 1) _ _ _ _ (by omega) (by omega) (by omega) (H1' _) J.1 (H3.hit j1 j2.symm) (fun i i1 i2 => ?_)
      by_cases z : i = k
      · rw [z, up1_s, ← j2]; exact H4 j j1.1 j1.2
      · rw [up1_n z]; exact H4 i i1 (by omega)
    · have nF : ∀ j, 0 ≤ j → j < k → ky k ≠ ky j := fun j a b e => c (mm.2.mpr ⟨j, ⟨a, b⟩, e.symm⟩)
      have J := H2.first h0 (eqv_ky ky) ⟨kN, fun d d1 d2 _ d4 => nF d d1 d2 d4⟩
      rw [if_neg c, if_pos (by omega), if_pos (by omega), if_pos (by omega), if_pos (by omega), KW_m, KW_x, KW_36, up1_s, KW_g, ← J.2]
      refine ih (k + 1) _ _ _ _ (by omega) (by omega) (by omega) (H1' _) J.1 (H3.new h0) (fun i i1 i2 => ?_)
      by_cases z : i = k
      · rw [z, up1_s, up1_s]
      · rw [up1_n z, up1_n (fun t => nF i i1 (by omega) t.symm)]; exact H4 i i1 (by omega)
theorem sK_split (h : GK u) {p : Int} (hp : 0 ≤ p ∧ p < u 30 2) {E : Int → Int → Prop} (hg : LbP (inN (u 30 0)) E g (u 30 0)) (hl : 0 ≤ l ∧ l ≤ 2000000000) (hm : ∀ m, 0 ≤ m → m < 490 → mk m ≤ l)
    (hQ : ∀ g ng mk, LbP (inN (u 30 0)) (fun i j => E i j ∧ u 32 (p * 49 + i) = u 32 (p * 49 + j)) g (u 30 0) → (∀ m, 0 ≤ m → m < 490 → mk m ≤ l + 1) → Q (jI (sm (fI (inN (u 30 0)) (fun i j => E i j ∧ u 32 (p * 49 + i) = u 32 (p * 49 + j))) (u 30 0).toNat)) (KW u (l + 1) g ng mk)) :
    AW mK_splitBy 0 [jR 30, jI p, jX, jX, jX] [] (KW u l g ng mk) Q := by
  have E' : ∀ i j, inN (u 30 0) i → inN (u 30 0) j → ((g i * 10 + u 32 (p * 49 + i) + 1 = g j * 10 + u 32 (p * 49 + j) + 1) ↔ (E i j ∧ u 32 (p * 49 + i) = u 32 (p * 49 + j))) := by
    intro i j hi hj
    rw [key_iff (h.2.2 p i hp.1 hp.2 hi.1 hi.2) (h.2.2 p j hp.1 hp.2 hj.1 hj.2), hg.1 i j hi hj hi hj]
  have s := fI_cg (D := inN (u 30 0)) E'
  have z := sK_split14 (Q := Q) (l := l + 1) h hp hg (ky := fun i => g i * 10 + u 32 (p * 49 + i) + 1) (fun _ => rfl) (fun g' ng' mk' H M => by
    have := hQ g' ng' mk' (H.cg E') M
    rw [← s] at this
    exact this) _ 0 g ng mk jX rfl (by omega) h.1.1 (fun _ _ _ => rfl) LbP.nil (fun m a b => ⟨by have := hm m a b; omega, fun t => by have := hm m a b; omega, fun ⟨j, j1, _⟩ => by omega⟩) (fun j a b => by omega)
  rw [bK_splitBy_0, KW_9, n32s (x := l + 1) (by omega) (by omega), KW_l]
  exact z
abbrev bitB (s p : Int) : Prop := jand (jshr s p) 1 = 1
/-- alike by the posts below p of a set -/
def Esp (u : jW) (s p : Int) (i j : Int) : Prop := ∀ q, 0 ≤ q → q < p → bitB s q → u 32 (q * 49 + i) = u 32 (q * 49 + j)
theorem sK_group23 (h : GK u) {s l0 : Int} (h0 : 0 ≤ l0 ∧ l0 ≤ 1900000000)
    (hQ : ∀ l g ng mk, (l0 ≤ l ∧ l ≤ l0 + 8) → LbP (inN (u 30 0)) (Esp u s (u 30 2)) g (u 30 0) → (∀ m, 0 ≤ m → m < 490 → mk m ≤ l) → Q (jI (sm (fI (inN (u 30 0)) (Esp u s (u 30 2))) (u 30 0).toNat)) (KW u l g ng mk)) (m : Nat) :
    ∀ (p l : Int) (g ng mk : Int → Int), (u 30 2 - p).toNat = m → 0 ≤ p → p ≤ u 30 2 → (l0 ≤ l ∧ l ≤ l0 + p) → LbP (inN (u 30 0)) (Esp u s p) g (u 30 0) → (∀ m, 0 ≤ m → m < 490 → mk m ≤ l) →
    AW mK_groupBy 23 [jR 30, jI s, jI (sm (fI (inN (u 30 0)) (Esp u s p)) (u 30 0).toNat), jI p] [] (KW u l g ng mk) Q := by
  have h2 := h.2.1
  induction m with
  | zero =>
    intro p l g ng mk hm hp0 hp hl H M
    have e : p = u 30 2 := by omega
    rw [e] at H ⊢
    rw [bK_groupBy_23, KW_f (by omega), if_neg (by omega)]
    exact hQ l g ng mk (by omega) H M
  | succ m ih =>
    intro p l g ng mk hm hp0 hp hl H M
    rw [bK_groupBy_23, KW_f (by omega), if_pos (by omega), n32s (x := p + 1) (by omega) (by omega)]
    by_cases c : bitB s p
    · have e : ∀ i j, inN (u 30 0) i → inN (u 30 0) j → ((Esp u s p i j ∧ u 32 (p * 49 + i) = u 32 (p * 49 + j)) ↔ Esp u s (p + 1) i j) := by
        intro i j _ _
        constructor
        · rintro ⟨a, b⟩ q q1 q2 q3
          by_cases z : q = p
          · rw [z]; exact b
          · exact a q q1 (by omega) q3
        · intro a
          exact ⟨fun q q1 q2 q3 => a q q1 (by omega) q3, a p hp0 (by omega) c⟩
      rw [if_pos c]
      refine sK_split h ⟨hp0, by omega⟩ H (by omega) M (fun g' ng' mk' H' M' => ?_)
      rw [bK_groupBy_45, n32s (x := p + 1) (by omega) (by omega), fI_cg e]
      exact ih (p + 1) (l + 1) g' ng' mk' (by omega) (by omega) (by omega) (by omega) (H'.cg e) M'
    · have e : ∀ i j, inN (u 30 0) i → inN (u 30 0) j → (Esp u s p i j ↔ Esp u s (p + 1) i j) := by
        intro i j _ _
        constructor
        · intro a q q1 q2 q3
          by_cases z : q = p
          · rw [z] at q3; exact absurd q3 c
          · exact a q q1 (by omega) q3
        · intro a
          exact fun q q1 q2 q3 => a q q1 (by omega) q3
      rw [if_neg c, fI_cg e]
      exact ih (p + 1) l g ng mk (by omega) (by omega) (by omega) (by omega) (H.cg e) M
theorem sK_groupBy (h : GK u) {s : Int} (L : LK K u) (hK : K ≤ 1900000000)
    (hQ : ∀ l g ng mk, LK (K + 8) (KW u l g ng mk) → LbP (inN (u 30 0)) (Esp u s (u 30 2)) g (u 30 0) → Q (jI (sm (fI (inN (u 30 0)) (Esp u s (u 30 2))) (u 30 0).toNat)) (KW u l g ng mk)) :
    AW mK_groupBy 0 [jR 30, jI s, jX, jX] [] u Q := by
  have h1 := h.1
  obtain ⟨L1, L2, L3⟩ := L
  have e0 : u = KW u (u 30 9) (u 33) (u 36) (u 37) := KW_eq.symm
  have I : LbP (inN (u 30 0)) (Esp u s 0) (cf (u 33) 0 49 0) (u 30 0) := by
    have Z : ∀ c, inN (u 30 0) c → cf (u 33) 0 49 0 c = 0 := fun c hc => if_pos ⟨hc.1, by have := hc.2; omega⟩
    have T : ∀ c d, Esp u s 0 c d := fun c d q q1 q2 => by omega
    have F0 : 0 < u 30 0 → fI (inN (u 30 0)) (Esp u s 0) 0 = 1 := fun t => fI_y ⟨⟨by omega, t⟩, fun d d1 d2 => by omega⟩
    refine ⟨fun c d hc hd _ _ => by rw [Z c hc, Z d hd]; exact ⟨fun _ => T c d, fun _ => rfl⟩, fun c hc p => ?_, fun c hc _ => ?_⟩
    · have c0 : c = 0 := by
        by_cases z : c = 0
        · exact z
        · exact absurd (T c 0) (p.2 0 (by omega) (by omega) ⟨by omega, by omega⟩)
      rw [Z c hc, c0]; rfl
    · rw [Z c hc]
      have a := sm_fs (D := inN (u 30 0)) (E := Esp u s 0) (m := 0) (by omega)
      rw [F0 (by omega)] at a
      have z0 : sm (fI (inN (u 30 0)) (Esp u s 0)) (0 : Int).toNat = 0 := rfl
      have b : sm (fI (inN (u 30 0)) (Esp u s 0)) (0 + 1 : Int).toNat ≤ sm (fI (inN (u 30 0)) (Esp u s 0)) (u 30 0).toNat := by
        have G : ∀ n : Nat, sm (fI (inN (u 30 0)) (Esp u s 0)) (0 + 1 : Int).toNat ≤ sm (fI (inN (u 30 0)) (Esp u s 0)) (n + 1) := by
          intro n
          induction n with
          | zero => exact Int.le_refl _
          | succ n ihn =>
            have := fI_in (D := inN (u 30 0)) (E := Esp u s 0) (c := ((n + 1 : Nat) : Int))
            rw [sm_s]; omega
        have := G ((u 30 0).toNat - 1)
        rw [show (u 30 0).toNat - 1 + 1 = (u 30 0).toNat by omega] at this
        exact this
      omega
  have N0 : sm (fI (inN (u 30 0)) (Esp u s 0)) (u 30 0).toNat = if 0 < u 30 0 then 1 else 0 := by
    have T : ∀ c d, Esp u s 0 c d := fun c d q q1 q2 => by omega
    have G : ∀ n : Nat, (n : Int) ≤ u 30 0 → sm (fI (inN (u 30 0)) (Esp u s 0)) n = if 0 < (n : Int) then 1 else 0 := by
      intro n
      induction n with
      | zero => intro _; rfl
      | succ n ihn =>
        intro hn
        rw [sm_s, ihn (by omega)]
        by_cases z : n = 0
        · rw [z, if_neg (by omega), if_pos (by omega)]
          show 0 + fI (inN (u 30 0)) (Esp u s 0) ((0 : Nat) : Int) = 1
          rw [fI_y ⟨⟨by omega, by omega⟩, fun d d1 d2 => by omega⟩]; rfl
        · rw [if_pos (by omega), if_pos (by omega), fI_n (fun t => t.2 0 (by omega) (by omega) ⟨by omega, by omega⟩ (T _ _))]; rfl
    have := G (u 30 0).toNat (by omega)
    rw [this, show (((u 30 0).toNat : Nat) : Int) = u 30 0 by omega]
  have W := sK_group23 (Q := Q) h (s := s) (l0 := u 30 9) (by omega) (fun l g ng mk hl H M => hQ l g ng mk (by
    unfold LK
    rw [KW_9, KW_37]
    exact ⟨by omega, by omega, M⟩) H) _ 0 (u 30 9) (cf (u 33) 0 49 0) (u 36) (u 37) rfl (by omega) h.2.1.1 (by omega) I L3
  rw [N0] at W
  rw [bK_groupBy_0, sJ_fill_33]
  have ef : jwr u 33 (cf (u 33) 0 49 0) = KW u (u 30 9) (cf (u 33) 0 49 0) (u 36) (u 37) := by
    have := KW_fill (u := u) (l := u 30 9) (g := u 33) (ng := u 36) (mk := u 37) (f := cf (u 33) 0 49 0)
    rw [KW_eq] at this; exact this
  rw [ef, bK_groupBy_8, KW_f (by omega)]
  by_cases c : 0 < u 30 0
  · rw [if_pos c] at W ⊢; exact W
  · rw [if_neg c] at W ⊢; exact W
end KA
