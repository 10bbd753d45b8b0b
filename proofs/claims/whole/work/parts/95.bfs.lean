/-! the class's spreading -/
def BF (D : Int → Prop) (s : Int) (f0 f q : Int → Int) (t i k : Int) : Prop :=
  ((0 ≤ i ∧ i ≤ t) ∧ 1 ≤ t ∧ t ≤ sm (geI f) 67) ∧
  (f s = 0 ∧ (f0 s = -1 ∧ c67 s) ∧ (∀ c, c67 c → f0 c = -1 → f c = 0 → c = s) ∧ ∀ c, c67 c → -1 ≤ f c) ∧
  (∀ c, c67 c → f0 c ≠ -1 → f c = f0 c) ∧
  (∀ j, 0 ≤ j → j < t → c67 (q j) ∧ f0 (q j) = -1 ∧ 0 ≤ f (q j) ∧ f (q j) ≤ j) ∧
  (∀ j, 0 ≤ j → j + 1 < t → f (q j) ≤ f (q (j + 1))) ∧
  (∀ c, c67 c → f0 c = -1 → 0 ≤ f c → (i < t → f c ≤ f (q i) + 1) ∧ ∃ j, (0 ≤ j ∧ j < t) ∧ q j = c) ∧
  (∀ c, c67 c → f0 c = -1 → 0 < f c → D c ∧ ∃ d, c67 d ∧ f0 d = -1 ∧ adj d c ∧ f d = f c - 1) ∧
  (∀ j m, 0 ≤ j → j < t → (j < i ∨ (j = i ∧ m < k)) → 1 ≤ m → m ≤ 4 → D (q j + jcmd m) → 0 ≤ f (q j + jcmd m) ∧ f (q j + jcmd m) ≤ f (q j) + 1)
section BA
variable {D : Int → Prop} {s t i k x : Int} {f0 f q : Int → Int}
theorem BF.init (h0 : f0 s = -1) (h67 : c67 s) (h1 : ∀ c, c67 c → -1 ≤ f0 c) : BF D s f0 (up1 f0 s 0) (up1 q 0 s) 1 0 1 := by
  have U : ∀ c, f0 c = -1 → 0 ≤ up1 f0 s 0 c → c = s := by
    intro c a b
    by_cases e : c = s
    · exact e
    · rw [up1_n e] at b; omega
  refine ⟨⟨⟨by omega, by omega⟩, by omega, ?_⟩, ⟨up1_s, ⟨h0, h67⟩, ?_, ?_⟩, ?_, ?_, ?_, ?_, ?_, ?_⟩
  · rw [sm_up 67 ⟨h67.1, h67.2⟩ (by omega) (by omega)]
    have := sm_geI (f := f0) 67
    omega
  · intro c _ a b; exact U c a (by omega)
  · intro c hc
    unfold up1
    split
    · omega
    · exact h1 c hc
  · intro c _ a
    exact up1_n (fun e => a (by rw [e]; exact h0))
  · intro j a b
    have : j = 0 := by omega
    rw [this, up1_s, up1_s]
    exact ⟨h67, h0, by omega, by omega⟩
  · intro j a b; omega
  · intro c _ a b
    have e := U c a b
    refine ⟨fun _ => ?_, 0, ⟨by omega, by omega⟩, ?_⟩
    · rw [e, up1_s, up1_s, up1_s]; omega
    · rw [up1_s, e]
  · intro c _ a b
    have e := U c a (by omega)
    rw [e, up1_s] at b; omega
  · intro j m a b c d
    omega
theorem BF.push (h : BF D s f0 f q t i k) (hit : i < t) (hk : 1 ≤ k ∧ k ≤ 4) (ex : x = q i + jcmd k) (hD : D x) (hx : c67 x ∧ f0 x = -1) (hf : f x = -1) :
    BF D s f0 (up1 f x (f (q i) + 1)) (up1 q t x) (t + 1) i (k + 1) := by
  obtain ⟨⟨⟨a1, a2⟩, a3, a4⟩, ⟨b1, b2, b3, b4⟩, c1, d1, e1, g1, i1, j1⟩ := h
  have di := d1 i a1 hit
  have F : ∀ c, f c ≠ -1 → up1 f x (f (q i) + 1) c = f c := fun c hc => up1_n (fun e => hc (by rw [e]; exact hf))
  have Fq : ∀ j, 0 ≤ j → j < t → up1 f x (f (q i) + 1) (up1 q t x j) = f (q j) := by
    intro j p1 p2
    rw [up1_n (show j ≠ t by omega), F]
    have := (d1 j p1 p2).2.2.1
    omega
  have Ft : up1 f x (f (q i) + 1) (up1 q t x t) = f (q i) + 1 := by rw [up1_s, up1_s]
  refine ⟨⟨⟨a1, by omega⟩, by omega, ?_⟩, ⟨?_, b2, ?_, ?_⟩, ?_, ?_, ?_, ?_, ?_, ?_⟩
  · rw [sm_up 67 ⟨hx.1.1, hx.1.2⟩ (by omega) (by omega)]
    omega
  · rw [F s (by omega)]; exact b1
  · intro c hc p1 p2
    by_cases e : c = x
    · rw [e, up1_s] at p2; omega
    · rw [up1_n e] at p2; exact b3 c hc p1 p2
  · intro c hc
    by_cases e : c = x
    · rw [e, up1_s]; omega
    · rw [up1_n e]; exact b4 c hc
  · intro c hc p1
    rw [up1_n (fun e => p1 (by rw [e]; exact hx.2))]
    exact c1 c hc p1
  · intro j p1 p2
    by_cases e : j = t
    · rw [e, Ft, up1_s]
      exact ⟨hx.1, hx.2, by omega, by omega⟩
    · have dj := d1 j p1 (by omega)
      rw [Fq j p1 (by omega), up1_n e]
      exact dj
  · intro j p1 p2
    rw [Fq j p1 (by omega)]
    by_cases e : j + 1 = t
    · rw [e, Ft]
      exact ((g1 (q j) (d1 j p1 (by omega)).1 (d1 j p1 (by omega)).2.1 (d1 j p1 (by omega)).2.2.1).1 hit)
    · rw [Fq (j + 1) (by omega) (by omega)]
      exact e1 j p1 (by omega)
  · intro c hc p1 p2
    rw [Fq i a1 hit]
    by_cases e : c = x
    · refine ⟨fun _ => ?_, t, ⟨by omega, by omega⟩, ?_⟩
      · rw [e, up1_s]; omega
      · rw [up1_s, e]
    · rw [up1_n e] at p2
      obtain ⟨g2, j, j2, j3⟩ := g1 c hc p1 p2
      refine ⟨fun _ => ?_, j, ⟨j2.1, by omega⟩, ?_⟩
      · rw [up1_n e]; exact g2 hit
      · rw [up1_n (by omega)]; exact j3
  · intro c hc p1 p2
    by_cases e : c = x
    · refine ⟨by rw [e]; exact hD, q i, di.1, di.2.1, ⟨k, hk.1, hk.2, by rw [e]; exact ex⟩, ?_⟩
      rw [F (q i) (by omega), e, up1_s]; omega
    · rw [up1_n e] at p2
      obtain ⟨i2, d, d2, d3, d4, d5⟩ := i1 c hc p1 p2
      refine ⟨i2, d, d2, d3, d4, ?_⟩
      rw [F d (by omega), up1_n e]; exact d5
  · intro j m p1 p2 p3 p4 p5 p6
    have jt : j < t := by omega
    have nj : up1 q t x j = q j := up1_n (by omega)
    have Fj : up1 f x (f (q i) + 1) (q j) = f (q j) := F _ (by have := (d1 j p1 jt).2.2.1; omega)
    rw [nj] at p6 ⊢
    rw [Fj]
    by_cases e : q j + jcmd m = x
    · rw [e, up1_s]
      rcases p3 with p3 | ⟨p3, p3'⟩
      · have := j1 j m p1 jt (Or.inl p3) p4 p5 p6
        rw [e, hf] at this; omega
      · rw [p3]; omega
    · rw [up1_n e]
      refine j1 j m p1 jt ?_ p4 p5 p6
      rcases p3 with p3 | ⟨p3, p3'⟩
      · exact Or.inl p3
      · refine Or.inr ⟨p3, ?_⟩
        by_cases e2 : m = k
        · exact absurd (by rw [p3, e2]; exact ex.symm) e
        · omega
theorem BF.skip (h : BF D s f0 f q t i k) (hit : i < t) (ex : x = q i + jcmd k) (hD : D x → (c67 x ∧ f0 x = -1) ∧ 0 ≤ f x) : BF D s f0 f q t i (k + 1) := by
  obtain ⟨a, b, c1, d1, e1, g1, i1, j1⟩ := h
  refine ⟨a, b, c1, d1, e1, g1, i1, ?_⟩
  intro j m p1 p2 p3 p4 p5 p6
  by_cases e : j = i ∧ m = k
  · rw [e.1, e.2, ← ex] at p6 ⊢
    have := hD p6
    exact ⟨this.2, (g1 x this.1.1 this.1.2 this.2).1 hit⟩
  · exact j1 j m p1 p2 (by omega) p4 p5 p6
theorem BF.next (h : BF D s f0 f q t i 5) (hit : i < t) : BF D s f0 f q t (i + 1) 1 := by
  obtain ⟨⟨⟨a1, a2⟩, a3⟩, b, c1, d1, e1, g1, i1, j1⟩ := h
  refine ⟨⟨⟨by omega, by omega⟩, a3⟩, b, c1, d1, e1, ?_, i1, ?_⟩
  · intro c hc p1 p2
    obtain ⟨g2, g3⟩ := g1 c hc p1 p2
    refine ⟨fun p3 => ?_, g3⟩
    have := g2 hit
    have := e1 i a1 p3
    omega
  · intro j m p1 p2 p3 p4 p5 p6
    exact j1 j m p1 p2 (by omega) p4 p5 p6
/-- what is so behind a spreading -/
def SpD (D : Int → Prop) (s : Int) (f0 f : Int → Int) : Prop := (∀ c, c67 c → f0 c ≠ -1 → f c = f0 c) ∧ Ds D s (fun c => if f0 c = -1 then f c else -1)
theorem BF.fin (h : BF D s f0 f q t i k) (hit : i = t) (hD : ∀ c, D c → c67 c ∧ f0 c = -1) : SpD D s f0 f := by
  obtain ⟨⟨⟨a1, a2⟩, a3⟩, ⟨b1, b2, b3, b4⟩, c1, d1, e1, g1, i1, j1⟩ := h
  have N : ∀ c, 0 ≤ (if f0 c = -1 then f c else -1) → f0 c = -1 := by
    intro c hc
    by_cases e : f0 c = -1
    · exact e
    · rw [if_neg e] at hc; omega
  refine ⟨c1, ?_, ?_, ?_, ?_, ?_⟩
  · intro c hc
    have := b4 c hc
    show -1 ≤ (if f0 c = -1 then f c else -1) ∧ (if f0 c = -1 then f c else -1) ≤ 66
    by_cases e : f0 c = -1
    · rw [if_pos e]
      by_cases z : 0 ≤ f c
      · obtain ⟨_, j, j2, j3⟩ := g1 c hc e z
        have dj := d1 j j2.1 j2.2
        rw [j3] at dj
        have t67 := (sm_geI (f := f) 67).2
        omega
      · omega
    · rw [if_neg e]; omega
  · show (if f0 s = -1 then f s else -1) = 0
    rw [if_pos b2.1]; exact b1
  · intro c hc p
    have e := N c (by have : (if f0 c = -1 then f c else -1) = 0 := p; omega)
    have p' : (if f0 c = -1 then f c else -1) = 0 := p
    rw [if_pos e] at p'
    exact b3 c hc e p'
  · intro c hc p
    have p' : 0 < (if f0 c = -1 then f c else -1) := p
    have e := N c (by omega)
    rw [if_pos e] at p'
    obtain ⟨i2, d, d2, d3, d4, d5⟩ := i1 c hc e p'
    refine ⟨i2, d, d2, d4, ?_⟩
    show (if f0 d = -1 then f d else -1) = (if f0 c = -1 then f c else -1) - 1
    rw [if_pos e, if_pos d3]; exact d5
  · intro c d hc p ha hd
    have p' : 0 ≤ (if f0 c = -1 then f c else -1) := p
    have e := N c p'
    rw [if_pos e] at p'
    obtain ⟨_, j, j2, j3⟩ := g1 c hc e p'
    obtain ⟨m, m1, m2, m3⟩ := ha
    show 0 ≤ (if f0 d = -1 then f d else -1) ∧ (if f0 d = -1 then f d else -1) ≤ (if f0 c = -1 then f c else -1) + 1
    rw [if_pos e, if_pos (hD d hd).2, m3, ← j3]
    rw [m3, ← j3] at hd
    exact j1 j m j2.1 j2.2 (Or.inl (by omega)) m1 m2 hd
end BA
def PW (w : jW) (f q : Int → Int) : jW := jwr (jwr w 39 f) 40 q
section BB
variable {w : jW} {Q : jV → jW → Prop} {f q f0 : Int → Int} {s : Int}
theorem PW_39 : PW w f q 39 = f := by unfold PW; rw [jwr_n (by omega), jwr_s]
theorem PW_40 : PW w f q 40 = q := by unfold PW; rw [jwr_s]
theorem PW_n {o : Nat} (h : o ≠ 39 ∧ o ≠ 40) : PW w f q o = w o := by unfold PW; rw [jwr_n h.2, jwr_n h.1]
theorem PW_up {x a y b : Int} : jup (jup (PW w f q) 39 x a) 40 y b = PW w (up1 f x a) (up1 q y b) := by
  funext o
  by_cases e : o = 40
  · rw [e, jups, PW_40, jupn (by omega), PW_40]
  · by_cases e' : o = 39
    · rw [e', jupn (by omega), jups, PW_39, PW_39]
    · rw [jupn e, jupn e', PW_n ⟨e', e⟩, PW_n ⟨e', e⟩]
theorem PW_eq : PW w (w 39) (w 40) = w := by
  funext o
  by_cases e : o = 40
  · rw [e, PW_40]
  · by_cases e' : o = 39
    · rw [e', PW_39]
    · rw [PW_n ⟨e', e⟩]
theorem SX.PW : SX w (PW w f q) := SX.t (SX.w (by omega)) (SX.w (by omega))
def dry0 (w : jW) (f0 : Int → Int) (c : Int) : Prop := dryB (w 1 0) (w 2) c ∧ f0 c = -1
theorem sP_54 (hn : w 1 0 ≤ 7) {y2 : jV} {i e : Int} (hQ : ∀ f q t y7, i < t → BF (dry0 w f0) s f0 f q t i 5 → AW mP_spreadFrom 29 [jR 38, jR 1, y2, jI t, jI (i + 1), jI e, jI 5, y7] [] (PW w f q) Q) (m : Nat) :
    ∀ (k : Int) (f q : Int → Int) (t : Int) (y7 : jV), (5 - k).toNat = m → 1 ≤ k → k ≤ 5 → BF (dry0 w f0) s f0 f q t i k → i < t → q i = e →
    AW mP_spreadFrom 54 [jR 38, jR 1, y2, jI t, jI i, jI e, jI k, y7] [] (PW w f q) Q := by
  induction m with
  | zero =>
    intro k f q t y7 hm h1 h5 hB hit hq
    have k5 : k = 5 := by omega
    have t67 := (sm_geI (f := f) 67).2
    have ht := hB.1
    rw [bP_spreadFrom_54, if_pos (by omega), n32s (x := i + 1) (by omega) (by omega), k5]
    rw [k5] at hB
    exact hQ f q t y7 hit hB
  | succ m ih =>
    intro k f q t y7 hm h1 h5 hB hit hq
    have t67 := (sm_geI (f := f) 67).2
    have ht := hB.1
    have jc := jcmd_in (k := k)
    have dq := hB.2.2.2.1 i ht.1.1 hit
    rw [hq] at dq
    obtain ⟨⟨e0, e67⟩, dq2, dq3, dq4⟩ := dq
    have hsk : (dry0 w f0 (e + jcmd k) → 0 ≤ f (e + jcmd k)) → AW mP_spreadFrom 54 [jR 38, jR 1, y2, jI t, jI i, jI e, jI (k + 1), jI (e + jcmd k)] [] (PW w f q) Q := by
      intro hD
      refine ih (k + 1) f q t _ (by omega) (by omega) (by omega) ?_ hit hq
      exact hB.skip hit (x := e + jcmd k) (by rw [hq]) (fun d => ⟨⟨⟨d.1.1.1, cell67 hn d.1.1⟩, d.2⟩, hD d⟩)
    rw [bP_spreadFrom_54, if_neg (by omega), if_pos (by omega), n32s (x := e + jcmd k) (by omega) (by omega), sL_isDry (by rw [PW_n (by omega)]; exact hn), bP_spreadFrom_78, jb_ite, PW_n (o := 1) (by omega), PW_n (o := 2) (by omega), n32s (x := k + 1) (by omega) (by omega), PW_39]
    by_cases c : dryB (w 1 0) (w 2) (e + jcmd k)
    · have x67 : c67 (e + jcmd k) := ⟨c.1.1, cell67 hn c.1⟩
      have x67' := x67
      unfold c67 at x67'
      rw [if_pos c, if_pos x67']
      by_cases c2 : f (e + jcmd k) = -1
      · have l := sm_lt (f := f) (x := e + jcmd k) 67 ⟨x67'.1, by omega⟩ (by omega)
        have hf0 : f0 (e + jcmd k) = -1 := by
          by_cases z : f0 (e + jcmd k) = -1
          · exact z
          · have := hB.2.2.1 _ x67 z; omega
        rw [if_pos c2, if_pos (by omega), if_pos (by omega), if_pos x67', if_pos (by omega), n32s (x := t + 1) (by omega) (by omega), n32s (x := f e + 1) (by omega) (by omega), PW_up]
        refine ih (k + 1) _ _ (t + 1) _ (by omega) (by omega) (by omega) ?_ (by omega) (by rw [up1_n (by omega)]; exact hq)
        have := hB.push hit ⟨h1, by omega⟩ (x := e + jcmd k) (by rw [hq]) ⟨c, hf0⟩ ⟨x67, hf0⟩ c2
        rw [hq] at this
        exact this
      · rw [if_neg c2]
        exact hsk (fun d => by have := hB.2.1.2.2.2 _ x67; omega)
    · rw [if_neg c]
      exact hsk (fun d => absurd d.1 c)
theorem sP_29 (hn : w 1 0 ≤ 7) {y2 : jV} (hQ : ∀ f q, SpD (dry0 w f0) s f0 f → Q (jI 0) (PW w f q)) (m : Nat) :
    ∀ (i : Int) (f q : Int → Int) (t : Int) (y5 y6 y7 : jV), (67 - i).toNat = m → BF (dry0 w f0) s f0 f q t i 1 →
    AW mP_spreadFrom 29 [jR 38, jR 1, y2, jI t, jI i, y5, y6, y7] [] (PW w f q) Q := by
  induction m with
  | zero =>
    intro i f q t y5 y6 y7 hm hB
    have t67 := (sm_geI (f := f) 67).2
    have ht := hB.1
    rw [bP_spreadFrom_29, if_neg (by omega)]
    exact hQ f q (hB.fin (by omega) (fun c d => ⟨⟨d.1.1.1, cell67 hn d.1.1⟩, d.2⟩))
  | succ m ih =>
    intro i f q t y5 y6 y7 hm hB
    have t67 := (sm_geI (f := f) 67).2
    have ht := hB.1
    rw [bP_spreadFrom_29]
    by_cases c : i < t
    · rw [if_pos c, if_pos (by omega), if_pos (by omega), PW_40]
      refine sP_54 hn (fun f' q' t' y7' hit' hB' => ?_) _ 1 f q t y7 rfl (by omega) (by omega) hB c rfl
      exact ih (i + 1) f' q' t' _ _ _ (by omega) (hB'.next hit')
    · rw [if_neg c]
      exact hQ f q (hB.fin (by omega) (fun c d => ⟨⟨d.1.1.1, cell67 hn d.1.1⟩, d.2⟩))
end BB
