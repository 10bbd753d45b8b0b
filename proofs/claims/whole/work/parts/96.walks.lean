/-! measuring, class and reference -/
section MA
variable {w v : jW} {Q : jV → jW → Prop} {s c k : Int}
/-- what the distances are in a world of the class -/
noncomputable def disW (v : jW) (s : Int) : Int → Int := dis (dryB (v 1 0) (v 2)) s
theorem sP_spread (hn : w 1 0 ≤ 7) (hs : cellB (w 1 0) s) (h0 : w 39 s = -1) (h1 : ∀ c, c67 c → -1 ≤ w 39 c) (hQ : ∀ f q, SpD (dry0 w (w 39)) s (w 39) f → Q (jI 0) (PW w f q)) :
    AW mP_spreadFrom 0 [jR 38, jR 1, jI s, jX, jX, jX, jX, jX] [] w Q := by
  have s67 : c67 s := ⟨hs.1, cell67 hn hs⟩
  have s67' := s67
  unfold c67 at s67'
  rw [bP_spreadFrom_0, sL_isCell hn, bP_spreadFrom_6, jb_ite, if_pos hs, if_pos s67', if_pos (by omega)]
  have e : jup (jup w 39 s 0) 40 0 s = PW w (up1 (w 39) s 0) (up1 (w 40) 0 s) := by
    have := PW_up (w := w) (f := w 39) (q := w 40) (x := s) (a := 0) (y := 0) (b := s)
    rw [PW_eq] at this; exact this
  rw [e]
  exact sP_29 hn hQ _ 0 _ _ 1 _ _ _ rfl (BF.init h0 s67 h1)
theorem sP_measure (hn : w 1 0 ≤ 7) (hs : cellB (w 1 0) s) (hQ : ∀ f q, Ds (dryB (w 1 0) (w 2)) s f → Q (jI 0) (PW w f q)) :
    AW mP_measureFrom 0 [jR 38, jR 1, jI s] [] w Q := by
  have e1 : jwr w 39 (cf (w 39) 0 67 (-1)) 1 = w 1 := jwr_n (by omega)
  have e2 : jwr w 39 (cf (w 39) 0 67 (-1)) 2 = w 2 := jwr_n (by omega)
  have e39 : jwr w 39 (cf (w 39) 0 67 (-1)) 39 = cf (w 39) 0 67 (-1) := jwr_s
  have N : ∀ c, c67 c → cf (w 39) 0 67 (-1) c = -1 := fun c hc => if_pos hc
  have s67 : c67 s := ⟨hs.1, cell67 hn hs⟩
  rw [bP_measureFrom_0, sJ_fill_39, bP_measureFrom_8]
  refine sP_spread (by rw [e1]; exact hn) (by rw [e1]; exact hs) (by rw [e39]; exact N s s67) (fun c hc => by rw [e39, N c hc]; omega) (fun f q h => ?_)
  rw [bP_measureFrom_14]
  have e : PW (jwr w 39 (cf (w 39) 0 67 (-1))) f q = PW w f q := by
    funext o
    by_cases a : o = 40
    · rw [a, PW_40, PW_40]
    · by_cases b : o = 39
      · rw [b, PW_39, PW_39]
      · rw [PW_n ⟨b, a⟩, PW_n ⟨b, a⟩, jwr_n b]
  rw [e]
  refine hQ f q ?_
  unfold SpD dry0 at h
  rw [e1, e2, e39] at h
  have g : ∀ c, c67 c → (if cf (w 39) 0 67 (-1) c = -1 then f c else -1) = f c := fun c hc => if_pos (N c hc)
  obtain ⟨_, a1, a2, a3, a4, a5⟩ := h
  refine ⟨fun c p => ?_, ?_, fun c p q => ?_, fun c p q => ?_, fun c d p q r t => ?_⟩
  · have := a1 c p; rw [← g c p]; exact this
  · rw [← g s s67]; exact a2
  · refine a3 c p ?_
    show (if cf (w 39) 0 67 (-1) c = -1 then f c else -1) = 0
    rw [g c p]; exact q
  · obtain ⟨b1, d, d1, d2, d3⟩ := a4 c p (by
      show 0 < (if cf (w 39) 0 67 (-1) c = -1 then f c else -1)
      rw [g c p]; exact q)
    refine ⟨b1.1, d, d1, d2, ?_⟩
    rw [← g c p, ← g d d1]; exact d3
  · have d67 : c67 d := ⟨t.1.1, cell67 hn t.1⟩
    have := a5 c d p (by
      show 0 ≤ (if cf (w 39) 0 67 (-1) c = -1 then f c else -1)
      rw [g c p]; exact q) r ⟨t, N d d67⟩
    rw [← g c p, ← g d d67]; exact this
/-- there is a measure -/
theorem Ds.ex {n : Int} {bg : Int → Int} (hn : n ≤ 7) (hs : cellB n s) : Ds (dryB n bg) s (dis (dryB n bg) s) := by
  have a := sP_measure (w := fun o => if o = 1 then (fun _ => n) else bg) (Q := fun _ u => ∃ f, Ds (dryB n bg) s f) (s := s) hn hs (fun f q h => ⟨f, h⟩)
  obtain ⟨_, _, _, _, f, h⟩ := a
  exact h.tt
def WK (D : Int → Prop) (s : Int) (g : Int → Int) (d c k : Int) : Prop :=
  (∀ e, c67 e → 0 ≤ g e ∧ g e ≤ d + 1) ∧ (g s = 1 ∧ c67 s ∧ ∀ e, c67 e → g e = 1 → e = s) ∧
  (∀ e, c67 e → 1 < g e → D e ∧ ∃ d', c67 d' ∧ adj d' e ∧ g d' = g e - 1) ∧
  (∀ e m, c67 e → 1 ≤ m → m ≤ 4 → ((1 ≤ g e ∧ g e < d) ∨ (g e = d ∧ (e < c ∨ (e = c ∧ m < k)))) → D (e + jcmd m) → 1 ≤ g (e + jcmd m) ∧ g (e + jcmd m) ≤ g e + 1)
end MA
section MC
variable {D : Int → Prop} {s c k d x : Int} {g : Int → Int}
theorem WK.init (hs : c67 s) (h : ∀ c, c67 c → g c = if c = s then 1 else 0) : WK D s g 1 0 1 ∧ ∀ e, c67 e → g e ≤ 1 := by
  refine ⟨⟨?_, ⟨?_, hs, ?_⟩, ?_, ?_⟩, ?_⟩
  · intro e he; rw [h e he]; split <;> omega
  · rw [h s hs, if_pos rfl]
  · intro e he q
    rw [h e he] at q
    by_cases z : e = s
    · exact z
    · rw [if_neg z] at q; omega
  · intro e he q
    rw [h e he] at q
    split at q <;> omega
  · intro e m he h1 h4 q
    have := he.1
    omega
  · intro e he; rw [h e he]; split <;> omega
theorem WK.day (h : WK D s g d 67 k) : WK D s g (d + 1) 0 1 ∧ ∀ e, c67 e → g e ≤ d + 1 := by
  obtain ⟨a, b, c, e⟩ := h
  refine ⟨⟨fun e he => by have := a e he; omega, b, c, ?_⟩, fun e he => (a e he).2⟩
  intro x m hx h1 h4 q hD
  refine e x m hx h1 h4 ?_ hD
  have := hx.1
  have := hx.2
  omega
theorem WK.cell (h : WK D s g d c 5) : WK D s g d (c + 1) 1 := by
  obtain ⟨a, b, c', e⟩ := h
  refine ⟨a, b, c', ?_⟩
  intro x m hx h1 h4 q hD
  exact e x m hx h1 h4 (by omega) hD
theorem WK.off (h : WK D s g d c k) (hg : g c ≠ d) : WK D s g d c (k + 1) := by
  obtain ⟨a, b, c', e⟩ := h
  refine ⟨a, b, c', ?_⟩
  intro x m hx h1 h4 q hD
  refine e x m hx h1 h4 ?_ hD
  by_cases z : x = c
  · rw [z] at q ⊢; omega
  · omega
theorem WK.skip (h : WK D s g d c k) (hD : D (c + jcmd k) → c67 (c + jcmd k) ∧ g (c + jcmd k) ≠ 0) : WK D s g d c (k + 1) := by
  obtain ⟨a, b, c', e⟩ := h
  refine ⟨a, b, c', ?_⟩
  intro x m hx h1 h4 q hDx
  by_cases z : x = c ∧ m = k ∧ g x = d
  · obtain ⟨z1, z2, z3⟩ := z
    rw [z3]
    rw [z1, z2] at hDx ⊢
    have h1 := hD hDx
    have h2 := a _ h1.1
    omega
  · exact e x m hx h1 h4 (by omega) hDx
theorem WK.push (h : WK D s g d c k) (hk : 1 ≤ k ∧ k ≤ 4) (hc : c67 c) (hd : 1 ≤ d) (hg : g c = d) (hD : D (c + jcmd k)) (h67 : c67 (c + jcmd k)) (h0 : g (c + jcmd k) = 0) : WK D s (up1 g (c + jcmd k) (d + 1)) d c (k + 1) := by
  obtain ⟨a, ⟨b1, b2, b3⟩, c', e⟩ := h
  have F : ∀ x, g x ≠ 0 → up1 g (c + jcmd k) (d + 1) x = g x := fun x hx => up1_n (fun z => hx (by rw [z]; exact h0))
  have G : ∀ x, x ≠ c + jcmd k → up1 g (c + jcmd k) (d + 1) x = g x := fun x hx => up1_n hx
  have S : up1 g (c + jcmd k) (d + 1) (c + jcmd k) = d + 1 := up1_s
  refine ⟨?_, ⟨?_, b2, ?_⟩, ?_, ?_⟩
  · intro x hx
    by_cases z : x = c + jcmd k
    · rw [z, S]; omega
    · rw [G x z]; exact a x hx
  · rw [F s (by omega)]; exact b1
  · intro x hx q
    by_cases z : x = c + jcmd k
    · rw [z, S] at q; omega
    · rw [G x z] at q; exact b3 x hx q
  · intro x hx q
    by_cases z : x = c + jcmd k
    · refine ⟨by rw [z]; exact hD, c, hc, ⟨k, hk.1, hk.2, z⟩, ?_⟩
      rw [z, S, F c (by omega)]; omega
    · rw [G x z] at q ⊢
      obtain ⟨p1, y, y1, y2, y3⟩ := c' x hx q
      exact ⟨p1, y, y1, y2, by rw [F y (by omega)]; exact y3⟩
  · intro x m hx h1 h4 q hDx
    by_cases z : x = c + jcmd k
    · rw [z, S] at q; omega
    · rw [G x z] at q ⊢
      by_cases z2 : x + jcmd m = c + jcmd k
      · rw [z2, S]
        by_cases z3 : g x = d
        · omega
        · have := e x m hx h1 h4 (by omega) hDx
          rw [z2, h0] at this; omega
      · rw [G _ z2]
        refine e x m hx h1 h4 ?_ hDx
        by_cases z4 : x = c ∧ m = k
        · exact absurd (by rw [z4.1, z4.2]) z2
        · omega
def ivI (g : Int → Int) (m e : Int) : Int := if 1 ≤ g e ∧ g e ≤ m then 1 else 0
def c7I (e : Int) : Int := if e / 10 < 7 ∧ e % 10 < 7 then 1 else 0
theorem c7I_sm : sm c7I 67 = 49 := by decide +kernel
theorem WK.chain (h : WK D s g d c k) (m : Nat) : ∀ e, c67 e → 1 ≤ g e → (m : Int) ≤ g e → (m : Int) ≤ sm (ivI g m) 67 := by
  induction m with
  | zero =>
    intro e _ _ _
    have := sm_in (f := ivI g (0 : Nat)) (lo := 0) (hi := 1) 67 (fun i _ _ => by unfold ivI; split <;> omega)
    omega
  | succ m ih =>
    have D : ∀ (j : Nat) e, c67 e → 1 ≤ g e → g e = (m : Int) + 1 + j → ∃ y, c67 y ∧ g y = (m : Int) + 1 := by
      intro j
      induction j with
      | zero => intro e he h1 h2; exact ⟨e, he, by omega⟩
      | succ j ih2 =>
        intro e he h1 h2
        obtain ⟨_, y, y1, _, y3⟩ := h.2.2.1 e he (by omega)
        exact ih2 y y1 (by omega) (by omega)
    intro e he h1 h2
    obtain ⟨y, y1, y2⟩ := D (g e - (m + 1)).toNat e he h1 (by omega)
    have a := ih e he h1 (by omega)
    have b := sm_le1 (f := ivI g m) (g := ivI g ((m + 1 : Nat) : Int)) (x := y) 67 (fun i _ _ => by unfold ivI; split <;> split <;> omega) ⟨y1.1, by have := y1.2; omega⟩ (by unfold ivI; rw [if_neg (by omega), if_pos (by omega)]; omega)
    omega
theorem WK.fin {n : Int} {bg : Int → Int} (h : WK (dryB n bg) s g 50 0 1) (hn : n ≤ 7) (hs : cellB n s) (h50 : ∀ e, c67 e → g e ≤ 50) : Ds (dryB n bg) s (fun c => g c - 1) := by
  have L : ∀ e, c67 e → g e < 50 := by
    intro e he
    by_cases z : g e < 50
    · exact z
    · have a := h.chain 50 e he (by omega) (by omega)
      have b := sm_le (f := ivI g ((50 : Nat) : Int)) (g := c7I) 67 (fun i q1 q2 => by
        unfold ivI c7I
        by_cases y : 1 ≤ g i ∧ g i ≤ ((50 : Nat) : Int)
        · have ce : cellB n i := by
            by_cases y2 : g i = 1
            · rw [h.2.1.2.2 i ⟨q1, by omega⟩ y2]; exact hs
            · exact (h.2.2.1 i ⟨q1, by omega⟩ (by omega)).1.1
          unfold cellB at ce
          rw [if_pos y, if_pos (by omega)]; omega
        · rw [if_neg y]; split <;> omega)
      rw [c7I_sm] at b
      omega
  obtain ⟨a, ⟨b1, b2, b3⟩, c', e⟩ := h
  refine ⟨fun c p => ?_, ?_, fun c p q => ?_, fun c p q => ?_, fun c d p q r t => ?_⟩
  · have := a c p
    have := L c p
    show -1 ≤ g c - 1 ∧ g c - 1 ≤ 66
    omega
  · show g s - 1 = 0
    omega
  · have q' : g c - 1 = 0 := q
    exact b3 c p (by omega)
  · have q' : 0 < g c - 1 := q
    obtain ⟨p1, y, y1, y2, y3⟩ := c' c p (by omega)
    refine ⟨p1, y, y1, y2, ?_⟩
    show g y - 1 = g c - 1 - 1
    omega
  · have q' : 0 ≤ g c - 1 := q
    obtain ⟨m, m1, m2, m3⟩ := r
    show 0 ≤ g d - 1 ∧ g d - 1 ≤ g c - 1 + 1
    have l := L c p
    rw [m3] at t ⊢
    have := e c m p m1 m2 (Or.inl ⟨by omega, l⟩) t
    omega
end MC
section MD
variable {w v : jW} {Q : jV → jW → Prop} {s : Int}
theorem jwr_jup {o : Nat} {g : Int → Int} {x y : Int} : jup (jwr w o g) o x y = jwr w o (up1 g x y) := by
  rw [jwr_up, jwr_s]
  funext p
  by_cases e : p = o
  · rw [e, jwr_s, jwr_s]
  · rw [jwr_n e, jwr_n e, jwr_n e]
theorem VM.bes {c k : Int} (h : VM w v) (hc : cellB (v 1 0) c) (hd : cellB (v 1 0) (c + jcmd k)) (hk : 1 ≤ k ∧ k ≤ 4) : AW mM_beside 0 [jR 45, jI c, jI k, jX, jX] [] w Q = Q (jI (c + jcmd k)) w := by
  have kk := h.wk
  have e := h.eq.1
  rw [sM_beside (by omega) (by rw [e]; exact hc) hk, e]
  unfold besR
  rw [if_pos hd]
theorem VM.w60 {g : Int → Int} (h : VM w v) : VM (jwr w 60 g) v := h.t (SMo.w (by omega))
theorem sM_w47 (h : VM w v) (hs : cellB (v 1 0) s) {y1 : jV} {d c : Int} (hd : 1 ≤ d ∧ d < 50) (hc : c67 c) (hQ : ∀ g y5, WK (dryB (v 1 0) (v 2)) s g d c 5 → AW mM_walks 38 [jR 45, y1, jI d, jI (c + 1), jI 5, y5] [] (jwr w 60 g) Q) (m : Nat) :
    ∀ (k : Int) (g : Int → Int) (y5 : jV), (5 - k).toNat = m → 1 ≤ k → k ≤ 5 → WK (dryB (v 1 0) (v 2)) s g d c k →
    AW mM_walks 47 [jR 45, y1, jI d, jI c, jI k, y5] [] (jwr w 60 g) Q := by
  have hn := h.wk.2.2.2
  have hc' := hc
  unfold c67 at hc'
  induction m with
  | zero =>
    intro k g y5 hm h1 h5 hW
    have k5 : k = 5 := by omega
    rw [bM_walks_47, if_neg (by omega), n32s (x := c + 1) (by omega) (by omega), k5]
    rw [k5] at hW
    exact hQ g y5 hW
  | succ m ih =>
    intro k g y5 hm h1 h5 hW
    have go := fun g y5 => ih (k + 1) g y5 (by omega) (by omega) (by omega)
    have V := h.w60 (g := g)
    rw [bM_walks_47, if_pos (by omega), if_pos hc', jwr_s, n32s (x := k + 1) (by omega) (by omega)]
    by_cases z : g c = d
    · have cc : cellB (v 1 0) c := by
        by_cases y2 : g c = 1
        · rw [hW.2.1.2.2 c hc y2]; exact hs
        · exact (hW.2.2.1 c hc (by omega)).1.1
      rw [if_pos z, V.can cc ⟨by omega, by omega⟩, bM_walks_70, jb_ite, n32s (x := k + 1) (by omega) (by omega)]
      by_cases b : canB v c k
      · have D : dryB (v 1 0) (v 2) (c + jcmd k) := b.elim (fun t => absurd t (by omega)) id
        have x67 : c67 (c + jcmd k) := ⟨D.1.1, cell67 hn D.1⟩
        have x67' := x67
        unfold c67 at x67'
        rw [if_pos b, V.bes cc D.1 ⟨by omega, by omega⟩, bM_walks_83, if_pos x67', jwr_s, n32s (x := k + 1) (by omega) (by omega), n32s (x := d + 1) (by omega) (by omega)]
        by_cases z2 : g (c + jcmd k) = 0
        · rw [if_pos z2, if_pos x67', jwr_jup]
          exact go _ _ (hW.push ⟨h1, by omega⟩ hc hd.1 z D x67 z2)
        · rw [if_neg z2]
          exact go _ _ (hW.skip (fun _ => ⟨x67, z2⟩))
      · rw [if_neg b]
        exact go _ _ (hW.skip (fun t => absurd (Or.inr t) b))
    · rw [if_neg z]
      exact go _ _ (hW.off z)
theorem sM_w38 (h : VM w v) (hs : cellB (v 1 0) s) {y1 : jV} {d : Int} (hd : 1 ≤ d ∧ d < 50) (hQ : ∀ g y3 y4 y5, WK (dryB (v 1 0) (v 2)) s g d 67 1 → AW mM_walks 30 [jR 45, y1, jI (d + 1), y3, y4, y5] [] (jwr w 60 g) Q) (m : Nat) :
    ∀ (c : Int) (g : Int → Int) (y4 y5 : jV), (67 - c).toNat = m → 0 ≤ c → c ≤ 67 → WK (dryB (v 1 0) (v 2)) s g d c 1 →
    AW mM_walks 38 [jR 45, y1, jI d, jI c, y4, y5] [] (jwr w 60 g) Q := by
  induction m with
  | zero =>
    intro c g y4 y5 hm h1 h5 hW
    have c6 : c = 67 := by omega
    rw [bM_walks_38, if_neg (by omega), n32s (x := d + 1) (by omega) (by omega)]
    rw [c6] at hW
    exact hQ g _ _ _ hW
  | succ m ih =>
    intro c g y4 y5 hm h1 h5 hW
    rw [bM_walks_38, if_pos (by omega)]
    refine sM_w47 h hs hd ⟨h1, by omega⟩ (fun g' y5' hW' => ?_) _ 1 g y5 rfl (by omega) (by omega) hW
    exact ih (c + 1) g' _ _ (by omega) (by omega) (by omega) hW'.cell
theorem sM_w30 (h : VM w v) (hs : cellB (v 1 0) s) {y1 : jV} (hQ : ∀ g, Ds (dryB (v 1 0) (v 2)) s (fun c => g c - 1) → Q (jI 0) (jwr w 60 g)) (m : Nat) :
    ∀ (d : Int) (g : Int → Int) (y3 y4 y5 : jV), (50 - d).toNat = m → 1 ≤ d → d ≤ 50 → WK (dryB (v 1 0) (v 2)) s g d 0 1 → (∀ e, c67 e → g e ≤ d) →
    AW mM_walks 30 [jR 45, y1, jI d, y3, y4, y5] [] (jwr w 60 g) Q := by
  induction m with
  | zero =>
    intro d g y3 y4 y5 hm h1 h5 hW hb
    have d5 : d = 50 := by omega
    rw [bM_walks_30, if_neg (by omega)]
    rw [d5] at hW hb
    exact hQ g (hW.fin h.wk.2.2.2 hs hb)
  | succ m ih =>
    intro d g y3 y4 y5 hm h1 h5 hW hb
    rw [bM_walks_30, if_pos (by omega)]
    refine sM_w38 h hs ⟨h1, by omega⟩ (fun g' y3' y4' y5' hW' => ?_) _ 0 g y4 y5 rfl (by omega) (by omega) hW
    exact ih (d + 1) g' _ _ _ (by omega) (by omega) (by omega) hW'.day.1 hW'.day.2
theorem sM_w2 (hs : c67 s) {y3 y4 y5 : jV} (hQ : ∀ g, (∀ c, c67 c → g c = if c = s then 1 else 0) → AW mM_walks 30 [jR 45, jI s, jI 1, y3, y4, y5] [] (jwr w 60 g) Q) (m : Nat) :
    ∀ (k : Int) (g : Int → Int), (67 - k).toNat = m → 0 ≤ k → k ≤ 67 → (∀ c, 0 ≤ c → c < k → g c = 0) →
    AW mM_walks 2 [jR 45, jI s, jI k, y3, y4, y5] [] (jwr w 60 g) Q := by
  have hs' := hs
  unfold c67 at hs'
  induction m with
  | zero =>
    intro k g hm h1 h5 hg
    rw [bM_walks_2, if_neg (by omega), if_pos hs', jwr_jup]
    refine hQ _ (fun c hc => ?_)
    by_cases e : c = s
    · rw [if_pos e, e, up1_s]
    · rw [if_neg e, up1_n e]; exact hg c hc.1 (by have := hc.2; omega)
  | succ m ih =>
    intro k g hm h1 h5 hg
    rw [bM_walks_2, if_pos (by omega), if_pos (by omega), n32s (x := k + 1) (by omega) (by omega), jwr_jup]
    refine ih (k + 1) _ (by omega) (by omega) (by omega) (fun c p q => ?_)
    by_cases e : c = k
    · rw [e, up1_s]
    · rw [up1_n e]; exact hg c p (by omega)
theorem VM.walks (h : VM w v) (hs : cellB (v 1 0) s) (hQ : ∀ g, Ds (dryB (v 1 0) (v 2)) s (fun c => g c - 1) → Q (jI 0) (jwr w 60 g)) :
    AW mM_walks 0 [jR 45, jI s, jX, jX, jX, jX] [] w Q := by
  have s67 : c67 s := ⟨hs.1, cell67 h.wk.2.2.2 hs⟩
  rw [bM_walks_0]
  have e : jwr w 60 (w 60) = w := jwr_e rfl
  rw [← e]
  refine sM_w2 s67 (fun g hg => ?_) _ 0 _ rfl (by omega) (by omega) (fun c p q => by omega)
  have i := WK.init (D := dryB (v 1 0) (v 2)) s67 hg
  exact sM_w30 h hs hQ _ 1 g _ _ _ rfl (by omega) (by omega) i.1 i.2
theorem VM.pathOf {t : Int} (h : VM w v) (hs : cellB (v 1 0) s) (ht : c67 t) (hQ : ∀ g, Q (jI (disW v s t)) (jwr w 60 g)) :
    AW mM_pathOf 0 [jR 45, jI s, jI t] [] w Q := by
  rw [bM_pathOf_0]
  refine h.walks hs (fun g hg => ?_)
  have ht' := ht
  unfold c67 at ht'
  have e := hg.dq ht
  have e1 := hg.1 t ht
  have e2 := Ds.ex (bg := v 2) h.wk.2.2.2 hs
  have e' : g t - 1 = disW v s t := e
  have b : -1 ≤ g t - 1 ∧ g t - 1 ≤ 66 := e1
  rw [bM_pathOf_5, if_pos ht', jwr_s, n32s (x := g t - 1) (by omega) (by omega), e']
  exact hQ g
/-- the class's measuring -/
theorem OKC.measure (h : OKC w) (hs : cellB (w 1 0) s) (hQ : ∀ f q, (∀ c, c67 c → f c = disW w s c) → Q (jI 0) (PW w f q)) :
    AW mP_measureFrom 0 [jR 38, jR 1, jI s] [] w Q := by
  refine sP_measure h.1.1.2 hs (fun f q hf => hQ f q (fun c hc => hf.dq hc))
theorem sP_stepsTo {x : Int} : AW mP_stepsTo 0 [jR 38, jL x, jX] [] w Q = Q (jI (if 0 ≤ x ∧ x < 67 then w 39 x else -1)) w := by
  rw [bP_stepsTo_0]
  simp only [lc1]
  by_cases a : x < 0
  · rw [if_pos a, if_neg (by omega)]
  · rw [if_neg a]
    by_cases b : x < 67
    · rw [if_pos b, n32s (x := x) (by omega) (by omega), if_pos (by omega), if_pos (by omega)]
    · rw [if_neg b, if_neg (by omega)]
theorem disW_ds {v : jW} (hn : v 1 0 ≤ 7) (hs : cellB (v 1 0) s) : Ds (dryB (v 1 0) (v 2)) s (disW v s) := Ds.ex hn hs
theorem disW_sym {v : jW} {t : Int} (hn : v 1 0 ≤ 7) (hs : dryB (v 1 0) (v 2) s) (ht : dryB (v 1 0) (v 2) t) : disW v s t = disW v t s :=
  Ds.sym (disW_ds hn hs.1) (disW_ds hn ht.1) hs ht ⟨hs.1.1, cell67 hn hs.1⟩ ⟨ht.1.1, cell67 hn ht.1⟩
end MD
