/-! dry cells by rank; groups and their labels -/
def dryI (v : jW) (c : Int) : Int := if dryB (v 1 0) (v 2) c then 1 else 0
theorem dryI_in {v : jW} {c : Int} : 0 ≤ dryI v c ∧ dryI v c ≤ 1 := by unfold dryI; split <;> omega
def rk (v : jW) (c : Int) : Int := sm (dryI v) c.toNat
section RA
variable {v : jW} {a b c k : Int}
theorem rk_s (h : 0 ≤ c) : rk v (c + 1) = rk v c + dryI v c := by
  unfold rk
  rw [show (c + 1).toNat = c.toNat + 1 by omega, sm_s, show ((c.toNat : Nat) : Int) = c by omega]
theorem rk_in (h : 0 ≤ c) : 0 ≤ rk v c ∧ rk v c ≤ c := by
  have := sm_in (f := dryI v) (lo := 0) (hi := 1) c.toNat (fun _ _ _ => dryI_in)
  unfold rk
  omega
theorem rk_le (m : Nat) : ∀ b : Int, 0 ≤ a → b = a + (m : Int) → rk v a ≤ rk v b := by
  induction m with
  | zero => intro b _ h; rw [show b = a by omega]; exact Int.le_refl _
  | succ m ih =>
    intro b h0 h
    have x := ih (b - 1) h0 (by omega)
    have y := rk_s (v := v) (c := b - 1) (by omega)
    have z := dryI_in (v := v) (c := b - 1)
    rw [show b - 1 + 1 = b by omega] at y
    omega
theorem rk_mono (h0 : 0 ≤ a) (h : a ≤ b) : rk v a ≤ rk v b := rk_le (b - a).toNat b h0 (by omega)
theorem rk_lt (h : dryB (v 1 0) (v 2) a) (hb : a < b) : rk v a < rk v b := by
  have h0 := h.1.1
  have x := rk_mono (v := v) (a := a + 1) (b := b) (by omega) (by omega)
  have y := rk_s (v := v) h0
  rw [show dryI v a = 1 from if_pos h] at y
  omega
theorem rk_inj (ha : dryB (v 1 0) (v 2) a) (hb : dryB (v 1 0) (v 2) b) (h : rk v a = rk v b) : a = b := by
  by_cases q : a < b
  · have := rk_lt ha q; omega
  · by_cases q2 : b < a
    · have := rk_lt hb q2; omega
    · omega
theorem rk_67 (hn : v 1 0 ≤ 7) : rk v 67 ≤ 49 := by
  have x := sm_le (f := dryI v) (g := c7I) 67 (fun i q1 q2 => by
    unfold dryI c7I
    by_cases y : dryB (v 1 0) (v 2) i
    · have ce := y.1
      unfold cellB at ce
      rw [if_pos y, if_pos (by omega)]; omega
    · rw [if_neg y]; split <;> omega)
  rw [c7I_sm] at x
  exact x
theorem rk_49 (hn : v 1 0 ≤ 7) (h : dryB (v 1 0) (v 2) c) : 0 ≤ rk v c ∧ rk v c < rk v 67 ∧ rk v c < 49 := by
  have a := rk_lt h (b := 67) (cell67 hn h.1)
  have b := rk_67 (v := v) hn
  have d := rk_in (v := v) h.1.1
  omega
theorem rk_sur (hn : v 1 0 ≤ 7) (m : Nat) : ∀ k, 0 ≤ k → k < rk v (m : Int) → ∃ c, (0 ≤ c ∧ c < (m : Int)) ∧ dryB (v 1 0) (v 2) c ∧ rk v c = k := by
  induction m with
  | zero =>
    intro k h0 h1
    have : rk v ((0 : Nat) : Int) = 0 := rfl
    omega
  | succ m ih =>
    intro k h0 h1
    have y := rk_s (v := v) (c := (m : Int)) (by omega)
    rw [show ((m + 1 : Nat) : Int) = (m : Int) + 1 by omega, y] at h1
    by_cases q : k < rk v (m : Int)
    · obtain ⟨c, c1, c2, c3⟩ := ih k h0 q
      exact ⟨c, ⟨c1.1, by omega⟩, c2, c3⟩
    · by_cases d : dryB (v 1 0) (v 2) (m : Int)
      · rw [show dryI v (m : Int) = 1 from if_pos d] at h1
        exact ⟨m, ⟨by omega, by omega⟩, d, by omega⟩
      · rw [show dryI v (m : Int) = 0 from if_neg d] at h1
        omega
/-- sums over cells and over places -/
theorem sm_rk {f h : Int → Int} (hd : ∀ c, 0 ≤ c → dryB (v 1 0) (v 2) c → f c = h (rk v c)) (hw : ∀ c, 0 ≤ c → ¬ dryB (v 1 0) (v 2) c → f c = 0) (m : Nat) : sm f m = sm h (rk v (m : Int)).toNat := by
  induction m with
  | zero => rfl
  | succ m ih =>
    have y := rk_s (v := v) (c := (m : Int)) (by omega)
    have i := rk_in (v := v) (c := (m : Int)) (by omega)
    rw [sm_s, ih, show ((m + 1 : Nat) : Int) = (m : Int) + 1 by omega, y]
    by_cases d : dryB (v 1 0) (v 2) (m : Int)
    · rw [show dryI v (m : Int) = 1 from if_pos d, hd _ (by omega) d, show (rk v (m : Int) + 1).toNat = (rk v (m : Int)).toNat + 1 by omega, sm_s, show (((rk v (m : Int)).toNat : Nat) : Int) = rk v (m : Int) by omega]
    · rw [show dryI v (m : Int) = 0 from if_neg d, hw _ (by omega) d, Int.add_zero, Int.add_zero]
end RA
/-- the first of its group -/
def Fst (D : Int → Prop) (E : Int → Int → Prop) (c : Int) : Prop := D c ∧ ∀ d, 0 ≤ d → d < c → D d → ¬ E c d
noncomputable def fI (D : Int → Prop) (E : Int → Int → Prop) (c : Int) : Int := @ite _ (Fst D E c) (Classical.propDecidable _) 1 0
def Eqv (E : Int → Int → Prop) : Prop := (∀ a, E a a) ∧ (∀ a b, E a b → E b a) ∧ ∀ a b c, E a b → E b c → E a c
/-- labels of those below m -/
def LbP (D : Int → Prop) (E : Int → Int → Prop) (g : Int → Int) (m : Int) : Prop :=
  (∀ c d, (0 ≤ c ∧ c < m) → (0 ≤ d ∧ d < m) → D c → D d → (g c = g d ↔ E c d)) ∧
  (∀ c, (0 ≤ c ∧ c < m) → Fst D E c → g c = sm (fI D E) c.toNat) ∧
  (∀ c, (0 ≤ c ∧ c < m) → D c → 0 ≤ g c ∧ g c < sm (fI D E) m.toNat)
section LA
variable {D : Int → Prop} {E : Int → Int → Prop} {g g' : Int → Int} {m c d : Int}
theorem fI_y (h : Fst D E c) : fI D E c = 1 := by unfold fI; exact if_pos h
theorem fI_n (h : ¬ Fst D E c) : fI D E c = 0 := by unfold fI; exact if_neg h
theorem fI_in : 0 ≤ fI D E c ∧ fI D E c ≤ 1 := by
  by_cases h : Fst D E c
  · rw [fI_y h]; omega
  · rw [fI_n h]; omega
theorem sm_fI (m : Nat) : 0 ≤ sm (fI D E) m ∧ sm (fI D E) m ≤ m := by
  have := sm_in (f := fI D E) (lo := 0) (hi := 1) m (fun _ _ _ => fI_in)
  omega
theorem sm_fs (h : 0 ≤ m) : sm (fI D E) (m + 1).toNat = sm (fI D E) m.toNat + fI D E m := by
  rw [show (m + 1).toNat = m.toNat + 1 by omega, sm_s, show ((m.toNat : Nat) : Int) = m by omega]
theorem LbP.nil : LbP D E g 0 := ⟨fun c d h => by omega, fun c h => by omega, fun c h => by omega⟩
theorem LbP.skip (h : LbP D E g m) (h0 : 0 ≤ m) (hD : ¬ D m) : LbP D E g (m + 1) ∧ sm (fI D E) (m + 1).toNat = sm (fI D E) m.toNat := by
  have s := sm_fs (D := D) (E := E) h0
  rw [fI_n (fun t => hD t.1), Int.add_zero] at s
  have N : ∀ c, (0 ≤ c ∧ c < m + 1) → D c → 0 ≤ c ∧ c < m := by
    intro c hc hd
    by_cases e : c = m
    · rw [e] at hd; exact absurd hd hD
    · omega
  refine ⟨⟨fun c d hc hd p q => h.1 c d (N c hc p) (N d hd q) p q, fun c hc p => h.2.1 c (N c hc p.1) p, fun c hc p => ?_⟩, s⟩
  rw [s]; exact h.2.2 c (N c hc p) p
theorem LbP.first (h : LbP D E g m) (h0 : 0 ≤ m) (hE : Eqv E) (hF : Fst D E m) : LbP D E (up1 g m (sm (fI D E) m.toNat)) (m + 1) ∧ sm (fI D E) (m + 1).toNat = sm (fI D E) m.toNat + 1 := by
  have s := sm_fs (D := D) (E := E) h0
  rw [fI_y hF] at s
  have U : ∀ c, c ≠ m → up1 g m (sm (fI D E) m.toNat) c = g c := fun c hc => up1_n hc
  have S : up1 g m (sm (fI D E) m.toNat) m = sm (fI D E) m.toNat := up1_s
  refine ⟨⟨fun c d hc hd p q => ?_, fun c hc p => ?_, fun c hc p => ?_⟩, s⟩
  · by_cases e : c = m
    · by_cases e2 : d = m
      · rw [e, e2]; exact ⟨fun _ => hE.1 m, fun _ => rfl⟩
      · rw [e, S, U d e2]
        have a := h.2.2 d (by omega) q
        have b := hF.2 d hd.1 (by omega) q
        exact ⟨fun t => by omega, fun t => absurd t b⟩
    · by_cases e2 : d = m
      · rw [e2, S, U c e]
        have a := h.2.2 c (by omega) p
        have b := hF.2 c hc.1 (by omega) p
        exact ⟨fun t => by omega, fun t => absurd (hE.2.1 _ _ t) b⟩
      · rw [U c e, U d e2]; exact h.1 c d (by omega) (by omega) p q
  · by_cases e : c = m
    · rw [e, S]
    · rw [U c e]; exact h.2.1 c (by omega) p
  · rw [s]
    by_cases e : c = m
    · have := sm_fI (D := D) (E := E) m.toNat
      rw [e, S]; omega
    · have := h.2.2 c (by omega) p
      rw [U c e]; omega
theorem LbP.join (h : LbP D E g m) (h0 : 0 ≤ m) (hE : Eqv E) (hd : 0 ≤ d ∧ d < m) (hD : D d) (hM : E m d) : LbP D E (up1 g m (g d)) (m + 1) ∧ sm (fI D E) (m + 1).toNat = sm (fI D E) m.toNat := by
  have s := sm_fs (D := D) (E := E) h0
  have nF : ¬ Fst D E m := fun t => t.2 d hd.1 hd.2 hD hM
  rw [fI_n nF, Int.add_zero] at s
  have U : ∀ c, c ≠ m → up1 g m (g d) c = g c := fun c hc => up1_n hc
  have S : up1 g m (g d) m = g d := up1_s
  refine ⟨⟨fun a b ha hb p q => ?_, fun c hc p => ?_, fun c hc p => ?_⟩, s⟩
  · by_cases e : a = m
    · by_cases e2 : b = m
      · rw [e, e2]; exact ⟨fun _ => hE.1 m, fun _ => rfl⟩
      · rw [e, S, U b e2, h.1 d b hd (by omega) hD q]
        exact ⟨fun t => hE.2.2 _ _ _ hM t, fun t => hE.2.2 _ _ _ (hE.2.1 _ _ hM) t⟩
    · by_cases e2 : b = m
      · rw [e2, S, U a e, h.1 a d (by omega) hd p hD]
        exact ⟨fun t => hE.2.2 _ _ _ t (hE.2.1 _ _ hM), fun t => hE.2.2 _ _ _ t hM⟩
      · rw [U a e, U b e2]; exact h.1 a b (by omega) (by omega) p q
  · by_cases e : c = m
    · rw [e] at p; exact absurd p nF
    · rw [U c e]; exact h.2.1 c (by omega) p
  · rw [s]
    by_cases e : c = m
    · rw [e, S]; exact h.2.2 d hd hD
    · rw [U c e]; exact h.2.2 c (by omega) p
/-- labels are what they are -/
theorem LbP.eq (h : LbP D E g m) (h' : LbP D E g' m) (n : Nat) : ∀ c, c < (n : Int) → (0 ≤ c ∧ c < m) → D c → g c = g' c := by
  induction n with
  | zero => intro c h1 h2; omega
  | succ n ih =>
    intro c h1 h2 hD
    by_cases q : Fst D E c
    · rw [h.2.1 c h2 q, h'.2.1 c h2 q]
    · have : ∃ d, 0 ≤ d ∧ d < c ∧ D d ∧ E c d := by
        refine Classical.byContradiction (fun z => q ⟨hD, fun d p1 p2 p3 p4 => z ⟨d, p1, p2, p3, p4⟩⟩)
      obtain ⟨d, d1, d2, d3, d4⟩ := this
      have a := (h.1 c d h2 ⟨d1, by omega⟩ hD d3).mpr d4
      have b := (h'.1 c d h2 ⟨d1, by omega⟩ hD d3).mpr d4
      rw [a, b]
      exact ih d (by omega) ⟨d1, by omega⟩ d3
theorem fI_cg {E' : Int → Int → Prop} (h : ∀ a b, D a → D b → (E a b ↔ E' a b)) : fI D E = fI D E' := by
  funext c
  by_cases q : Fst D E c
  · rw [fI_y q, fI_y ⟨q.1, fun d p1 p2 p3 p4 => q.2 d p1 p2 p3 ((h _ _ q.1 p3).mpr p4)⟩]
  · rw [fI_n q, fI_n (fun t => q ⟨t.1, fun d p1 p2 p3 p4 => t.2 d p1 p2 p3 ((h _ _ t.1 p3).mp p4)⟩)]
theorem LbP.cg {E' : Int → Int → Prop} (h : LbP D E g m) (e : ∀ a b, D a → D b → (E a b ↔ E' a b)) : LbP D E' g m := by
  have f := fI_cg (D := D) (E := E) (E' := E') e
  refine ⟨fun c d hc hd p q => (h.1 c d hc hd p q).trans (e c d p q), fun c hc p => ?_, fun c hc p => ?_⟩
  · rw [← f]
    exact h.2.1 c hc ⟨p.1, fun d p1 p2 p3 p4 => p.2 d p1 p2 p3 ((e _ _ p.1 p3).mp p4)⟩
  · rw [← f]; exact h.2.2 c hc p
end LA
/-- labels of places are labels of cells -/
theorem LbP.cells {v : jW} {E E' : Int → Int → Prop} {g : Int → Int} (hn : v 1 0 ≤ 7) (h : LbP (fun k => 0 ≤ k ∧ k < rk v 67) E' g (rk v 67)) (hE : ∀ c d, dryB (v 1 0) (v 2) c → dryB (v 1 0) (v 2) d → (E c d ↔ E' (rk v c) (rk v d))) :
    LbP (dryB (v 1 0) (v 2)) E (fun c => g (rk v c)) 67 ∧ sm (fI (dryB (v 1 0) (v 2)) E) 67 = sm (fI (fun k => 0 ≤ k ∧ k < rk v 67) E') (rk v 67).toNat := by
  have R := fun c (hc : dryB (v 1 0) (v 2) c) => rk_49 hn hc
  have FF : ∀ c, dryB (v 1 0) (v 2) c → (Fst (dryB (v 1 0) (v 2)) E c ↔ Fst (fun k => 0 ≤ k ∧ k < rk v 67) E' (rk v c)) := by
    intro c hc
    constructor
    · intro t
      refine ⟨⟨(R c hc).1, (R c hc).2.1⟩, fun k p1 p2 p3 p4 => ?_⟩
      obtain ⟨d, d1, d2, d3⟩ := rk_sur (v := v) hn 67 k p3.1 p3.2
      have dc : d < c := by
        by_cases q : d < c
        · exact q
        · have := rk_mono (v := v) (a := c) (b := d) hc.1.1 (by omega)
          omega
      rw [← d3] at p4
      exact t.2 d d1.1 dc d2 ((hE c d hc d2).mpr p4)
    · intro t
      refine ⟨hc, fun d p1 p2 p3 p4 => ?_⟩
      have := rk_lt p3 p2
      exact t.2 (rk v d) (R d p3).1 this ⟨(R d p3).1, (R d p3).2.1⟩ ((hE c d hc p3).mp p4)
  have SS : ∀ m : Nat, sm (fI (dryB (v 1 0) (v 2)) E) m = sm (fI (fun k => 0 ≤ k ∧ k < rk v 67) E') (rk v (m : Int)).toNat := by
    intro m
    refine sm_rk (v := v) (fun c _ hc => ?_) (fun c _ hc => fI_n (fun t => hc t.1)) m
    by_cases q : Fst (dryB (v 1 0) (v 2)) E c
    · rw [fI_y q, fI_y ((FF c hc).mp q)]
    · rw [fI_n q, fI_n (fun t => q ((FF c hc).mpr t))]
  refine ⟨⟨fun c d hc hd p q => ?_, fun c hc p => ?_, fun c hc p => ?_⟩, SS 67⟩
  · have rc := R c p
    have rd := R d q
    exact (h.1 (rk v c) (rk v d) ⟨rc.1, rc.2.1⟩ ⟨rd.1, rd.2.1⟩ ⟨rc.1, rc.2.1⟩ ⟨rd.1, rd.2.1⟩).trans (hE c d p q).symm
  · have rc := R c p.1
    show g (rk v c) = _
    rw [h.2.1 (rk v c) ⟨rc.1, rc.2.1⟩ ((FF c p.1).mp p), SS c.toNat, show ((c.toNat : Nat) : Int) = c by omega]
  · have rc := R c p
    have := h.2.2 (rk v c) ⟨rc.1, rc.2.1⟩ ⟨rc.1, rc.2.1⟩
    show 0 ≤ g (rk v c) ∧ g (rk v c) < sm (fI (dryB (v 1 0) (v 2)) E) (67 : Int).toNat
    rw [SS (67 : Int).toNat]
    exact this
