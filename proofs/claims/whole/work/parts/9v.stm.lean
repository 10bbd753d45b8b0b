/-! statements, the class -/
section LB
variable {n home posts walkers c k a s : Int} {bg kd ow ce wc ws : Int → Int}
theorem LOk.side {n' : Int} (h : LOk n home posts walkers bg kd ow ce wc ws) (h1 : n ≤ n') (h2 : n' ≤ 7) : LOk n' home posts walkers bg kd ow ce wc ws := by
  obtain ⟨a, ⟨b, b'⟩, c, d, e, f, g⟩ := h
  refine ⟨⟨by omega, h2⟩, ⟨⟨b.1, by omega, by omega⟩, b'⟩, c, d, e, fun p q1 q2 => ?_, fun p q1 q2 => ?_⟩
  · obtain ⟨f1, f2, f3⟩ := f p q1 q2
    exact ⟨f1, f2, f3.1, by omega, by omega⟩
  · obtain ⟨⟨g1, g2⟩, g3⟩ := g p q1 q2
    exact ⟨⟨⟨g1.1, by omega, by omega⟩, g2⟩, g3⟩
theorem LOk.bog1 (h : LOk n home posts walkers bg kd ow ce wc ws) (h1 : c ≠ home) (h2 : ¬ Any wc 0 walkers c) : LOk n home posts walkers (up1 bg c 1) kd ow ce wc ws := by
  obtain ⟨a, ⟨b, b'⟩, c', d, e, f, g⟩ := h
  refine ⟨a, ⟨b, by rw [up1_n (fun t => h1 t.symm)]; exact b'⟩, c', d, fun x q1 q2 => ?_, f, fun p q1 q2 => ?_⟩
  · by_cases z : x = c
    · rw [z, up1_s]; omega
    · rw [up1_n z]; exact e x q1 q2
  · obtain ⟨⟨g1, g2⟩, g3⟩ := g p q1 q2
    refine ⟨⟨g1, ?_⟩, g3⟩
    rw [up1_n (fun t => h2 ⟨p, q1, q2, t⟩)]; exact g2
theorem LOk.bog0 (h : LOk n home posts walkers bg kd ow ce wc ws) : LOk n home posts walkers (up1 bg c 0) kd ow ce wc ws := by
  obtain ⟨a, ⟨b, b'⟩, c', d, e, f, g⟩ := h
  have Z : ∀ x, bg x = 0 → up1 bg c 0 x = 0 := by
    intro x hx
    unfold up1
    split
    · rfl
    · exact hx
  refine ⟨a, ⟨b, Z _ b'⟩, c', d, fun x q1 q2 => ?_, f, fun p q1 q2 => ?_⟩
  · by_cases z : x = c
    · rw [z, up1_s]; omega
    · rw [up1_n z]; exact e x q1 q2
  · obtain ⟨⟨g1, g2⟩, g3⟩ := g p q1 q2
    exact ⟨⟨g1, Z _ g2⟩, g3⟩
theorem LOk.hm (h : LOk n home posts walkers bg kd ow ce wc ws) (h1 : dryB n bg c) : LOk n c posts walkers bg kd ow ce wc ws := ⟨h.1, h1, h.2.2⟩
theorem LOk.post (h : LOk n home posts walkers bg kd ow ce wc ws) (hp : posts < 8) (hk : 0 ≤ k ∧ k < 6) (ha : 0 ≤ a ∧ a ≤ 9) (hc : cellB n c) : LOk n home (posts + 1) walkers bg (up1 kd posts k) (up1 ow posts a) (up1 ce posts c) wc ws := by
  obtain ⟨a', b, c', d, e, f, g⟩ := h
  refine ⟨a', b, by omega, d, e, fun p q1 q2 => ?_, g⟩
  by_cases z : p = posts
  · rw [z, up1_s, up1_s, up1_s]; exact ⟨by omega, ha, hc⟩
  · rw [up1_n z, up1_n z, up1_n z]; exact f p q1 (by omega)
theorem LOk.walker (h : LOk n home posts walkers bg kd ow ce wc ws) (hp : walkers < 4) (hc : dryB n bg c) (hs : 0 ≤ s ∧ s ≤ 9) : LOk n home posts (walkers + 1) bg kd ow ce (up1 wc walkers c) (up1 ws walkers s) := by
  obtain ⟨a', b, c', d, e, f, g⟩ := h
  refine ⟨a', b, c', by omega, e, f, fun p q1 q2 => ?_⟩
  by_cases z : p = walkers
  · rw [z, up1_s, up1_s]; exact ⟨hc, hs⟩
  · rw [up1_n z, up1_n z]; exact g p q1 (by omega)
end LB
def tok (v : jW) : jW := tkW v (tkS (v 27) (v 26 0) (v 26 2)) (tkE (v 27) (v 26 0) (v 26 2))
def num (v : jW) : Int := nuV (v 27) (v 26 0) (v 26 1) (v 26 2)
def TO (v : jW) : Prop := (0 ≤ v 26 0 ∧ v 26 0 ≤ 250) ∧ 0 ≤ v 26 2 ∧ v 26 2 ≤ v 26 0
def TT (v : jW) : Prop := TO v ∧ 0 ≤ v 26 1 ∧ v 26 1 ≤ v 26 2
def DOk (v : jW) : Prop := LOk (v 15 0) (v 15 1) (v 15 3) (v 15 4) (v 16) (v 17) (v 18) (v 19) (v 20) (v 21)
def CF (v u : jW) : Prop := (∀ o, (o < 15 ∨ 21 < o) → o ≠ 26 → u o = v o) ∧ u 26 0 = v 26 0 ∧ v 26 2 ≤ u 26 2
section VA
variable {w u v : jW} {Q : jV → jW → Prop} {K c k a s x : Int}
theorem tok_n {o : Nat} (h : o ≠ 26) : tok v o = v o := tkW_n h
theorem tok_0 : tok v 26 0 = v 26 0 := tkW_0
theorem tok_1 : tok v 26 1 = tkS (v 27) (v 26 0) (v 26 2) := tkW_1
theorem tok_2 : tok v 26 2 = tkE (v 27) (v 26 0) (v 26 2) := tkW_2
theorem tok_num : num (tok v) = nuV (v 27) (v 26 0) (tkS (v 27) (v 26 0) (v 26 2)) (tkE (v 27) (v 26 0) (v 26 2)) := by unfold num; rw [tok_1, tok_2, tok_0, tok_n (by omega)]
theorem TO.tok (h : TO v) : TT (tok v) ∧ CF v (tok v) ∧ (tok v 26 1 < v 26 0 → v 26 2 < tok v 26 2) := by
  have a := tkS_in (b := v 27) h.2.2
  have b := tkE_in (b := v 27) h.2.2
  have h1 := h.1
  have h2 := h.2
  refine ⟨⟨⟨by rw [tok_0]; exact h1, by rw [tok_2]; omega, by rw [tok_2, tok_0]; omega⟩, by rw [tok_1]; omega, by rw [tok_1, tok_2]; omega⟩, ⟨fun o _ q => tok_n q, tok_0, by rw [tok_2]; omega⟩, ?_⟩
  rw [tok_1, tok_2]
  intro t
  omega
theorem DOk.tok (h : DOk v) : DOk (tok v) := by
  unfold DOk at h ⊢
  simp (disch := omega) only [tok_n]
  exact h
theorem CF.t {a b c : jW} (h : CF a b) (h' : CF b c) : CF a c := ⟨fun o p q => (h'.1 o p q).trans (h.1 o p q), h'.2.1.trans h.2.1, Int.le_trans h.2.2 h'.2.2⟩
theorem CF.j {o : Nat} {k x : Int} (h : CF v u) (ho : 15 ≤ o ∧ o ≤ 21) : CF v (jup u o k x) := ⟨fun p q r => by rw [jupn (by omega)]; exact h.1 p q r, by rw [jupn (by omega)]; exact h.2.1, by rw [jupn (by omega)]; exact h.2.2⟩
theorem TT.j {o : Nat} {k x : Int} (h : TT u) (ho : o ≠ 26) : TT (jup u o k x) := by
  unfold TT TO at h ⊢
  rw [jupn (fun t => ho t.symm)]
  exact h
theorem sT_num (h : TO w) : AW mT_takeNumber 0 [jR 26, jX, jX] [] w Q = Q (jI (num (tok w))) (tok w) := by
  rw [sT_number h.1 h.2, tok_num]
  rfl
end VA
abbrev noBog (u : jW) (c : Int) : Prop := c = u 15 1 ∨ Any (u 20) 0 (u 15 4) c
def adP (u : jW) (k a c : Int) : jW := jup (jup (jup (jup u 17 (u 15 3) k) 18 (u 15 3) a) 19 (u 15 3) c) 15 3 (u 15 3 + 1)
def adW (u : jW) (c s : Int) : jW := jup (jup (jup u 20 (u 15 4) c) 21 (u 15 4) s) 15 4 (u 15 4 + 1)
def sdR (u : jW) : Int × jW := if 3 ≤ num u ∧ u 15 0 ≤ num u ∧ num u ≤ 7 then (1, jup u 15 0 (num u)) else (0, u)
noncomputable def boR (u : jW) : Int × jW := @ite _ (cellB (u 15 0) (num u) ∧ ¬ noBog u (num u)) (Classical.propDecidable _) (1, jup u 16 (num u) 1) (0, u)
def drR (u : jW) : Int × jW := if cellB (u 15 0) (num u) then (1, jup u 16 (num u) 0) else (0, u)
def hoR (u : jW) : Int × jW := if dryB (u 15 0) (u 16) (num u) then (1, jup u 15 1 (num u)) else (0, u)
def poR3 (u : jW) (k a : Int) : Int × jW := if cellB (u 15 0) (num u) then (1, adP u k a (num u)) else (0, u)
def poR2 (u : jW) (k : Int) : Int × jW := if 0 ≤ num u ∧ num u ≤ 9 then poR3 (tok u) k (num u) else (0, u)
def poR (u : jW) : Int × jW := if 0 ≤ num u ∧ num u < 6 then poR2 (tok u) (num u) else (0, u)
def waR2 (u : jW) (c : Int) : Int × jW := if 0 ≤ num u ∧ num u ≤ 9 then (1, adW u c (num u)) else (0, u)
def waR (u : jW) : Int × jW := if dryB (u 15 0) (u 16) (num u) then waR2 (tok u) (num u) else (0, u)
noncomputable def stm (v : jW) : Int × jW :=
  if wd0 (v 27) (v 26 1) (v 26 2) = 0 then
    (if wd1 (v 27) (v 26 1) (v 26 2) = 0 then
      (if wd2 (v 27) (v 26 1) (v 26 2) = 0 then
        (if wd3 (v 27) (v 26 1) (v 26 2) = 0 then
          (if wd4 (v 27) (v 26 1) (v 26 2) = 0 then
            (if wd5 (v 27) (v 26 1) (v 26 2) = 0 then (0, v) else (if v 15 4 < 4 then waR (tok v) else (0, v)))
          else (if v 15 3 < 8 then poR (tok v) else (0, v)))
        else hoR (tok v))
      else drR (tok v))
    else boR (tok v))
  else sdR (tok v)
/-- what a statement's reading leaves -/
def StF (v : jW) (r : Int × jW) : Prop := (r.1 = 0 ∨ r.1 = 1) ∧ CF v r.2 ∧ TT r.2 ∧ (r.1 = 1 → DOk r.2)
section VB
variable {w u v : jW} {Q : jV → jW → Prop} {K c k a s x : Int}
theorem StF.f (h : TT v) : StF v (0, v) := ⟨Or.inl rfl, ⟨fun _ _ _ => rfl, rfl, Int.le_refl _⟩, h, fun t => by have : (0 : Int) = 1 := t; omega⟩
theorem StF.t {r : Int × jW} (h : CF v u) (h' : StF u r) : StF v r := ⟨h'.1, h.t h'.2.1, h'.2.2⟩
theorem StF.y (h : CF v u) (ht : TT u) (hd : DOk u) : StF v (1, u) := ⟨Or.inr rfl, h, ht, fun _ => hd⟩
theorem CF.r : CF v v := ⟨fun _ _ _ => rfl, rfl, Int.le_refl _⟩
theorem sd_ok (h : TT u) (hd : DOk u) : StF u (sdR u) := by
  unfold sdR
  by_cases c : 3 ≤ num u ∧ u 15 0 ≤ num u ∧ num u ≤ 7
  · rw [if_pos c]
    refine StF.y (CF.r.j (by omega)) (h.j (by omega)) ?_
    unfold DOk at hd ⊢
    simp (disch := omega) only [jupn, jups, up1_n, up1_s]
    exact hd.side c.2.1 c.2.2
  · rw [if_neg c]; exact StF.f h
theorem bo_ok (h : TT u) (hd : DOk u) : StF u (boR u) := by
  unfold boR
  by_cases c : cellB (u 15 0) (num u) ∧ ¬ noBog u (num u)
  · rw [if_pos c]
    refine StF.y (CF.r.j (by omega)) (h.j (by omega)) ?_
    unfold DOk at hd ⊢
    simp (disch := omega) only [jupn, jups]
    exact hd.bog1 (fun t => c.2 (Or.inl t)) (fun t => c.2 (Or.inr t))
  · rw [if_neg c]; exact StF.f h
theorem dr_ok (h : TT u) (hd : DOk u) : StF u (drR u) := by
  unfold drR
  by_cases c : cellB (u 15 0) (num u)
  · rw [if_pos c]
    refine StF.y (CF.r.j (by omega)) (h.j (by omega)) ?_
    unfold DOk at hd ⊢
    simp (disch := omega) only [jupn, jups]
    exact hd.bog0
  · rw [if_neg c]; exact StF.f h
theorem ho_ok (h : TT u) (hd : DOk u) : StF u (hoR u) := by
  unfold hoR
  by_cases c : dryB (u 15 0) (u 16) (num u)
  · rw [if_pos c]
    refine StF.y (CF.r.j (by omega)) (h.j (by omega)) ?_
    unfold DOk at hd ⊢
    simp (disch := omega) only [jupn, jups, up1_n, up1_s]
    exact LOk.hm hd c
  · rw [if_neg c]; exact StF.f h
theorem po_ok (h : TT u) (hd : DOk u) (hp : u 15 3 < 8) : StF u (poR u) := by
  have t1 := TO.tok h.1
  have d1 := hd.tok
  have t2 := TO.tok t1.1.1
  have d2 := d1.tok
  unfold poR poR2 poR3
  by_cases c : 0 ≤ num u ∧ num u < 6
  · rw [if_pos c]
    refine StF.t t1.2.1 ?_
    by_cases c2 : 0 ≤ num (tok u) ∧ num (tok u) ≤ 9
    · rw [if_pos c2]
      refine StF.t t2.2.1 ?_
      by_cases c3 : cellB (tok (tok u) 15 0) (num (tok (tok u)))
      · rw [if_pos c3]
        unfold adP
        refine StF.y ((((CF.r.j (by omega)).j (by omega)).j (by omega)).j (by omega)) ((((t2.1.j (by omega)).j (by omega)).j (by omega)).j (by omega)) ?_
        have e3 : tok (tok u) 15 3 = u 15 3 := by rw [tok_n (by omega), tok_n (by omega)]
        unfold DOk at d2 ⊢
        simp (disch := omega) only [jupn, jups, up1_n, up1_s]
        exact d2.post (by rw [e3]; exact hp) c c2 c3
      · rw [if_neg c3]; exact StF.f t2.1
    · rw [if_neg c2]; exact StF.f t1.1
  · rw [if_neg c]; exact StF.f h
theorem wa_ok (h : TT u) (hd : DOk u) (hp : u 15 4 < 4) : StF u (waR u) := by
  have t1 := TO.tok h.1
  have d1 := hd.tok
  unfold waR waR2
  by_cases c : dryB (u 15 0) (u 16) (num u)
  · rw [if_pos c]
    refine StF.t t1.2.1 ?_
    by_cases c2 : 0 ≤ num (tok u) ∧ num (tok u) ≤ 9
    · rw [if_pos c2]
      unfold adW
      refine StF.y (((CF.r.j (by omega)).j (by omega)).j (by omega)) (((t1.1.j (by omega)).j (by omega)).j (by omega)) ?_
      have e4 : tok u 15 4 = u 15 4 := by rw [tok_n (by omega)]
      have e0 : tok u 15 0 = u 15 0 := by rw [tok_n (by omega)]
      have e16 : tok u 16 = u 16 := tok_n (by omega)
      unfold DOk at d1 ⊢
      simp (disch := omega) only [jupn, jups, up1_n, up1_s]
      exact d1.walker (by rw [e4]; exact hp) (by rw [e0, e16]; exact c) c2
    · rw [if_neg c2]; exact StF.f t1.1
  · rw [if_neg c]; exact StF.f h
theorem stm_ok (h : TT v) (hd : DOk v) : StF v (stm v) := by
  have t1 := TO.tok h.1
  have d1 := hd.tok
  unfold stm
  by_cases c0 : wd0 (v 27) (v 26 1) (v 26 2) = 0
  · rw [if_pos c0]
    by_cases c1 : wd1 (v 27) (v 26 1) (v 26 2) = 0
    · rw [if_pos c1]
      by_cases c2 : wd2 (v 27) (v 26 1) (v 26 2) = 0
      · rw [if_pos c2]
        by_cases c3 : wd3 (v 27) (v 26 1) (v 26 2) = 0
        · rw [if_pos c3]
          by_cases c4 : wd4 (v 27) (v 26 1) (v 26 2) = 0
          · rw [if_pos c4]
            by_cases c5 : wd5 (v 27) (v 26 1) (v 26 2) = 0
            · rw [if_pos c5]; exact StF.f h
            · rw [if_neg c5]
              by_cases p : v 15 4 < 4
              · rw [if_pos p]; exact StF.t t1.2.1 (wa_ok t1.1 d1 (by rw [tok_n (by omega)]; exact p))
              · rw [if_neg p]; exact StF.f h
          · rw [if_neg c4]
            by_cases p : v 15 3 < 8
            · rw [if_pos p]; exact StF.t t1.2.1 (po_ok t1.1 d1 (by rw [tok_n (by omega)]; exact p))
            · rw [if_neg p]; exact StF.f h
        · rw [if_neg c3]; exact StF.t t1.2.1 (ho_ok t1.1 d1)
      · rw [if_neg c2]; exact StF.t t1.2.1 (dr_ok t1.1 d1)
    · rw [if_neg c1]; exact StF.t t1.2.1 (bo_ok t1.1 d1)
  · rw [if_neg c0]; exact StF.t t1.2.1 (sd_ok t1.1 d1)
theorem sT_side (h : TO w) : AW mT_readSide 0 [jR 26, jR 15, jX] [] w Q = Q (jI (sdR (tok w)).1) (sdR (tok w)).2 := by
  unfold sdR
  rw [bT_readSide_0, sT_num h, bT_readSide_4, bL_canHaveSide_r15_0, bT_readSide_10, bT_readSide_10]
  by_cases a : num (tok w) < 3
  · rw [if_pos a, if_pos rfl, if_neg (by omega)]
  · rw [if_neg a]
    by_cases b : num (tok w) < tok w 15 0
    · rw [if_pos b, if_pos rfl, if_neg (by omega)]
    · rw [if_neg b]
      by_cases c : 7 < num (tok w)
      · rw [if_pos c, if_pos rfl, if_neg (by omega)]
      · rw [if_neg c, if_neg (by omega), if_pos (by omega)]
theorem sL_cbb15 (m : Nat) : ∀ k, (w 15 4 - k).toNat = m → 0 ≤ k → w 15 4 ≤ 4 → (Any (w 20) k (w 15 4) x → Q (jI 0) w) → (¬ Any (w 20) k (w 15 4) x → Q (jI 1) w) → AW mL_canBeBog 12 [jR 15, jI x, jI k] [] w Q := by
  induction m with
  | zero =>
    intro k hm h0 h4 h1 h2
    rw [bL_canBeBog_r15_12, if_neg (by omega)]
    exact h2 (Any.n (by omega))
  | succ m ih =>
    intro k hm h0 h4 h1 h2
    rw [bL_canBeBog_r15_12, if_pos (by omega), if_pos (by omega)]
    by_cases e : w 20 k = x
    · rw [if_pos e]; exact h1 ⟨k, by omega, by omega, e⟩
    · rw [if_neg e, n32s (x := k + 1) (by omega) (by omega)]
      exact ih (k + 1) (by omega) (by omega) h4 (fun q => h1 ((Any.s e).mpr q)) (fun q => h2 (fun q' => q ((Any.s e).mp q')))
theorem sT_bog (h : TO w) (hd : DOk w) (hQ : Q (jI (boR (tok w)).1) (boR (tok w)).2) : AW mT_readBog 0 [jR 26, jR 15, jX] [] w Q := by
  have d1 := hd.tok
  have h7 : tok w 15 0 ≤ 7 := d1.1.2
  have h4 : 0 ≤ tok w 15 4 ∧ tok w 15 4 ≤ 4 := d1.2.2.2.1
  unfold boR at hQ
  rw [bT_readBog_0, sT_num h, bT_readBog_4, sL_isCell_r15 h7, bT_readBog_11, jb_ite]
  by_cases c : cellB (tok w 15 0) (num (tok w))
  · have c67' := cell67 h7 c
    have c0 := c.1
    rw [if_pos c, bL_canBeBog_r15_0]
    by_cases e : num (tok w) = tok w 15 1
    · rw [if_neg (fun t => t.2 (Or.inl e))] at hQ
      rw [if_pos e, bT_readBog_19, if_pos rfl]; exact hQ
    · rw [if_neg e]
      refine sL_cbb15 _ 0 rfl (by omega) h4.2 (fun t => ?_) (fun t => ?_)
      · rw [if_neg (fun z => z.2 (Or.inr t))] at hQ
        rw [bT_readBog_19, if_pos rfl]; exact hQ
      · rw [if_pos ⟨c, fun z => z.elim e t⟩] at hQ
        rw [bT_readBog_19, if_neg (by omega), if_pos (by omega)]; exact hQ
  · rw [if_neg (fun t => c t.1)] at hQ
    rw [if_neg c]; exact hQ
theorem sT_dry (h : TO w) (hd : DOk w) : AW mT_readDry 0 [jR 26, jR 15, jX] [] w Q = Q (jI (drR (tok w)).1) (drR (tok w)).2 := by
  have d1 := hd.tok
  have h7 : tok w 15 0 ≤ 7 := d1.1.2
  unfold drR
  rw [bT_readDry_0, sT_num h, bT_readDry_4, sL_isCell_r15 h7, bT_readDry_11, jb_ite]
  by_cases c : cellB (tok w 15 0) (num (tok w))
  · have c67' := cell67 h7 c
    have c0 := c.1
    rw [if_pos c, if_pos (by omega), if_pos c]
  · rw [if_neg c, if_neg c]
theorem sT_home (h : TO w) (hd : DOk w) : AW mT_readHome 0 [jR 26, jR 15, jX] [] w Q = Q (jI (hoR (tok w)).1) (hoR (tok w)).2 := by
  have d1 := hd.tok
  have h7 : tok w 15 0 ≤ 7 := d1.1.2
  unfold hoR
  rw [bT_readHome_0, sT_num h, bT_readHome_4, sL_isDry_r15 h7, bT_readHome_11, jb_ite]
  by_cases c : dryB (tok w 15 0) (tok w 16) (num (tok w))
  · rw [if_pos c, if_pos c]
  · rw [if_neg c, if_neg c]
theorem sT_post (h : TO w) (hd : DOk w) (hp : w 15 3 < 8) : AW mT_readPost 0 [jR 26, jR 15, jX, jX, jX] [] w Q = Q (jI (poR (tok w)).1) (poR (tok w)).2 := by
  have t1 := TO.tok h
  have t2 := TO.tok t1.1.1
  have d3 := hd.tok.tok.tok
  have h7 : tok (tok (tok w)) 15 0 ≤ 7 := d3.1.2
  have h8 : 0 ≤ tok (tok (tok w)) 15 3 ∧ tok (tok (tok w)) 15 3 ≤ 8 := d3.2.2.1
  have e3 : tok (tok (tok w)) 15 3 = w 15 3 := by rw [tok_n (by omega), tok_n (by omega), tok_n (by omega)]
  unfold poR poR2 poR3
  rw [bT_readPost_0, sT_num h, bT_readPost_4, sX_isKind, bT_readPost_9, jb_ite]
  by_cases c : 0 ≤ num (tok w) ∧ num (tok w) < 6
  · rw [if_pos c, if_pos c, sT_num t1.1.1, bT_readPost_18, sX_isWithin, bT_readPost_27, jb_ite]
    by_cases c2 : 0 ≤ num (tok (tok w)) ∧ num (tok (tok w)) ≤ 9
    · rw [if_pos c2, if_pos c2, sT_num t2.1.1, bT_readPost_36, sL_isCell_r15 h7, bT_readPost_45, jb_ite]
      by_cases c3 : cellB (tok (tok (tok w)) 15 0) (num (tok (tok (tok w))))
      · rw [if_pos c3, if_pos c3, bL_addPost_r15_0, if_pos (by omega), if_pos (by omega), if_pos (by omega), bT_readPost_58, n32s (x := tok (tok (tok w)) 15 3 + 1) (by omega) (by omega)]
        rfl
      · rw [if_neg c3, if_neg c3]
    · rw [if_neg c2, if_neg c2]
  · rw [if_neg c, if_neg c]
theorem sT_walker (h : TO w) (hd : DOk w) (hp : w 15 4 < 4) : AW mT_readWalker 0 [jR 26, jR 15, jX, jX] [] w Q = Q (jI (waR (tok w)).1) (waR (tok w)).2 := by
  have t1 := TO.tok h
  have d1 := hd.tok
  have d2 := d1.tok
  have h7 : tok w 15 0 ≤ 7 := d1.1.2
  have h4 : 0 ≤ tok (tok w) 15 4 ∧ tok (tok w) 15 4 ≤ 4 := d2.2.2.2.1
  have e4 : tok (tok w) 15 4 = w 15 4 := by rw [tok_n (by omega), tok_n (by omega)]
  unfold waR waR2
  rw [bT_readWalker_0, sT_num h, bT_readWalker_4, sL_isDry_r15 h7, bT_readWalker_11, jb_ite]
  by_cases c : dryB (tok w 15 0) (tok w 16) (num (tok w))
  · rw [if_pos c, if_pos c, sT_num t1.1.1, bT_readWalker_20, sX_isWithin, bT_readWalker_29, jb_ite]
    by_cases c2 : 0 ≤ num (tok (tok w)) ∧ num (tok (tok w)) ≤ 9
    · rw [if_pos c2, if_pos c2, bL_addWalker_r15_0, if_pos (by omega), if_pos (by omega), bT_readWalker_40, n32s (x := tok (tok w) 15 4 + 1) (by omega) (by omega)]
      rfl
    · rw [if_neg c2, if_neg c2]
  · rw [if_neg c, if_neg c]
theorem sT_stm (h : TT w) (hd : DOk w) (hQ : Q (jI (stm w).1) (stm w).2) : AW mT_readStatement 0 [jR 26, jR 15] [] w Q := by
  have hs : (0 ≤ w 26 1 ∧ w 26 1 ≤ w 26 2) ∧ w 26 2 ≤ w 26 0 := ⟨h.2, h.1.2.2⟩
  have h250 := h.1.1.2
  have ok := stm_ok h hd
  have t1 := TO.tok h.1
  have d1 := hd.tok
  have o01 := ok.1
  unfold stm at hQ ok
  rw [bT_readStatement_0, sT_word0 h250 hs, bT_readStatement_6]
  by_cases c0 : wd0 (w 27) (w 26 1) (w 26 2) = 0
  · rw [if_pos c0] at hQ ⊢
    rw [sT_word1 h250 hs, bT_readStatement_21]
    by_cases c1 : wd1 (w 27) (w 26 1) (w 26 2) = 0
    · rw [if_pos c1] at hQ ⊢
      rw [sT_word2 h250 hs, bT_readStatement_36]
      by_cases c2 : wd2 (w 27) (w 26 1) (w 26 2) = 0
      · rw [if_pos c2] at hQ ⊢
        rw [sT_word3 h250 hs, bT_readStatement_51]
        by_cases c3 : wd3 (w 27) (w 26 1) (w 26 2) = 0
        · rw [if_pos c3] at hQ ⊢
          rw [sT_word4 h250 hs, bT_readStatement_66]
          by_cases c4 : wd4 (w 27) (w 26 1) (w 26 2) = 0
          · rw [if_pos c4] at hQ ⊢
            rw [sT_word5 h250 hs, bT_readStatement_96]
            by_cases c5 : wd5 (w 27) (w 26 1) (w 26 2) = 0
            · rw [if_pos c5] at hQ ⊢; exact hQ
            · rw [if_neg c5] at hQ ⊢
              rw [bL_hasRoomForWalker_r15_0, bT_readStatement_103, bT_readStatement_103]
              by_cases p : w 15 4 < 4
              · have r := (wa_ok t1.1 d1 (by rw [tok_n (by omega)]; exact p)).1
                rw [if_pos p] at hQ ⊢
                rw [if_neg (by omega), sT_walker h.1 hd p, bT_readStatement_111]
                rcases r with r | r
                · rw [r] at hQ ⊢; rw [if_pos rfl]; exact hQ
                · rw [r] at hQ ⊢; rw [if_neg (by omega)]; exact hQ
              · rw [if_neg p] at hQ ⊢
                rw [if_pos rfl]; exact hQ
          · rw [if_neg c4] at hQ ⊢
            rw [bL_hasRoomForPost_r15_0, bT_readStatement_73, bT_readStatement_73]
            by_cases p : w 15 3 < 8
            · have r := (po_ok t1.1 d1 (by rw [tok_n (by omega)]; exact p)).1
              rw [if_pos p] at hQ ⊢
              rw [if_neg (by omega), sT_post h.1 hd p, bT_readStatement_81]
              rcases r with r | r
              · rw [r] at hQ ⊢; rw [if_pos rfl]; exact hQ
              · rw [r] at hQ ⊢; rw [if_neg (by omega)]; exact hQ
            · rw [if_neg p] at hQ ⊢
              rw [if_pos rfl]; exact hQ
        · rw [if_neg c3] at hQ ⊢
          rw [sT_home h.1 hd, bT_readStatement_59, if_pos (ho_ok t1.1 d1).1]; exact hQ
      · rw [if_neg c2] at hQ ⊢
        rw [sT_dry h.1 hd, bT_readStatement_44, if_pos (dr_ok t1.1 d1).1]; exact hQ
    · rw [if_neg c1] at hQ ⊢
      refine sT_bog h.1 hd ?_
      rw [bT_readStatement_29, if_pos (bo_ok t1.1 d1).1]; exact hQ
  · rw [if_neg c0] at hQ ⊢
    rw [sT_side h.1, bT_readStatement_14, if_pos (sd_ok t1.1 d1).1]; exact hQ
end VB
