/-! statements, the reference -/
theorem skR_cg {b b2 : Int → Int} {n : Int} (h : ∀ i, 0 ≤ i → i < n → b i = b2 i) (m : Nat) : ∀ i, 0 ≤ i → i + (m : Int) = n → skR b n m i = skR b2 n m i := by
  induction m with
  | zero => intro i _ _; rfl
  | succ m ih =>
    intro i h0 h1
    have e := h i h0 (by omega)
    by_cases c : b i = 32
    · rw [skR_y c, skR_y (by rw [← e]; exact c)]; exact ih (i + 1) (by omega) (by omega)
    · rw [skR_n c, skR_n (by rw [← e]; exact c)]
theorem rlR_cg {b b2 : Int → Int} {n : Int} (h : ∀ i, 0 ≤ i → i < n → b i = b2 i) (m : Nat) : ∀ i, 0 ≤ i → i + (m : Int) = n → rlR b m i = rlR b2 m i := by
  induction m with
  | zero => intro i _ _; rfl
  | succ m ih =>
    intro i h0 h1
    have e := h i h0 (by omega)
    by_cases c : letB (b i)
    · rw [rlR_y c, rlR_y (by rw [← e]; exact c)]; exact ih (i + 1) (by omega) (by omega)
    · rw [rlR_n c, rlR_n (by rw [← e]; exact c)]
theorem rdD_cg {b b2 : Int → Int} {n : Int} (h : ∀ i, 0 ≤ i → i < n → b i = b2 i) (m : Nat) : ∀ i, 0 ≤ i → i + (m : Int) = n → rdD b m i = rdD b2 m i := by
  induction m with
  | zero => intro i _ _; rfl
  | succ m ih =>
    intro i h0 h1
    have e := h i h0 (by omega)
    by_cases c : digB (b i)
    · rw [rdD_y c, rdD_y (by rw [← e]; exact c)]; exact ih (i + 1) (by omega) (by omega)
    · rw [rdD_n c, rdD_n (by rw [← e]; exact c)]
theorem tkS_cg {b b2 : Int → Int} {n e : Int} (h : ∀ i, 0 ≤ i → i < n → b i = b2 i) (he : 0 ≤ e ∧ e ≤ n) : tkS b n e = tkS b2 n e := skR_cg h _ e he.1 (by omega)
theorem tkE_cg {b b2 : Int → Int} {n e : Int} (h : ∀ i, 0 ≤ i → i < n → b i = b2 i) (he : 0 ≤ e ∧ e ≤ n) : tkE b n e = tkE b2 n e := by
  have s := tkS_cg h he
  have a := tkS_in (b := b2) he.2
  unfold tkE
  rw [s]
  by_cases c : tkS b2 n e < n
  · rw [if_pos c, if_pos c, h _ (by omega) c, rlR_cg h _ _ (by omega) (by omega), rdD_cg h _ _ (by omega) (by omega)]
  · rw [if_neg c, if_neg c]
theorem tkK_cg {b b2 : Int → Int} {n s e : Int} (h : ∀ i, 0 ≤ i → i < n → b i = b2 i) (hs : 0 ≤ s) : tkK b n s e = tkK b2 n s e := by
  unfold tkK
  by_cases c : s < n
  · rw [if_pos c, if_pos c, h s hs c]
  · rw [if_neg c, if_neg c]
theorem tkK_48 {b : Int → Int} {n s e : Int} : tkK b n s e = 48 ↔ (s < n ∧ digB (b s)) ∧ e - s ≤ 2 := by
  unfold tkK
  by_cases c : s < n
  · rw [if_pos c]
    by_cases l : letB (b s)
    · rw [if_pos l]
      exact ⟨fun t => by omega, fun t => by have := t.1.2; unfold digB at this; unfold letB at l; omega⟩
    · rw [if_neg l]
      by_cases d : digB (b s)
      · rw [if_pos d]
        by_cases y : 2 < e - s
        · rw [if_pos y]; exact ⟨fun t => by omega, fun t => by omega⟩
        · rw [if_neg y]; exact ⟨fun _ => ⟨⟨c, d⟩, by omega⟩, fun _ => rfl⟩
      · rw [if_neg d]
        exact ⟨fun t => by split at t <;> omega, fun t => absurd t.1.2 d⟩
  · rw [if_neg c]; exact ⟨fun t => by omega, fun t => absurd t.1.1 c⟩
theorem tkK_119 {b : Int → Int} {n s e : Int} (h : s < n) (hl : letB (b s)) : tkK b n s e = 119 := by unfold tkK; rw [if_pos h, if_pos hl]
def LM (u v : jW) : Prop := (u 45 0 = v 15 0 ∧ u 45 2 = v 15 1 ∧ u 45 10 = v 15 2 ∧ u 45 3 = v 15 3 ∧ u 45 7 = v 15 4) ∧ Eqn 67 (u 46) (v 16) ∧ Eqn (v 15 3) (u 47) (v 17) ∧ Eqn (v 15 3) (u 48) (v 18) ∧ Eqn (v 15 3) (u 49) (v 19) ∧ Eqn (v 15 4) (u 50) (v 20) ∧ Eqn (v 15 4) (u 51) (v 21)
def TM (u v : jW) : Prop := u 45 11 = v 26 0 ∧ Eqn (v 26 0) (u 52) (v 27) ∧ u 45 14 = v 26 2
def TK (u v : jW) : Prop := TM u v ∧ u 45 13 = v 26 1 ∧ u 45 15 = tkK (v 27) (v 26 0) (v 26 1) (v 26 2) ∧ (u 45 15 = 48 → u 45 16 = num v)
def FR (w u : jW) : Prop := (∀ o, o < 45 ∨ 51 < o → u o = w o) ∧ u 45 11 = w 45 11 ∧ u 45 21 = w 45 21
section XA
variable {w u v : jW} {Q : jV → jW → Prop} {K c k a s x : Int}
theorem FR.r : FR w w := ⟨fun _ _ => rfl, rfl, rfl⟩
theorem FR.t {a b c : jW} (h : FR a b) (h' : FR b c) : FR a c := ⟨fun o q => (h'.1 o q).trans (h.1 o q), h'.2.1.trans h.2.1, h'.2.2.trans h.2.2⟩
theorem N45.fr (h : N45 w u) : FR w u := ⟨fun o q => h.1 o (by omega), h.2 11 (by omega) (by omega) (by omega) (by omega), h.2 21 (by omega) (by omega) (by omega) (by omega)⟩
theorem FR.j {o : Nat} {i y : Int} (h : FR w u) (ho : 46 ≤ o ∧ o ≤ 51) : FR w (jup u o i y) := ⟨fun p q => by rw [jupn (by omega)]; exact h.1 p q, by rw [jupn (by omega)]; exact h.2.1, by rw [jupn (by omega)]; exact h.2.2⟩
theorem FR.f {i y : Int} (h : FR w u) (hi : i ≠ 11 ∧ i ≠ 21) : FR w (jup u 45 i y) := ⟨fun p q => by rw [jupn (by omega)]; exact h.1 p q, by rw [jups, up1_n (fun t => hi.1 t.symm)]; exact h.2.1, by rw [jups, up1_n (fun t => hi.2 t.symm)]; exact h.2.2⟩
theorem LM.n (h : LM w v) (N : N45 w u) : LM u v := by
  unfold LM at h ⊢
  rw [N.2 0 (by omega) (by omega) (by omega) (by omega), N.2 2 (by omega) (by omega) (by omega) (by omega), N.2 10 (by omega) (by omega) (by omega) (by omega), N.2 3 (by omega) (by omega) (by omega) (by omega), N.2 7 (by omega) (by omega) (by omega) (by omega), N.1 46 (by omega), N.1 47 (by omega), N.1 48 (by omega), N.1 49 (by omega), N.1 50 (by omega), N.1 51 (by omega)]
  exact h
theorem LM.tok (h : LM w v) : LM w (tok v) := by
  unfold LM at h ⊢
  simp (disch := omega) only [tok_n]
  exact h
theorem num_k : num v = if tkK (v 27) (v 26 0) (v 26 1) (v 26 2) = 48 then dcV (v 27) (v 26 1) (v 26 2) else -1 := by
  unfold num nuV
  by_cases c : (v 26 1 < v 26 0 ∧ digB (v 27 (v 26 1))) ∧ v 26 2 - v 26 1 ≤ 2
  · rw [if_pos c, if_pos (tkK_48.mpr c)]
  · rw [if_neg c, if_neg (fun t => c (tkK_48.mp t))]
theorem sM_tok (T : TM u v) (O : TO v) (hQ : ∀ u', N45 u u' → TK u' (tok v) → Q (jI 0) u') : AW mM_next 0 [jR 45, jX] [] u Q := by
  obtain ⟨T1, T2, T3⟩ := T
  have h1 := O.1
  have h2 := O.2
  refine sM_next (by rw [T1]; exact h1) (by rw [T1, T3]; exact h2) (fun u' N => ?_)
  have a := tkS_in (b := v 27) h2.2
  have b := tkE_in (b := v 27) h2.2
  have C : ∀ i, 0 ≤ i → i < v 26 0 → u 52 i = v 27 i := T2
  rw [T1, T3, tkS_cg C h2, tkE_cg C h2, tkK_cg C (by omega)] at N
  obtain ⟨N0, N1, N2, N3, N4⟩ := N
  refine hQ u' N0 ⟨⟨?_, ?_, ?_⟩, ?_, ?_, ?_⟩
  · rw [N0.2 11 (by omega) (by omega) (by omega) (by omega), tok_0]; exact T1
  · rw [N0.1 52 (by omega), tok_0, tok_n (by omega)]; exact T2
  · rw [N2, tok_2]
  · rw [N1, tok_1]
  · rw [N3, tok_0, tok_1, tok_2, tok_n (by omega)]
  · intro t
    have k48 : tkK (v 27) (v 26 0) (tkS (v 27) (v 26 0) (v 26 2)) (tkE (v 27) (v 26 0) (v 26 2)) = 48 := N3.symm.trans t
    have kk := tkK_48.mp k48
    rw [N4 k48, num_k, tok_0, tok_1, tok_2, tok_n (by omega), if_pos k48]
    unfold dcV
    by_cases y : tkE (v 27) (v 26 0) (v 26 2) = tkS (v 27) (v 26 0) (v 26 2) + 1
    · rw [if_pos y, if_pos y, C _ (by omega) kk.1.1]
    · rw [if_neg y, if_neg y, C _ (by omega) kk.1.1, C _ (by omega) (by omega)]
theorem sM_num {lo hi : Int} (T : TM u v) (O : TO v) (hlo : 0 ≤ lo) (hQ : ∀ u', N45 u u' → TK u' (tok v) → Q (jI (if lo ≤ num (tok v) ∧ num (tok v) ≤ hi then num (tok v) else -1)) u') : AW mM_number 0 [jR 45, jI lo, jI hi] [] u Q := by
  rw [bM_number_0]
  refine sM_tok T O (fun u' N T' => ?_)
  have q := hQ u' N T'
  rw [bM_number_4, sM_within, bM_number_22, jb_ite]
  by_cases c : u' 45 15 = 48
  · rw [if_pos c, T'.2.2.2 c]
    by_cases d : lo ≤ num (tok v) ∧ num (tok v) ≤ hi
    · rw [if_pos d] at q ⊢; exact q
    · rw [if_neg d] at q ⊢; exact q
  · have e : num (tok v) = -1 := by rw [num_k, ← T'.2.2.1, if_neg c]
    rw [e, if_neg (by omega)] at q
    rw [if_neg c]; exact q
theorem sM_place (T : TM u v) (O : TO v) (L : LM u v) (D : DOk v) (hQ : ∀ u', N45 u u' → TK u' (tok v) → Q (jI (if cellB (v 15 0) (num (tok v)) then num (tok v) else -1)) u') : AW mM_place 0 [jR 45, jX] [] u Q := by
  have h7 : v 15 0 ≤ 7 := D.1.2
  rw [bM_place_0]
  refine sM_num T O (by omega) (fun u' N T' => ?_)
  have q := hQ u' N T'
  have L' := L.n N
  rw [bM_place_7]
  by_cases d : 0 ≤ num (tok v) ∧ num (tok v) ≤ 66
  · rw [if_pos d, if_neg (by omega), sM_isCell (by unfold in64; omega), bM_place_19, jb_ite, L'.1.1]
    by_cases c : cellB (v 15 0) (num (tok v))
    · rw [if_pos c] at q ⊢; exact q
    · rw [if_neg c] at q ⊢; exact q
  · have nc : ¬ cellB (v 15 0) (num (tok v)) := fun t => by
      have := cell67 h7 t
      have := t.1
      omega
    rw [if_neg nc] at q
    rw [if_neg d, if_pos rfl]; exact q
/-- both outcomes of a statement -/
def Out (Q : jV → jW → Prop) (w : jW) (r : Int × jW) : Prop := (r.1 = 1 → ∀ u', FR w u' → TM u' r.2 → LM u' r.2 → Q (jI 1) u') ∧ (r.1 = 0 → ∀ u', FR w u' → u' 45 13 = r.2 26 1 → Q (jI 0) u')
theorem TM.j {o : Nat} {i y : Int} {p : Nat} {i2 y2 : Int} (T : TM u v) (ho : o ≠ 45 ∧ o ≠ 52) (hp : p ≠ 26 ∧ p ≠ 27) : TM (jup u o i y) (jup v p i2 y2) := by
  unfold TM at T ⊢
  rw [jupn (fun t => ho.1 t.symm), jupn (fun t => ho.2 t.symm), jupn (fun t => hp.1 t.symm), jupn (fun t => hp.2 t.symm)]
  exact T
theorem TM.f {i y : Int} {p : Nat} {i2 y2 : Int} (T : TM u v) (hi : i ≠ 11 ∧ i ≠ 14) (hp : p ≠ 26 ∧ p ≠ 27) : TM (jup u 45 i y) (jup v p i2 y2) := by
  unfold TM at T ⊢
  rw [jups, up1_n (fun t => hi.1 t.symm), up1_n (fun t => hi.2 t.symm), jupn (p := 52) (by omega), jupn (fun t => hp.1 t.symm), jupn (fun t => hp.2 t.symm)]
  exact T
theorem oSide (T : TM u v) (O : TO v) (L : LM u v) (D : DOk v) (h : Out Q u (sdR (tok v))) {y1 y2 y3 : jV} : AW mM_number 0 [jR 45, jI (u 45 0), jI 7] [] u (fun r w' => AW mM_statement 19 [jR 45, y1, y2, y3] [r] w' Q) := by
  have h3 : 3 ≤ v 15 0 := D.1.1
  have e0 : tok v 15 0 = v 15 0 := by rw [tok_n (by omega)]
  unfold sdR at h
  rw [L.1.1]
  refine sM_num T O (by omega) (fun u' N T' => ?_)
  have L' := (L.n N).tok
  rw [bM_statement_19]
  by_cases c : v 15 0 ≤ num (tok v) ∧ num (tok v) ≤ 7
  · rw [if_pos ⟨by omega, by rw [e0]; exact c.1, c.2⟩] at h
    rw [if_pos c, if_neg (by omega)]
    refine h.1 rfl _ (N.fr.f (by omega)) (T'.1.f (by omega) (by omega)) ?_
    unfold LM at L' ⊢
    simp (disch := omega) only [jupn, jups, up1_n, up1_s]
    exact ⟨⟨trivial, L'.1.2⟩, L'.2⟩
  · rw [if_neg (fun t => c ⟨by rw [← e0]; exact t.2.1, t.2.2⟩)] at h
    rw [if_neg c, if_pos rfl]
    exact h.2 rfl _ N.fr T'.2.1
theorem oPost (T : TM u v) (O : TO v) (L : LM u v) (D : DOk v) (hp : v 15 3 < 8) (h : Out Q u (poR (tok v))) : AW mM_number 0 [jR 45, jI 0, jI 5] [] u (fun r w' => AW mM_statement 60 [jR 45, jX, jX, jX] [r] w' Q) := by
  have t1 := TO.tok O
  have t2 := TO.tok t1.1.1
  have d2 := D.tok.tok
  have h8 : 0 ≤ v 15 3 ∧ v 15 3 ≤ 8 := D.2.2.1
  unfold poR at h
  refine sM_num T O (by omega) (fun u1 N1 T1 => ?_)
  have L1 := (L.n N1).tok
  rw [bM_statement_60]
  by_cases c : 0 ≤ num (tok v) ∧ num (tok v) ≤ 5
  · rw [if_pos (by omega)] at h
    unfold poR2 at h
    rw [if_pos c, if_neg (by omega)]
    refine sM_num T1.1 t1.1.1 (by omega) (fun u2 N2 T2 => ?_)
    have L2 := (L1.n N2).tok
    rw [bM_statement_77]
    by_cases c2 : 0 ≤ num (tok (tok v)) ∧ num (tok (tok v)) ≤ 9
    · rw [if_pos c2] at h
      unfold poR3 at h
      rw [if_pos c2, if_neg (by omega)]
      refine sM_place T2.1 t2.1.1 L2 d2 (fun u3 N3 T3 => ?_)
      have L3 := (L2.n N3).tok
      have e0 : tok (tok (tok v)) 15 0 = tok (tok v) 15 0 := by rw [tok_n (o := 15) (by omega)]
      have e3 : tok (tok (tok v)) 15 3 = v 15 3 := by rw [tok_n (by omega), tok_n (by omega), tok_n (by omega)]
      have F := (N1.fr.t N2.fr).t N3.fr
      rw [bM_statement_91]
      by_cases c3 : cellB (tok (tok v) 15 0) (num (tok (tok (tok v))))
      · have c30 := c3.1
        rw [if_pos (by rw [e0]; exact c3)] at h
        rw [if_pos c3, if_neg (by omega), bM_newPost_0, L3.1.2.2.2.1, e3, if_pos (by omega), if_pos (by omega), if_pos (by omega), n32s (x := v 15 3 + 1) (by omega) (by omega), bM_statement_106]
        refine h.1 rfl _ ((((F.j (by omega)).j (by omega)).j (by omega)).f (by omega)) ?_ ?_
        · unfold adP
          rw [e3]
          exact (((T3.1.j (by omega) (by omega)).j (by omega) (by omega)).j (by omega) (by omega)).f (by omega) (by omega)
        · unfold adP
          rw [e3]
          unfold LM at L3 ⊢
          rw [e3] at L3
          simp (disch := omega) only [jupn, jups, up1_n, up1_s]
          obtain ⟨⟨b0, b1, b2, b3, b4⟩, b5, b6, b7, b8, b9⟩ := L3
          exact ⟨⟨b0, b1, b2, trivial, b4⟩, b5, b6.push _, b7.push _, b8.push _, b9⟩
      · rw [if_neg (by rw [e0]; exact c3)] at h
        rw [if_neg c3, if_pos rfl]
        exact h.2 rfl _ F T3.2.1
    · rw [if_neg c2] at h
      rw [if_neg c2, if_pos rfl, bM_statement_91, if_pos rfl]
      exact h.2 rfl _ (N1.fr.t N2.fr) T2.2.1
  · rw [if_neg (by omega)] at h
    rw [if_neg c, if_pos rfl, bM_statement_77, if_pos rfl, bM_statement_91, if_pos rfl]
    exact h.2 rfl _ N1.fr T1.2.1
theorem oWalker (T : TM u v) (O : TO v) (L : LM u v) (D : DOk v) (hp : v 15 4 < 4) (h : Out Q u (waR (tok v))) : AW mM_place 0 [jR 45, jX] [] u (fun r w' => AW mM_statement 132 [jR 45, jX, jX, jX] [r] w' Q) := by
  have t1 := TO.tok O
  have h7 : v 15 0 ≤ 7 := D.1.2
  have h4 : 0 ≤ v 15 4 ∧ v 15 4 ≤ 4 := D.2.2.2.1
  have e0 : tok v 15 0 = v 15 0 := by rw [tok_n (o := 15) (by omega)]
  unfold waR at h
  rw [e0] at h
  refine sM_place T O L D (fun u1 N1 T1 => ?_)
  have L1 := (L.n N1).tok
  rw [bM_statement_132]
  by_cases c : cellB (v 15 0) (num (tok v))
  · have c67' := cell67 h7 c
    have c0 := c.1
    have eb : u1 46 (num (tok v)) = tok v 16 (num (tok v)) := L1.2.1 _ c0 c67'
    rw [if_pos c, if_neg (by omega), if_pos (by omega), eb]
    by_cases z : tok v 16 (num (tok v)) = 0
    · rw [if_pos ⟨c, z⟩] at h
      unfold waR2 at h
      rw [if_pos z]
      refine sM_num T1.1 t1.1.1 (by omega) (fun u2 N2 T2 => ?_)
      have L2 := (L1.n N2).tok
      have e4 : tok (tok v) 15 4 = v 15 4 := by rw [tok_n (by omega), tok_n (by omega)]
      have F := N1.fr.t N2.fr
      rw [bM_statement_156]
      by_cases c2 : 0 ≤ num (tok (tok v)) ∧ num (tok (tok v)) ≤ 9
      · rw [if_pos c2] at h
        rw [if_pos c2, if_neg (by omega), bM_newWalker_0, L2.1.2.2.2.2, e4, if_pos (by omega), if_pos (by omega), n32s (x := v 15 4 + 1) (by omega) (by omega), bM_statement_170]
        refine h.1 rfl _ (((F.j (by omega)).j (by omega)).f (by omega)) ?_ ?_
        · unfold adW
          rw [e4]
          exact ((T2.1.j (by omega) (by omega)).j (by omega) (by omega)).f (by omega) (by omega)
        · unfold adW
          rw [e4]
          unfold LM at L2 ⊢
          rw [e4] at L2
          simp (disch := omega) only [jupn, jups, up1_n, up1_s]
          obtain ⟨⟨b0, b1, b2, b3, b4⟩, b5, b6, b7, b8, b9, b10⟩ := L2
          exact ⟨⟨b0, b1, b2, b3, trivial⟩, b5, b6, b7, b8, b9.push _, b10.push _⟩
      · rw [if_neg c2] at h
        rw [if_neg c2, if_pos rfl]
        exact h.2 rfl _ F T2.2.1
    · rw [if_neg (fun t => z t.2)] at h
      rw [if_neg z]
      exact h.2 rfl _ N1.fr T1.2.1
  · rw [if_neg (fun t => c t.1)] at h
    rw [if_neg c, if_pos rfl]
    exact h.2 rfl _ N1.fr T1.2.1
theorem LM.any (L : LM u v) (hp : 0 ≤ v 15 4) : Any (u 50) 0 (u 45 7) x ↔ Any (v 20) 0 (v 15 4) x := by
  rw [L.1.2.2.2.2]
  exact Any.c (Int.le_refl _) L.2.2.2.2.2.1
theorem oBog (T : TM u v) (O : TO v) (L : LM u v) (D : DOk v) (h : Out Q u (boR (tok v))) : AW mM_statement 213 [jR 45, jX, jX, jX] [jI 0] u Q := by
  have h7 : v 15 0 ≤ 7 := D.1.2
  have D1 := D.tok
  have h4 : 0 ≤ tok v 15 4 ∧ tok v 15 4 ≤ 4 := D1.2.2.2.1
  have e0 : tok v 15 0 = v 15 0 := by rw [tok_n (o := 15) (by omega)]
  unfold boR at h
  rw [bM_statement_213, if_neg (by omega)]
  refine sM_place T O L D (fun u1 N1 T1 => ?_)
  have L1 := (L.n N1).tok
  rw [bM_statement_225]
  by_cases c : cellB (v 15 0) (num (tok v))
  · have c67' := cell67 h7 c
    have c0 := c.1
    rw [if_pos c, if_neg (by omega), if_pos rfl, L1.1.2.1]
    by_cases e : num (tok v) = tok v 15 1
    · rw [if_neg (fun t => t.2 (Or.inl e))] at h
      rw [if_pos e]
      exact h.2 rfl _ N1.fr T1.2.1
    · rw [if_neg e, bM_isWalkerAt_0]
      have e7 : u1 45 7 = tok v 15 4 := L1.1.2.2.2.2
      refine sM_iwa _ 0 rfl (by omega) (by omega) (fun t => ?_) (fun t => ?_)
      · have t' := (L1.any h4.1).mp t
        rw [if_neg (fun z => z.2 (Or.inr t'))] at h
        rw [bM_statement_248, if_neg (by omega)]
        exact h.2 rfl _ N1.fr T1.2.1
      · have t' : ¬ Any (tok v 20) 0 (tok v 15 4) (num (tok v)) := fun z => t ((L1.any h4.1).mpr z)
        rw [if_pos ⟨by rw [e0]; exact c, fun z => z.elim e t'⟩] at h
        rw [bM_statement_248, if_pos rfl, bM_statement_251, if_neg (by omega), bM_statement_267, if_pos (by omega), if_pos rfl, if_pos (by omega)]
        refine h.1 rfl _ (N1.fr.j (by omega)) (T1.1.j (by omega) (by omega)) ?_
        unfold LM at L1 ⊢
        simp (disch := omega) only [jupn, jups]
        exact ⟨L1.1, L1.2.1.up _ _, L1.2.2⟩
  · rw [if_neg (fun t => c (by rw [← e0]; exact t.1))] at h
    rw [if_neg c, if_pos rfl]
    exact h.2 rfl _ N1.fr T1.2.1
theorem oDry (T : TM u v) (O : TO v) (L : LM u v) (D : DOk v) (h : Out Q u (drR (tok v))) : AW mM_statement 213 [jR 45, jX, jX, jX] [jI 1] u Q := by
  have h7 : v 15 0 ≤ 7 := D.1.2
  have e0 : tok v 15 0 = v 15 0 := by rw [tok_n (o := 15) (by omega)]
  unfold drR at h
  rw [e0] at h
  rw [bM_statement_213, if_neg (by omega)]
  refine sM_place T O L D (fun u1 N1 T1 => ?_)
  have L1 := (L.n N1).tok
  rw [bM_statement_225]
  by_cases c : cellB (v 15 0) (num (tok v))
  · have c67' := cell67 h7 c
    have c0 := c.1
    rw [if_pos c] at h ⊢
    rw [if_neg (by omega), if_neg (by omega), bM_statement_251, if_neg (by omega), bM_statement_267, if_pos (by omega), if_neg (by omega), if_pos (by omega)]
    refine h.1 rfl _ (N1.fr.j (by omega)) (T1.1.j (by omega) (by omega)) ?_
    unfold LM at L1 ⊢
    simp (disch := omega) only [jupn, jups]
    exact ⟨L1.1, L1.2.1.up _ _, L1.2.2⟩
  · rw [if_neg c] at h ⊢
    rw [if_pos rfl]
    exact h.2 rfl _ N1.fr T1.2.1
theorem oHome (T : TM u v) (O : TO v) (L : LM u v) (D : DOk v) (h : Out Q u (hoR (tok v))) : AW mM_statement 213 [jR 45, jX, jX, jX] [jI 2] u Q := by
  have h7 : v 15 0 ≤ 7 := D.1.2
  have e0 : tok v 15 0 = v 15 0 := by rw [tok_n (o := 15) (by omega)]
  unfold hoR at h
  rw [e0] at h
  rw [bM_statement_213, if_neg (by omega)]
  refine sM_place T O L D (fun u1 N1 T1 => ?_)
  have L1 := (L.n N1).tok
  rw [bM_statement_225]
  by_cases c : cellB (v 15 0) (num (tok v))
  · have c67' := cell67 h7 c
    have c0 := c.1
    have eb : u1 46 (num (tok v)) = tok v 16 (num (tok v)) := L1.2.1 _ c0 c67'
    rw [if_pos c, if_neg (by omega), if_neg (by omega), bM_statement_251, if_pos rfl, if_pos (by omega), eb]
    by_cases z : tok v 16 (num (tok v)) = 0
    · rw [if_pos ⟨c, z⟩] at h
      rw [if_pos z, bM_statement_267, if_neg (by omega)]
      refine h.1 rfl _ (N1.fr.f (by omega)) (T1.1.f (by omega) (by omega)) ?_
      unfold LM at L1 ⊢
      simp (disch := omega) only [jupn, jups, up1_n, up1_s]
      exact ⟨⟨L1.1.1, trivial, L1.1.2.2⟩, L1.2⟩
    · rw [if_neg (fun t => z t.2)] at h
      rw [if_neg z]
      exact h.2 rfl _ N1.fr T1.2.1
  · rw [if_neg (fun t => c t.1)] at h
    rw [if_neg c, if_pos rfl]
    exact h.2 rfl _ N1.fr T1.2.1
end XA
