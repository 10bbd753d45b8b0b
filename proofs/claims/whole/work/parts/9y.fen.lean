/-! a fen read -/
section YA
variable {w u v : jW} {Q : jV → jW → Prop} {K c k a s x : Int}
theorem mW0 (T : TK u v) (O : TT v) : AW mM_isWord 0 [jR 45, jR 110, jX] [] u Q = Q (jI (wd0 (v 27) (v 26 1) (v 26 2))) u := by
  obtain ⟨⟨T1, T2, T3⟩, T4, T5, _⟩ := T
  have o1 := O.1.1
  have o2 := O.1.2
  have o3 := O.2
  rw [sM_word0 (by rw [T3, T4]; omega), T3, T4, wd0_cg (b2 := v 27) (fun i a b => T2 i (by omega) (by omega))]
  by_cases c : wd0 (v 27) (v 26 1) (v 26 2) = 0
  · rw [c]
    split <;> rfl
  · have f := wd0_f c
    rw [if_pos (by rw [T5]; exact tkK_119 (by omega) (by unfold letB; omega))]
theorem mW1 (T : TK u v) (O : TT v) : AW mM_isWord 0 [jR 45, jR 111, jX] [] u Q = Q (jI (wd1 (v 27) (v 26 1) (v 26 2))) u := by
  obtain ⟨⟨T1, T2, T3⟩, T4, T5, _⟩ := T
  have o1 := O.1.1
  have o2 := O.1.2
  have o3 := O.2
  rw [sM_word1 (by rw [T3, T4]; omega), T3, T4, wd1_cg (b2 := v 27) (fun i a b => T2 i (by omega) (by omega))]
  by_cases c : wd1 (v 27) (v 26 1) (v 26 2) = 0
  · rw [c]
    split <;> rfl
  · have f := wd1_f c
    rw [if_pos (by rw [T5]; exact tkK_119 (by omega) (by unfold letB; omega))]
theorem mW2 (T : TK u v) (O : TT v) : AW mM_isWord 0 [jR 45, jR 112, jX] [] u Q = Q (jI (wd2 (v 27) (v 26 1) (v 26 2))) u := by
  obtain ⟨⟨T1, T2, T3⟩, T4, T5, _⟩ := T
  have o1 := O.1.1
  have o2 := O.1.2
  have o3 := O.2
  rw [sM_word2 (by rw [T3, T4]; omega), T3, T4, wd2_cg (b2 := v 27) (fun i a b => T2 i (by omega) (by omega))]
  by_cases c : wd2 (v 27) (v 26 1) (v 26 2) = 0
  · rw [c]
    split <;> rfl
  · have f := wd2_f c
    rw [if_pos (by rw [T5]; exact tkK_119 (by omega) (by unfold letB; omega))]
theorem mW3 (T : TK u v) (O : TT v) : AW mM_isWord 0 [jR 45, jR 113, jX] [] u Q = Q (jI (wd3 (v 27) (v 26 1) (v 26 2))) u := by
  obtain ⟨⟨T1, T2, T3⟩, T4, T5, _⟩ := T
  have o1 := O.1.1
  have o2 := O.1.2
  have o3 := O.2
  rw [sM_word3 (by rw [T3, T4]; omega), T3, T4, wd3_cg (b2 := v 27) (fun i a b => T2 i (by omega) (by omega))]
  by_cases c : wd3 (v 27) (v 26 1) (v 26 2) = 0
  · rw [c]
    split <;> rfl
  · have f := wd3_f c
    rw [if_pos (by rw [T5]; exact tkK_119 (by omega) (by unfold letB; omega))]
theorem mW4 (T : TK u v) (O : TT v) : AW mM_isWord 0 [jR 45, jR 114, jX] [] u Q = Q (jI (wd4 (v 27) (v 26 1) (v 26 2))) u := by
  obtain ⟨⟨T1, T2, T3⟩, T4, T5, _⟩ := T
  have o1 := O.1.1
  have o2 := O.1.2
  have o3 := O.2
  rw [sM_word4 (by rw [T3, T4]; omega), T3, T4, wd4_cg (b2 := v 27) (fun i a b => T2 i (by omega) (by omega))]
  by_cases c : wd4 (v 27) (v 26 1) (v 26 2) = 0
  · rw [c]
    split <;> rfl
  · have f := wd4_f c
    rw [if_pos (by rw [T5]; exact tkK_119 (by omega) (by unfold letB; omega))]
theorem mW5 (T : TK u v) (O : TT v) : AW mM_isWord 0 [jR 45, jR 115, jX] [] u Q = Q (jI (wd5 (v 27) (v 26 1) (v 26 2))) u := by
  obtain ⟨⟨T1, T2, T3⟩, T4, T5, _⟩ := T
  have o1 := O.1.1
  have o2 := O.1.2
  have o3 := O.2
  rw [sM_word5 (by rw [T3, T4]; omega), T3, T4, wd5_cg (b2 := v 27) (fun i a b => T2 i (by omega) (by omega))]
  by_cases c : wd5 (v 27) (v 26 1) (v 26 2) = 0
  · rw [c]
    split <;> rfl
  · have f := wd5_f c
    rw [if_pos (by rw [T5]; exact tkK_119 (by omega) (by unfold letB; omega))]
theorem Out.no (T : TK u v) (h : Out Q u (0, v)) : Q (jI 0) u := h.2 rfl u FR.r T.2.1
theorem sM_stm (T : TK u v) (O : TT v) (L : LM u v) (D : DOk v) (h : Out Q u (stm v)) : AW mM_statement 0 [jR 45, jX, jX, jX] [] u Q := by
  unfold stm at h
  rw [bM_statement_0, mW0 T O, bM_statement_6]
  by_cases c0 : wd0 (v 27) (v 26 1) (v 26 2) = 0
  · rw [if_pos c0] at h ⊢
    rw [mW4 T O, bM_statement_40]
    by_cases c4 : wd4 (v 27) (v 26 1) (v 26 2) = 0
    · rw [if_pos c4, mW5 T O, bM_statement_115]
      by_cases c5 : wd5 (v 27) (v 26 1) (v 26 2) = 0
      · rw [if_pos c5, mW1 T O, bM_statement_179]
        by_cases c1 : wd1 (v 27) (v 26 1) (v 26 2) = 0
        · rw [if_pos c1] at h ⊢
          rw [mW2 T O, bM_statement_192]
          by_cases c2 : wd2 (v 27) (v 26 1) (v 26 2) = 0
          · rw [if_pos c2] at h ⊢
            rw [mW3 T O, bM_statement_205]
            by_cases c3 : wd3 (v 27) (v 26 1) (v 26 2) = 0
            · rw [if_pos c3, if_pos c4, if_pos c5] at h
              rw [if_pos c3, bM_statement_213, if_pos rfl]
              exact h.no T
            · rw [if_neg c3] at h ⊢
              exact oHome T.1 O.1 L D h
          · rw [if_neg c2] at h ⊢
            exact oDry T.1 O.1 L D h
        · rw [if_neg c1] at h ⊢
          exact oBog T.1 O.1 L D h
      · have f5 := wd5_f c5
        have n1 : wd1 (v 27) (v 26 1) (v 26 2) = 0 := Classical.byContradiction (fun z => by have := wd1_f z; omega)
        have n2 : wd2 (v 27) (v 26 1) (v 26 2) = 0 := Classical.byContradiction (fun z => by have := wd2_f z; omega)
        have n3 : wd3 (v 27) (v 26 1) (v 26 2) = 0 := Classical.byContradiction (fun z => by have := wd3_f z; omega)
        rw [if_pos n1, if_pos n2, if_pos n3, if_pos c4, if_neg c5] at h
        have h4 : 0 ≤ v 15 4 ∧ v 15 4 ≤ 4 := D.2.2.2.1
        rw [if_neg c5, L.1.2.2.2.2]
        by_cases p : v 15 4 < 4
        · rw [if_pos p] at h
          rw [if_neg (by omega)]
          exact oWalker T.1 O.1 L D p h
        · rw [if_neg p] at h
          rw [if_pos (by omega)]
          exact h.no T
    · have f4 := wd4_f c4
      have n1 : wd1 (v 27) (v 26 1) (v 26 2) = 0 := Classical.byContradiction (fun z => by have := wd1_f z; omega)
      have n2 : wd2 (v 27) (v 26 1) (v 26 2) = 0 := Classical.byContradiction (fun z => by have := wd2_f z; omega)
      have n3 : wd3 (v 27) (v 26 1) (v 26 2) = 0 := Classical.byContradiction (fun z => by have := wd3_f z; omega)
      rw [if_pos n1, if_pos n2, if_pos n3, if_neg c4] at h
      have h8 : 0 ≤ v 15 3 ∧ v 15 3 ≤ 8 := D.2.2.1
      rw [if_neg c4, L.1.2.2.2.1]
      by_cases p : v 15 3 < 8
      · rw [if_pos p] at h
        rw [if_neg (by omega)]
        exact oPost T.1 O.1 L D p h
      · rw [if_neg p] at h
        rw [if_pos (by omega)]
        exact h.no T
  · rw [if_neg c0] at h ⊢
    exact oSide T.1 O.1 L D h
theorem stm_pos (h : (stm v).1 = 1) : v 26 1 < v 26 2 := by
  unfold stm at h
  by_cases c0 : wd0 (v 27) (v 26 1) (v 26 2) = 0
  · rw [if_pos c0] at h
    by_cases c1 : wd1 (v 27) (v 26 1) (v 26 2) = 0
    · rw [if_pos c1] at h
      by_cases c2 : wd2 (v 27) (v 26 1) (v 26 2) = 0
      · rw [if_pos c2] at h
        by_cases c3 : wd3 (v 27) (v 26 1) (v 26 2) = 0
        · rw [if_pos c3] at h
          by_cases c4 : wd4 (v 27) (v 26 1) (v 26 2) = 0
          · rw [if_pos c4] at h
            by_cases c5 : wd5 (v 27) (v 26 1) (v 26 2) = 0
            · rw [if_pos c5] at h
              have : (0 : Int) = 1 := h
              omega
            · have := wd5_f c5; omega
          · have := wd4_f c4; omega
        · have := wd3_f c3; omega
      · have := wd2_f c2; omega
    · have := wd1_f c1; omega
  · have := wd0_f c0; omega
theorem tok_15 : tok v 15 = v 15 := tok_n (by omega)
theorem stm_pm : v 15 3 ≤ (stm v).2 15 3 := by
  have e : ∀ (r : Int × jW), r = (0, v) → v 15 3 ≤ r.2 15 3 := fun r h => by rw [h]; exact Int.le_refl _
  unfold stm sdR boR drR hoR poR poR2 poR3 waR waR2 adP adW
  repeat' split
  all_goals (first | exact Int.le_refl _ | (show v 15 3 ≤ _; simp (disch := omega) only [jupn, jups, up1_n, up1_s, tok_15]; omega))
end YA
/-- the whole reading -/
noncomputable def rdR : Nat → Int → jW → Int × jW
  | 0, _, v => (-1, v)
  | m + 1, k, v => if (stm (tok v)).1 = 0 then (-1, (stm (tok v)).2) else if tok (stm (tok v)).2 26 1 < tok (stm (tok v)).2 26 0 then (if tok (stm (tok v)).2 27 (tok (stm (tok v)).2 26 1) = 59 then rdR m (k + 1) (tok (stm (tok v)).2) else (-1, tok (stm (tok v)).2)) else (k, tok (stm (tok v)).2)
section YB
variable {w u v : jW} {Q : jV → jW → Prop} {K c k a s x : Int}
theorem rdR_0 {m : Nat} (h : (stm (tok v)).1 = 0) : rdR (m + 1) k v = (-1, (stm (tok v)).2) := if_pos h
theorem rdR_s {m : Nat} (h : (stm (tok v)).1 ≠ 0) (h2 : tok (stm (tok v)).2 26 1 < tok (stm (tok v)).2 26 0) (h3 : tok (stm (tok v)).2 27 (tok (stm (tok v)).2 26 1) = 59) : rdR (m + 1) k v = rdR m (k + 1) (tok (stm (tok v)).2) := by
  show (if (stm (tok v)).1 = 0 then (-1, (stm (tok v)).2) else if tok (stm (tok v)).2 26 1 < tok (stm (tok v)).2 26 0 then (if tok (stm (tok v)).2 27 (tok (stm (tok v)).2 26 1) = 59 then rdR m (k + 1) (tok (stm (tok v)).2) else (-1, tok (stm (tok v)).2)) else (k, tok (stm (tok v)).2)) = _
  rw [if_neg h, if_pos h2, if_pos h3]
theorem rdR_x {m : Nat} (h : (stm (tok v)).1 ≠ 0) (h2 : tok (stm (tok v)).2 26 1 < tok (stm (tok v)).2 26 0) (h3 : ¬ tok (stm (tok v)).2 27 (tok (stm (tok v)).2 26 1) = 59) : rdR (m + 1) k v = (-1, tok (stm (tok v)).2) := by
  show (if (stm (tok v)).1 = 0 then (-1, (stm (tok v)).2) else if tok (stm (tok v)).2 26 1 < tok (stm (tok v)).2 26 0 then (if tok (stm (tok v)).2 27 (tok (stm (tok v)).2 26 1) = 59 then rdR m (k + 1) (tok (stm (tok v)).2) else (-1, tok (stm (tok v)).2)) else (k, tok (stm (tok v)).2)) = _
  rw [if_neg h, if_pos h2, if_neg h3]
theorem rdR_e {m : Nat} (h : (stm (tok v)).1 ≠ 0) (h2 : ¬ tok (stm (tok v)).2 26 1 < tok (stm (tok v)).2 26 0) : rdR (m + 1) k v = (k, tok (stm (tok v)).2) := by
  show (if (stm (tok v)).1 = 0 then (-1, (stm (tok v)).2) else if tok (stm (tok v)).2 26 1 < tok (stm (tok v)).2 26 0 then (if tok (stm (tok v)).2 27 (tok (stm (tok v)).2 26 1) = 59 then rdR m (k + 1) (tok (stm (tok v)).2) else (-1, tok (stm (tok v)).2)) else (k, tok (stm (tok v)).2)) = _
  rw [if_neg h, if_neg h2]
theorem sT_tok (O : TO v) : AW mT_takeToken 0 [jR 26] [] v Q = Q (jI 0) (tok v) := sT_token O.1 O.2
theorem sT_into (m : Nat) : ∀ (k : Int) (v : jW), k + (m : Int) = 251 → 1 ≤ k → TO v → DOk v → Q (jI (rdR m k v).1) (rdR m k v).2 → AW mT_readInto 7 [jR 26, jR 15, jI k] [] v Q := by
  induction m with
  | zero =>
    intro k v hk k1 O D hQ
    rw [bT_readInto_7, if_pos (by omega)]
    exact hQ
  | succ m ih =>
    intro k v hk k1 O D hQ
    have t1 := TO.tok O
    have ok := stm_ok t1.1 D.tok
    rw [bT_readInto_7, if_neg (by omega), sT_tok O, bT_readInto_18]
    refine sT_stm t1.1 D.tok ?_
    rw [bT_readInto_23]
    by_cases c : (stm (tok v)).1 = 0
    · rw [rdR_0 c] at hQ
      rw [if_pos c]; exact hQ
    · have D2 : DOk (stm (tok v)).2 := ok.2.2.2 (by have := ok.1; omega)
      have t2 := TO.tok ok.2.2.1.1
      rw [if_neg c, sT_tok ok.2.2.1.1, bT_readInto_32]
      by_cases c2 : tok (stm (tok v)).2 26 1 < tok (stm (tok v)).2 26 0
      · have o1 := t2.1.1.1
        have o2 := t2.1.2
        rw [if_pos c2, sT_byteAt o1.2, if_pos ⟨o2.1, c2⟩, bT_readInto_53]
        by_cases c3 : tok (stm (tok v)).2 27 (tok (stm (tok v)).2 26 1) = 59
        · rw [rdR_s c c2 c3] at hQ
          rw [if_pos c3, n32s (x := k + 1) (by omega) (by omega)]
          exact ih (k + 1) _ (by omega) (by omega) t2.1.1 D2.tok hQ
        · rw [rdR_x c c2 c3] at hQ
          rw [if_neg c3]; exact hQ
      · rw [rdR_e c c2] at hQ
        rw [if_neg c2]; exact hQ
theorem rdR_ok (m : Nat) : ∀ (k : Int) (v : jW), 1 ≤ k → (TO v ∧ (m = 0 → TT v)) → DOk v → CF v (rdR m k v).2 ∧ TT (rdR m k v).2 ∧ v 15 3 ≤ (rdR m k v).2 15 3 ∧ ((rdR m k v).1 = -1 ∨ (1 ≤ (rdR m k v).1 ∧ DOk (rdR m k v).2)) := by
  induction m with
  | zero =>
    intro k v k1 O D
    exact ⟨CF.r, O.2 rfl, Int.le_refl _, Or.inl rfl⟩
  | succ m ih =>
    intro k v k1 O D
    have t1 := TO.tok O.1
    have ok := stm_ok t1.1 D.tok
    have pm := stm_pm (v := tok v)
    have C1 := t1.2.1.t ok.2.1
    rw [tok_15] at pm
    by_cases c : (stm (tok v)).1 = 0
    · rw [rdR_0 c]
      exact ⟨C1, ok.2.2.1, pm, Or.inl rfl⟩
    · have D2 : DOk (stm (tok v)).2 := ok.2.2.2 (by have := ok.1; omega)
      have t2 := TO.tok ok.2.2.1.1
      have C2 := C1.t t2.2.1
      have pm2 : v 15 3 ≤ tok (stm (tok v)).2 15 3 := by rw [tok_15]; exact pm
      by_cases c2 : tok (stm (tok v)).2 26 1 < tok (stm (tok v)).2 26 0
      · by_cases c3 : tok (stm (tok v)).2 27 (tok (stm (tok v)).2 26 1) = 59
        · rw [rdR_s c c2 c3]
          have i := ih (k + 1) _ (by omega) ⟨t2.1.1, fun _ => t2.1⟩ D2.tok
          exact ⟨C2.t i.1, i.2.1, Int.le_trans pm2 i.2.2.1, i.2.2.2⟩
        · rw [rdR_x c c2 c3]
          exact ⟨C2, t2.1, pm2, Or.inl rfl⟩
      · rw [rdR_e c c2]
        exact ⟨C2, t2.1, pm2, Or.inr ⟨k1, D2.tok⟩⟩
theorem sM_fen17 (m : Nat) : ∀ (k : Int) (u v : jW), k + (m : Int) = 251 → 1 ≤ k → 2 * (k - 1) ≤ v 26 2 → TO v → DOk v → TM u v → LM u v →
    ((rdR m k v).1 ≠ -1 → ∀ u', FR u u' → LM u' (rdR m k v).2 → Q (jI (rdR m k v).1) (jup u' 45 11 0)) →
    ((rdR m k v).1 = -1 → ∀ u' x1, FR u u' → u' 45 13 = (rdR m k v).2 26 1 → AW mM_fen 17 [jR 45, jI x1, jI 0] [] u' Q) →
    AW mM_fen 17 [jR 45, jI (k - 1), jI 1] [] u Q := by
  induction m with
  | zero =>
    intro k u v hk k1 hb O D T L hT hF
    have := O.1
    have := O.2
    omega
  | succ m ih =>
    intro k u v hk k1 hb O D T L hT hF
    have t1 := TO.tok O
    have ok := stm_ok t1.1 D.tok
    have o1 := O.1
    have o2 := O.2
    rw [bM_fen_17, if_neg (by omega)]
    refine sM_tok T O (fun u1 N1 T1 => ?_)
    rw [bM_fen_25]
    refine sM_stm T1 t1.1 (L.n N1).tok D.tok ⟨fun r u2 F2 T2 L2 => ?_, fun r u2 F2 e13 => ?_⟩
    · have c : (stm (tok v)).1 ≠ 0 := by omega
      have D2 : DOk (stm (tok v)).2 := ok.2.2.2 r
      have t2 := TO.tok ok.2.2.1.1
      have ps := stm_pos r
      show AW mM_fen 29 [jR 45, jI (k - 1), jI 1] [jI 1] u2 Q
      rw [bM_fen_29, if_neg (by omega)]
      refine sM_tok T2 ok.2.2.1.1 (fun u3 N3 T3 => ?_)
      have L3 := (L2.n N3).tok
      have F3 := (N1.fr.t F2).t N3.fr
      have kk := T3.2.2.1
      rw [bM_fen_44, kk, n32s (x := k - 1 + 1) (by omega) (by omega), show k - 1 + 1 = k by omega]
      by_cases c2 : tok (stm (tok v)).2 26 1 < tok (stm (tok v)).2 26 0
      · have n101 : tkK (tok (stm (tok v)).2 27) (tok (stm (tok v)).2 26 0) (tok (stm (tok v)).2 26 1) (tok (stm (tok v)).2 26 2) ≠ 101 := by
          unfold tkK
          rw [if_pos c2]
          repeat' split
          all_goals omega
        rw [if_neg n101]
        by_cases c3 : tok (stm (tok v)).2 27 (tok (stm (tok v)).2 26 1) = 59
        · have k59 : tkK (tok (stm (tok v)).2 27) (tok (stm (tok v)).2 26 0) (tok (stm (tok v)).2 26 1) (tok (stm (tok v)).2 26 2) = 59 := by
            unfold tkK
            rw [if_pos c2, c3, if_neg (by unfold letB; omega), if_neg (by unfold digB; omega), if_pos rfl]
          rw [rdR_s c c2 c3] at hT hF
          rw [if_pos k59]
          have g1 := t1.2.2 (by have := t1.1.1.2; rw [tok_0] at this; omega)
          have g2 := t2.2.2 (by rw [tok_0] at c2; exact c2)
          have g3 := ok.2.1.2.2
          have W := ih (k + 1) u3 (tok (stm (tok v)).2) (by omega) (by omega) (by omega) t2.1.1 D2.tok T3.1 L3 (fun z u' F' L' => hT z u' (F3.t F') L') (fun z u' x1 F' e => hF z u' x1 (F3.t F') e)
          rw [show k + 1 - 1 = k by omega] at W
          exact W
        · have k59 : tkK (tok (stm (tok v)).2 27) (tok (stm (tok v)).2 26 0) (tok (stm (tok v)).2 26 1) (tok (stm (tok v)).2 26 2) ≠ 59 := by
            unfold tkK
            rw [if_pos c2, if_neg c3]
            repeat' split
            all_goals omega
          rw [rdR_x c c2 c3] at hT hF
          rw [if_neg k59]
          exact hF rfl u3 k F3 T3.2.1
      · have k101 : tkK (tok (stm (tok v)).2 27) (tok (stm (tok v)).2 26 0) (tok (stm (tok v)).2 26 1) (tok (stm (tok v)).2 26 2) = 101 := by
          unfold tkK
          rw [if_neg c2]
        rw [rdR_e c c2] at hT hF
        rw [if_pos k101]
        exact hT (by show k ≠ -1; omega) u3 F3 L3
    · rw [rdR_0 r] at hT hF
      show AW mM_fen 29 [jR 45, jI (k - 1), jI 1] [jI 0] u2 Q
      rw [bM_fen_29, if_pos rfl]
      exact hF rfl u2 _ (N1.fr.t F2) e13
end YB
