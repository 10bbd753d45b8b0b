/-! fen -/
/-- u's draft is w's land -/
def DC (w u : jW) : Prop := (∀ o, (o < 15 ∨ 21 < o) → u o = w o) ∧ (u 15 0 = w 1 0 ∧ u 15 1 = w 1 1 ∧ u 15 2 = w 1 2 ∧ u 15 3 = w 1 3 ∧ u 15 4 = w 1 4) ∧ Eqn 67 (u 16) (w 2) ∧ Eqn 8 (u 17) (w 3) ∧ Eqn 8 (u 18) (w 4) ∧ Eqn 8 (u 19) (w 5) ∧ Eqn 4 (u 20) (w 6) ∧ Eqn 4 (u 21) (w 7)
/-- u's land is w's draft -/
def LC (w u : jW) : Prop := (∀ o, (o < 1 ∨ 7 < o) → u o = w o) ∧ (u 1 0 = w 15 0 ∧ u 1 1 = w 15 1 ∧ u 1 2 = w 15 2 ∧ u 1 3 = w 15 3 ∧ u 1 4 = w 15 4) ∧ Eqn 67 (u 2) (w 16) ∧ Eqn 8 (u 3) (w 17) ∧ Eqn 8 (u 4) (w 18) ∧ Eqn 8 (u 5) (w 19) ∧ Eqn 4 (u 6) (w 20) ∧ Eqn 4 (u 7) (w 21)
section ZA
variable {w u v : jW} {Q : jV → jW → Prop} {K c k a s x : Int}
theorem sL_take15 (hQ : ∀ u, DC w u → Q (jI 0) u) : AW mL_takeFrom 0 [jR 15, jR 1] [] w Q := by
  rw [bL_takeFrom_r15_r1_0]
  simp only [if_true, if_false, Int.reduceEq, Int.reduceLT, Int.reduceLE, Int.reduceNeg, Int.reduceSub, Int.reduceAdd, Int.reduceMul, true_and, and_true, and_self, or_true, true_or, or_false, false_or, or_self, if_pos (show (0 : Int) ≤ 67 by omega), if_pos (show (0 : Int) ≤ 8 by omega), if_pos (show (0 : Int) ≤ 4 by omega)]
  refine hQ _ ⟨fun o ho => ?_, ?_, ?_, ?_, ?_, ?_, ?_, ?_⟩
  · simp (disch := omega) only [jmv_ne, jupn]
  · simp (disch := omega) only [jmv_ne, jupn, jups, up1_n, up1_s]
    exact ⟨trivial, trivial, trivial, trivial, trivial⟩
  all_goals (simp (disch := omega) only [jmv_ne, jupn, jmv_z]; exact Eqn.i (by omega))
theorem sL_take1 (hQ : ∀ u, LC w u → Q (jI 0) u) : AW mL_takeFrom 0 [jR 1, jR 15] [] w Q := by
  rw [bL_takeFrom_r15_0]
  simp only [if_true, if_false, Int.reduceEq, Int.reduceLT, Int.reduceLE, Int.reduceNeg, Int.reduceSub, Int.reduceAdd, Int.reduceMul, true_and, and_true, and_self, or_true, true_or, or_false, false_or, or_self, if_pos (show (0 : Int) ≤ 67 by omega), if_pos (show (0 : Int) ≤ 8 by omega), if_pos (show (0 : Int) ≤ 4 by omega)]
  refine hQ _ ⟨fun o ho => ?_, ?_, ?_, ?_, ?_, ?_, ?_, ?_⟩
  · simp (disch := omega) only [jmv_ne, jupn]
  · simp (disch := omega) only [jmv_ne, jupn, jups, up1_n, up1_s]
    exact ⟨trivial, trivial, trivial, trivial, trivial⟩
  all_goals (simp (disch := omega) only [jmv_ne, jupn, jmv_z]; exact Eqn.i (by omega))
theorem p_fen (h : INV K w) : Both mX_fen mM_fen [jR 0, jX, jX] [jR 45, jX, jX] K w := by
  unfold Both
  have kk := h.wk
  have e := h.eq
  have b46 := h.b46
  have hT : TOk (w 26 0) (w 27) := h.1.2.1
  have hL : LOk (w 1 0) (w 1 1) (w 1 3) (w 1 4) (w 2) (w 3) (w 4) (w 5) (w 6) (w 7) := h.1.1
  have hS : SOk (w 1 3) (w 23) (w 24) (w 25) := h.1.2.2.1
  have hK := h.1.2.2.2
  rw [bX_fen_0]
  refine sL_take15 (fun w1 C => ?_)
  obtain ⟨C1, ⟨C2, C3, C4, C5, C6⟩, C7, C8, C9, C10, C11, C12⟩ := C
  rw [bX_fen_11, bT_readInto_0]
  have D0 : DOk (jup w1 26 2 0) := by
    unfold DOk
    simp (disch := omega) only [jupn]
    rw [C2, C3, C5, C6]
    exact hL.cg C7 (C8.le (by omega)) (C9.le (by omega)) (C10.le (by omega)) (C11.le (by omega)) (C12.le (by omega))
  have e26 : w1 26 = w 26 := C1 26 (by omega)
  have O0 : TO (jup w1 26 2 0) := by
    unfold TO
    rw [jups, up1_n (by omega), up1_s, e26]
    exact ⟨⟨hT.1, hT.2.1⟩, by omega, hT.1⟩
  refine sT_into 250 1 _ rfl (by omega) O0 D0 ?_
  have OK := rdR_ok 250 1 (jup w1 26 2 0) (by omega) ⟨O0, fun t => by omega⟩ D0
  have MR0 := fun Q u T L => sM_fen17 (Q := Q) 250 1 u (jup w1 26 2 0) rfl (by omega) (by rw [jups, up1_s]; omega) O0 D0 T L
  obtain ⟨r, hr⟩ : ∃ r, rdR 250 1 (jup w1 26 2 0) = r := ⟨_, rfl⟩
  rw [hr] at OK MR0 ⊢
  obtain ⟨K1, K2, K3, K4⟩ := OK
  have kept : ∀ o, (o < 15 ∨ 21 < o) → o ≠ 26 → r.2 o = w o := fun o p q => by rw [K1.1 o p q, jupn q, C1 o p]
  have MR : ∀ uC : jW, (∀ o, 44 < o → o < 58 → uC o = w o) → ∀ Q : jV → jW → Prop,
      (r.1 ≠ -1 → ∀ u', (∀ o, (o < 45 ∨ 51 < o) → o ≠ 58 → u' o = uC o) → u' 45 21 = w 45 21 → LM u' r.2 → Q (jI r.1) (jup u' 45 11 0)) →
      (r.1 = -1 → ∀ z : jW, (∀ o, (o < 45 ∨ 51 < o) → o ≠ 58 → o ≠ 56 → z o = uC o) → z 56 = up1 (w 56) 2 (n32 (w 56 2 + 1)) → (z 45 0 = w 45 0 ∧ z 45 2 = w 45 2 ∧ z 45 10 = w 45 10 ∧ z 45 3 = w 45 3 ∧ z 45 7 = w 45 7) → z 45 21 = w 45 21 → z 45 11 = 0 → Eqn 67 (z 46) (w 46) → Eqn 8 (z 47) (w 47) → Eqn 8 (z 48) (w 48) → Eqn 8 (z 49) (w 49) → Eqn 4 (z 50) (w 50) → Eqn 4 (z 51) (w 51) → Q (jI (n32 (-20 - r.2 26 1))) z) →
      AW mM_fen 0 [jR 45, jX, jX] [] uC Q := by
    intro uC hu Q hT hF
    rw [bM_fen_0]
    refine sM_keep_58 (by rw [hu 46 (by omega) (by omega)]; exact b46) (fun g hg g1 g2 g3 g4 g5 => ?_)
    unfold KG at hg
    rw [hu 46 (by omega) (by omega), hu 47 (by omega) (by omega), hu 48 (by omega) (by omega), hu 49 (by omega) (by omega), hu 50 (by omega) (by omega), hu 51 (by omega) (by omega)] at hg
    rw [hu 45 (by omega) (by omega)] at g1 g2 g3 g4 g5
    obtain ⟨hg1, hg2, hg3⟩ := hg
    have E45 : ∀ f, f ≠ 14 → jup (jwr uC 58 g) 45 14 0 45 f = w 45 f := fun f hf => by rw [jups, up1_n hf, jwr_n (by omega), hu 45 (by omega) (by omega)]
    have Eo : ∀ o, 45 < o → o < 58 → jup (jwr uC 58 g) 45 14 0 o = w o := fun o p q => by rw [jupn (by omega), jwr_n (by omega), hu o (by omega) q]
    have T0 : TM (jup (jwr uC 58 g) 45 14 0) (jup w1 26 2 0) := by
      unfold TM
      rw [E45 11 (by omega), Eo 52 (by omega) (by omega), jups, up1_s, jups, up1_n (by omega), up1_s, jupn (by omega), e26, C1 27 (by omega)]
      exact ⟨e.2.2.2.2.2.1, h.2.1.2.2.2.2.2.2.2.1, rfl⟩
    have L0 : LM (jup (jwr uC 58 g) 45 14 0) (jup w1 26 2 0) := by
      unfold LM
      rw [E45 0 (by omega), E45 2 (by omega), E45 10 (by omega), E45 3 (by omega), E45 7 (by omega), Eo 46 (by omega) (by omega), Eo 47 (by omega) (by omega), Eo 48 (by omega) (by omega), Eo 49 (by omega) (by omega), Eo 50 (by omega) (by omega), Eo 51 (by omega) (by omega)]
      simp (disch := omega) only [jupn]
      rw [C2, C3, C4, C5, C6]
      obtain ⟨_, m1, m2, m3, m4, m5, m6, _⟩ := h.2.1
      exact ⟨⟨e.1, e.2.1, e.2.2.2.2.1, e.2.2.1, e.2.2.2.1⟩, m1.tr C7.sym, m2.tr (C8.le (by omega)).sym, m3.tr (C9.le (by omega)).sym, m4.tr (C10.le (by omega)).sym, m5.tr (C11.le (by omega)).sym, m6.tr (C12.le (by omega)).sym⟩
    rw [bM_fen_8]
    have R := MR0 Q (jup (jwr uC 58 g) 45 14 0) T0 L0 (fun z u' F L => hT z u' (fun o p q => by rw [F.1 o p, jupn (by omega), jwr_n q]) (by rw [F.2.2, E45 21 (by omega)]) L) (fun z u' x1 F e13 => by
      have e58 : u' 58 = g := by rw [F.1 58 (by omega), jupn (by omega), jwr_s]
      rw [bM_fen_17, if_pos rfl]
      refine sM_again_58 (by rw [e58]; intro c a b; rw [hg1 c a b]; exact b46 c a b) (fun v A => ?_)
      obtain ⟨A1, A2, A3, A4, A5⟩ := A
      rw [e58] at A3 A4 A5
      have U45 : ∀ f, f ≠ 0 → f ≠ 2 → f ≠ 3 → f ≠ 7 → f ≠ 10 → up5 u' v 58 45 f = u' 45 f := fun f p0 p1 p2 p3 p4 => by unfold up5; rw [jups, up1_n p4, jups, up1_n p3, jups, up1_n p2, jups, up1_n p1, jups, up1_n p0, A2]
      have Uo : ∀ o, o ≠ 45 → up5 u' v 58 o = v o := fun o p => by unfold up5; rw [jupn p, jupn p, jupn p, jupn p, jupn p]
      have e56 : u' 56 = w 56 := by rw [F.1 56 (by omega), Eo 56 (by omega) (by omega)]
      rw [bM_fen_86, sM_no2, bM_fen_97, rM_n (by omega), jups, up1_n (by omega), U45 13 (by omega) (by omega) (by omega) (by omega) (by omega), e13]
      refine hF z _ (fun o p q q2 => ?_) ?_ ?_ ?_ ?_ ?_ ?_ ?_ ?_ ?_ ?_
      · rw [rM_n q2, jupn (by omega), Uo o (by omega), A1 o p, F.1 o p, jupn (by omega), jwr_n q]
      · unfold rM
        rw [jups, jupn (by omega), Uo 56 (by omega), A1 56 (by omega), e56]
        rfl
      · rw [rM_n (by omega), jups]
        unfold up5
        rw [e58]
        simp (disch := omega) only [jups, up1_n, up1_s]
        exact ⟨g1, g2, g5, g3, g4⟩
      · rw [rM_n (by omega), jups, up1_n (by omega), U45 21 (by omega) (by omega) (by omega) (by omega) (by omega), F.2.2, E45 21 (by omega)]
      · rw [rM_n (by omega), jups, up1_s]
      · rw [rM_n (by omega), jupn (by omega), Uo 46 (by omega)]
        intro c a b
        rw [A3 c a b, hg1 c a b]
      · rw [rM_n (by omega), jupn (by omega), Uo 47 (by omega)]
        intro c a b
        rw [(A4 c a b).1, (hg2 c a b).1]
      · rw [rM_n (by omega), jupn (by omega), Uo 48 (by omega)]
        intro c a b
        rw [(A4 c a b).2.1, (hg2 c a b).2.1]
      · rw [rM_n (by omega), jupn (by omega), Uo 49 (by omega)]
        intro c a b
        rw [(A4 c a b).2.2, (hg2 c a b).2.2]
      · rw [rM_n (by omega), jupn (by omega), Uo 50 (by omega)]
        intro c a b
        rw [(A5 c a b).1, (hg3 c a b).1]
      · rw [rM_n (by omega), jupn (by omega), Uo 51 (by omega)]
        intro c a b
        rw [(A5 c a b).2, (hg3 c a b).2])
    exact R
  obtain ⟨hm1, hm2, hm3, hm4, hm5, hm6, hm7, hm8, hm9, hm10, hm11, hm12, hm13⟩ := h.2.1
  have k10 : r.2 26 0 = w 26 0 := by rw [K1.2.1, jups, up1_n (by omega), e26]
  have k2 := K2.1
  have k2' := K2.2
  show AW mX_fen 22 [jR 0, jX, jX] [jI r.1] r.2 _
  rw [bX_fen_22]
  by_cases z : r.1 = -1
  · rw [if_pos z, sX_refuse2, bX_fen_50]
    refine MR _ (fun o p q => by rw [rX_n (by omega), jupn (by omega), kept o (by omega) (by omega)]) _ (fun t => absurd z t) (fun _ u2 Z1 Z2 Z3 Z4 Z5 Z6 Z7 Z8 Z9 Z10 Z11 => ?_)
    have Zc : ∀ o, (o < 15 ∨ (21 < o ∧ o < 45) ∨ (51 < o ∧ o < 58 ∧ o ≠ 56) ∨ 61 < o) → o ≠ 26 → o ≠ 41 → u2 o = w o := fun o p q q2 => by rw [Z1 o (by omega) (by omega) (by omega), rX_n q2, jupn q, kept o (by omega) q]
    have z26 : u2 26 0 = 0 := by rw [Z1 26 (by omega) (by omega) (by omega), rX_n (by omega), jups, up1_s]
    have z41 : u2 41 = up1 (w 41) 0 (n32 (w 41 0 + 1)) := by
      rw [Z1 41 (by omega) (by omega) (by omega)]
      unfold rX
      rw [jups, jupn (by omega), kept 41 (by omega) (by omega)]
      rfl
    refine ⟨rfl, ⟨?_, ?_, ?_⟩, fun o q => Zc o (by omega) (by omega) (by omega)⟩
    · unfold OKC
      rw [z26, Zc 0 (by omega) (by omega) (by omega), Zc 1 (by omega) (by omega) (by omega), Zc 2 (by omega) (by omega) (by omega), Zc 3 (by omega) (by omega) (by omega), Zc 4 (by omega) (by omega) (by omega), Zc 5 (by omega) (by omega) (by omega), Zc 6 (by omega) (by omega) (by omega), Zc 7 (by omega) (by omega) (by omega), Zc 8 (by omega) (by omega) (by omega), Zc 9 (by omega) (by omega) (by omega), Zc 10 (by omega) (by omega) (by omega), Zc 11 (by omega) (by omega) (by omega), Zc 12 (by omega) (by omega) (by omega), Zc 13 (by omega) (by omega) (by omega), Zc 14 (by omega) (by omega) (by omega), Zc 23 (by omega) (by omega) (by omega), Zc 24 (by omega) (by omega) (by omega), Zc 25 (by omega) (by omega) (by omega)]
      exact ⟨hL, ⟨by omega, by omega, fun i a b => by omega⟩, hS, hK⟩
    · unfold RM Ra
      rw [z26, z41, Z2, Z3.1, Z3.2.1, Z3.2.2.1, Z3.2.2.2.1, Z3.2.2.2.2, Z4, Z5, Zc 0 (by omega) (by omega) (by omega), Zc 1 (by omega) (by omega) (by omega), Zc 2 (by omega) (by omega) (by omega), Zc 3 (by omega) (by omega) (by omega), Zc 4 (by omega) (by omega) (by omega), Zc 5 (by omega) (by omega) (by omega), Zc 6 (by omega) (by omega) (by omega), Zc 7 (by omega) (by omega) (by omega), Zc 8 (by omega) (by omega) (by omega), Zc 9 (by omega) (by omega) (by omega), Zc 10 (by omega) (by omega) (by omega), Zc 11 (by omega) (by omega) (by omega), Zc 12 (by omega) (by omega) (by omega), Zc 13 (by omega) (by omega) (by omega), Zc 14 (by omega) (by omega) (by omega), Zc 23 (by omega) (by omega) (by omega), Zc 24 (by omega) (by omega) (by omega), Zc 25 (by omega) (by omega) (by omega), Zc 53 (by omega) (by omega) (by omega), Zc 54 (by omega) (by omega) (by omega), Zc 55 (by omega) (by omega) (by omega), Zc 57 (by omega) (by omega) (by omega)]
      refine ⟨⟨e.1, e.2.1, e.2.2.2.2.1, e.2.2.1, e.2.2.2.1, rfl, e.2.2.2.2.2.2⟩, Z6.tr hm2, (Z7.le (by omega)).tr hm3, (Z8.le (by omega)).tr hm4, (Z9.le (by omega)).tr hm5, (Z10.le (by omega)).tr hm6, (Z11.le (by omega)).tr hm7, fun i a b => by omega, hm9, hm10, hm11, ?_, hm13⟩
      intro i a b
      have q := hm12 i a b
      have q0 := hm12 0 (by omega) (by omega)
      by_cases y : i = 0
      · rw [y]
        show up1 (w 56) 2 (n32 (w 56 2 + 1)) (0 + 2) = up1 (w 41) 0 (n32 (w 41 0 + 1)) 0
        have q0' : w 56 2 = w 41 0 := q0
        rw [show (0 : Int) + 2 = 2 by omega, up1_s, up1_s, q0']
      · show up1 (w 56) 2 (n32 (w 56 2 + 1)) (i + 2) = up1 (w 41) 0 (n32 (w 41 0 + 1)) i
        rw [up1_n (by omega), up1_n y]
        exact q
    · have L := h.2.2.le (K' := K + 2100) (by omega)
      unfold LK at L ⊢
      rw [Zc 30 (by omega) (by omega) (by omega), Zc 37 (by omega) (by omega) (by omega)]
      exact L
  · have K5 := K4.resolve_left z
    have D5 : LOk (r.2 15 0) (r.2 15 1) (r.2 15 3) (r.2 15 4) (r.2 16) (r.2 17) (r.2 18) (r.2 19) (r.2 20) (r.2 21) := K5.2
    have p8 : 0 ≤ r.2 15 3 ∧ r.2 15 3 ≤ 8 := D5.2.2.1
    have w4 : 0 ≤ r.2 15 4 ∧ r.2 15 4 ≤ 4 := D5.2.2.2.1
    rw [if_neg z]
    refine sL_take1 (fun uC B => ?_)
    obtain ⟨B1, ⟨B2, B3, B4, B5, B6⟩, B7, B8, B9, B10, B11, B12⟩ := B
    simp (disch := omega) only [jupn] at B2 B3 B4 B5 B6 B7 B8 B9 B10 B11 B12
    rw [bX_fen_67]
    refine MR _ (fun o p q => by rw [B1 o (by omega), jupn (by omega), kept o (by omega) (by omega)]) _ (fun _ u' Z1 Z4 Z3 => ?_) (fun t => absurd t z)
    have Zc : ∀ o, (o < 1 ∨ (7 < o ∧ o < 15) ∨ (21 < o ∧ o < 45) ∨ (51 < o ∧ o < 58) ∨ 61 < o) → o ≠ 26 → jup u' 45 11 0 o = w o := fun o p q => by rw [jupn (by omega), Z1 o (by omega) (by omega), B1 o (by omega), jupn q, kept o (by omega) q]
    have Zl : ∀ o, 0 < o → o < 8 → jup u' 45 11 0 o = uC o := fun o p q => by rw [jupn (by omega), Z1 o (by omega) (by omega)]
    have z26 : jup u' 45 11 0 26 0 = 0 := by rw [jupn (by omega), Z1 26 (by omega) (by omega), B1 26 (by omega), jups, up1_s]
    have Z45 : ∀ f, f ≠ 11 → jup u' 45 11 0 45 f = u' 45 f := fun f hf => by rw [jups, up1_n hf]
    have Zm : ∀ o, 45 < o → o < 52 → jup u' 45 11 0 o = u' o := fun o p q => jupn (by omega)
    obtain ⟨⟨l0, l1', l2, l3, l4⟩, l5, l6, l7, l8, l9, l10⟩ := Z3
    have pm : w 1 3 ≤ r.2 15 3 := by
      rw [jupn (by omega), C5] at K3; exact K3
    refine ⟨rfl, ⟨?_, ?_, ?_⟩, fun o q => Zc o (by omega) (by omega)⟩
    · unfold OKC
      rw [z26, Zc 0 (by omega) (by omega), Zl 1 (by omega) (by omega), Zl 2 (by omega) (by omega), Zl 3 (by omega) (by omega), Zl 4 (by omega) (by omega), Zl 5 (by omega) (by omega), Zl 6 (by omega) (by omega), Zl 7 (by omega) (by omega), Zc 8 (by omega) (by omega), Zc 9 (by omega) (by omega), Zc 10 (by omega) (by omega), Zc 11 (by omega) (by omega), Zc 12 (by omega) (by omega), Zc 13 (by omega) (by omega), Zc 14 (by omega) (by omega), Zc 23 (by omega) (by omega), Zc 24 (by omega) (by omega), Zc 25 (by omega) (by omega), B2, B3, B5, B6]
      refine ⟨D5.cg B7 (B8.le (by omega)) (B9.le (by omega)) (B10.le (by omega)) (B11.le (by omega)) (B12.le (by omega)), ⟨by omega, by omega, fun i a b => by omega⟩, ⟨fun s a b => ?_, hS.2⟩, hK⟩
      have := hS.1 s a b
      omega
    · unfold RM Ra
      rw [z26, Z45 0 (by omega), Z45 2 (by omega), Z45 10 (by omega), Z45 3 (by omega), Z45 7 (by omega), Z45 21 (by omega), jups, up1_s, Z4, Zm 46 (by omega) (by omega), Zm 47 (by omega) (by omega), Zm 48 (by omega) (by omega), Zm 49 (by omega) (by omega), Zm 50 (by omega) (by omega), Zm 51 (by omega) (by omega), Zc 0 (by omega) (by omega), Zl 1 (by omega) (by omega), Zl 2 (by omega) (by omega), Zl 3 (by omega) (by omega), Zl 4 (by omega) (by omega), Zl 5 (by omega) (by omega), Zl 6 (by omega) (by omega), Zl 7 (by omega) (by omega), Zc 8 (by omega) (by omega), Zc 9 (by omega) (by omega), Zc 10 (by omega) (by omega), Zc 11 (by omega) (by omega), Zc 12 (by omega) (by omega), Zc 13 (by omega) (by omega), Zc 14 (by omega) (by omega), Zc 23 (by omega) (by omega), Zc 24 (by omega) (by omega), Zc 25 (by omega) (by omega), Zc 41 (by omega) (by omega), Zc 53 (by omega) (by omega), Zc 54 (by omega) (by omega), Zc 55 (by omega) (by omega), Zc 56 (by omega) (by omega), Zc 57 (by omega) (by omega), B2, B3, B4, B5, B6]
      exact ⟨⟨l0, l1', l2, l3, l4, rfl, e.2.2.2.2.2.2⟩, l5.tr B7.sym, l6.tr (B8.le (by omega)).sym, l7.tr (B9.le (by omega)).sym, l8.tr (B10.le (by omega)).sym, l9.tr (B11.le (by omega)).sym, l10.tr (B12.le (by omega)).sym, fun i a b => by omega, hm9, hm10, hm11, hm12, hm13⟩
    · have L := h.2.2.le (K' := K + 2100) (by omega)
      unfold LK at L ⊢
      rw [Zc 30 (by omega) (by omega), Zc 37 (by omega) (by omega)]
      exact L
end ZA
