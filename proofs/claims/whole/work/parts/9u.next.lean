/-! numbers; the reference's tokens -/
def dcV (b : Int → Int) (s e : Int) : Int := if e = s + 1 then b s - 48 else 10 * (b s - 48) + b (s + 1) - 48
def nuV (b : Int → Int) (n s e : Int) : Int := if (s < n ∧ digB (b s)) ∧ e - s ≤ 2 then dcV b s e else -1
def tkK (b : Int → Int) (n s e : Int) : Int := if s < n then (if letB (b s) then 119 else if digB (b s) then (if 2 < e - s then 120 else 48) else if b s = 59 then 59 else 120) else 101
/-- only the token at hand is another -/
def N45 (w u : jW) : Prop := (∀ o, o ≠ 45 → u o = w o) ∧ ∀ f, f ≠ 13 → f ≠ 14 → f ≠ 15 → f ≠ 16 → u 45 f = w 45 f
section NB
variable {w u v : jW} {Q : jV → jW → Prop} {K i s e x : Int}
theorem tkE_d {b : Int → Int} {n e : Int} (he : e ≤ n) (h : tkS b n e < n) (hd : digB (b (tkS b n e))) : ∀ j, tkS b n e ≤ j → j < tkE b n e → digB (b j) := by
  intro j a c
  have nl : ¬ letB (b (tkS b n e)) := by unfold letB; unfold digB at hd; omega
  have d := rdD_in (b := b) (n := n) (n - (tkS b n e + 1)).toNat (tkS b n e + 1) (by omega)
  unfold tkE at c
  rw [if_pos h, if_neg nl, if_pos hd] at c
  by_cases z : j = tkS b n e
  · rw [z]; exact hd
  · exact d.2.2 j (by omega) c
theorem sT_number (h : 0 ≤ w 26 0 ∧ w 26 0 ≤ 250) (he : 0 ≤ w 26 2 ∧ w 26 2 ≤ w 26 0) : AW mT_takeNumber 0 [jR 26, jX, jX] [] w Q = Q (jI (nuV (w 27) (w 26 0) (tkS (w 27) (w 26 0) (w 26 2)) (tkE (w 27) (w 26 0) (w 26 2)))) (tkW w (tkS (w 27) (w 26 0) (w 26 2)) (tkE (w 27) (w 26 0) (w 26 2))) := by
  have a := tkS_in (b := w 27) he.2
  have b := tkE_in (b := w 27) he.2
  have dg := tkE_d (b := w 27) he.2
  rw [bT_takeNumber_0, sT_token h he]
  generalize tkS (w 27) (w 26 0) (w 26 2) = S at a b dg ⊢
  generalize tkE (w 27) (w 26 0) (w 26 2) = E at b dg ⊢
  have hB : ∀ x Q, AW mT_byteAt 0 [jR 26, jI x] [] (tkW w S E) Q = Q (jI (if 0 ≤ x ∧ x < w 26 0 then w 27 x else -1)) (tkW w S E) := by
    intro x Q
    rw [sT_byteAt (by rw [tkW_0]; exact h.2), tkW_0, tkW_n (by omega)]
  unfold nuV
  rw [bT_takeNumber_4, tkW_1, hB, bT_takeNumber_12, sT_dig, bT_takeNumber_15, jb_ite, tkW_1, tkW_2, n32s (x := E - S) (by omega) (by omega)]
  by_cases c : S < w 26 0
  · rw [if_pos (by omega : 0 ≤ S ∧ S < w 26 0)]
    by_cases d : digB (w 27 S)
    · rw [if_pos d]
      by_cases l : 2 < E - S
      · rw [if_pos l, if_neg (by omega)]
      · have d0 := dg c d S (by omega) (by omega)
        unfold digB at d0
        rw [if_neg l, if_pos ⟨⟨c, d⟩, by omega⟩, bT_takeNumber_40, tkW_2, if_pos (by omega), hB, if_pos (by omega : 0 ≤ S ∧ S < w 26 0), bT_takeNumber_57, show n32 (10 * 0) = 0 by decide, n32s (x := 0 + w 27 S) (by omega) (by omega), n32s (x := 0 + w 27 S - 48) (by omega) (by omega), n32s (x := S + 1) (by omega) (by omega), bT_takeNumber_40, tkW_2]
        unfold dcV
        by_cases y : E = S + 1
        · rw [if_neg (by omega), if_pos y, show 0 + w 27 S - 48 = w 27 S - 48 by omega]
        · have d1 := dg c d (S + 1) (by omega) (by omega)
          unfold digB at d1
          rw [if_pos (by omega), if_neg y, hB, if_pos (by omega : 0 ≤ S + 1 ∧ S + 1 < w 26 0), bT_takeNumber_57, n32s (x := 10 * (0 + w 27 S - 48)) (by omega) (by omega), n32s (x := 10 * (0 + w 27 S - 48) + w 27 (S + 1)) (by omega) (by omega), n32s (x := 10 * (0 + w 27 S - 48) + w 27 (S + 1) - 48) (by omega) (by omega), n32s (x := S + 1 + 1) (by omega) (by omega), bT_takeNumber_40, tkW_2, if_neg (by omega), show 10 * (0 + w 27 S - 48) + w 27 (S + 1) - 48 = 10 * (w 27 S - 48) + w 27 (S + 1) - 48 by omega]
    · rw [if_neg d, if_neg (fun t => d t.1.2)]
  · have n1 : ¬ digB (-1) := by unfold digB; omega
    rw [if_neg (by omega : ¬ (0 ≤ S ∧ S < w 26 0)), if_neg n1, if_neg (fun t => c t.1.1)]
theorem N45.r : N45 w w := ⟨fun _ _ => rfl, fun _ _ _ _ _ => rfl⟩
theorem N45.t {a b c : jW} (h : N45 a b) (h' : N45 b c) : N45 a c := ⟨fun o q => (h'.1 o q).trans (h.1 o q), fun f p q r t => (h'.2 f p q r t).trans (h.2 f p q r t)⟩
theorem N45.j {f y : Int} (h : f = 13 ∨ f = 14 ∨ f = 15 ∨ f = 16) : N45 w (jup w 45 f y) := ⟨fun o q => jupn q, fun g p q r t => by rw [jups, up1_n (by omega)]⟩
/-- what next leaves -/
def NX (w u : jW) (s e k d : Int) : Prop := N45 w u ∧ u 45 13 = s ∧ u 45 14 = e ∧ u 45 15 = k ∧ (k = 48 → u 45 16 = d)
theorem sM_96 (hn : w 45 11 ≤ 250) (hQ : ∀ u, N45 w u → u 45 13 = s → u 45 15 = 119 → u 45 14 = e → Q (jI 0) u) {y1 : jV} (m : Nat) : ∀ (j : Int) (u : jW), j + (m : Int) = w 45 11 → 0 ≤ j → N45 w u → u 45 13 = s → u 45 14 = j → rlR (w 52) m j = e → AW mM_next 96 [jR 45, y1] [] u Q := by
  induction m with
  | zero =>
    intro j u hj h0 N a b d
    have e11 := N.2 11 (by omega) (by omega) (by omega) (by omega)
    have d' : j = e := d
    rw [bM_next_96, b, e11, if_neg (by omega)]
    exact hQ _ (N.t (N45.j (by omega))) (by rw [jups, up1_n (by omega)]; exact a) (by rw [jups, up1_s]) (by rw [jups, up1_n (by omega), b, d'])
  | succ m ih =>
    intro j u hj h0 N a b d
    have e11 := N.2 11 (by omega) (by omega) (by omega) (by omega)
    have e52 := N.1 52 (by omega)
    rw [bM_next_96, b, e11, if_pos (by omega), if_pos (by omega), e52, sM_let, bM_next_119, jb_ite, b, n32s (x := j + 1) (by omega) (by omega)]
    by_cases c : letB (w 52 j)
    · rw [rlR_y c] at d
      rw [if_pos c]
      exact ih (j + 1) _ (by omega) (by omega) (N.t (N45.j (by omega))) (by rw [jups, up1_n (by omega)]; exact a) (by rw [jups, up1_s]) d
    · rw [rlR_n c] at d
      rw [if_neg c]
      exact hQ _ (N.t (N45.j (by omega))) (by rw [jups, up1_n (by omega)]; exact a) (by rw [jups, up1_s]) (by rw [jups, up1_n (by omega), b, d])
theorem sM_159 (hn : w 45 11 ≤ 250) (hs : 0 ≤ s) (hd : digB (w 52 s)) (hQ : ∀ u, N45 w u → u 45 13 = s → u 45 14 = e → u 45 16 = dcV (w 52) s e → AW mM_next 235 [jR 45, jI x] [] u Q) (m : Nat) : ∀ (j : Int) (u : jW), j + (m : Int) = w 45 11 → s < j → N45 w u → u 45 13 = s → u 45 14 = j → u 45 16 = dcV (w 52) s j → (s + 1 < j → digB (w 52 (s + 1))) → rdD (w 52) m j = e → AW mM_next 159 [jR 45, jI x] [] u Q := by
  induction m with
  | zero =>
    intro j u hj h0 N a b v1 d1 d
    have e11 := N.2 11 (by omega) (by omega) (by omega) (by omega)
    have d' : j = e := d
    rw [bM_next_159, b, e11, if_neg (by omega)]
    exact hQ u N a (by rw [b, d']) (by rw [v1, d'])
  | succ m ih =>
    intro j u hj h0 N a b v1 d1 d
    have e11 := N.2 11 (by omega) (by omega) (by omega) (by omega)
    have e52 := N.1 52 (by omega)
    rw [bM_next_159, b, e11, if_pos (by omega), if_pos (by omega), e52, sM_dig, bM_next_182, jb_ite, a, b, v1, e52, n32s (x := j + 1) (by omega) (by omega), n32s (x := j - s) (by omega) (by omega)]
    by_cases c : digB (w 52 j)
    · have c' := c
      have hd' := hd
      unfold digB at c' hd'
      rw [rdD_y c] at d
      rw [if_pos c]
      by_cases y : j - s < 2
      · have js : j = s + 1 := by omega
        have dv : dcV (w 52) s j = w 52 s - 48 := if_pos js
        rw [if_pos y, if_pos (by omega), dv, n32s (x := 10 * (w 52 s - 48)) (by omega) (by omega), n32s (x := 10 * (w 52 s - 48) + w 52 j) (by omega) (by omega), n32s (x := 10 * (w 52 s - 48) + w 52 j - 48) (by omega) (by omega)]
        refine ih (j + 1) _ (by omega) (by omega) ((N.t (N45.j (by omega))).t (N45.j (by omega))) (by rw [jups, up1_n (by omega), jups, up1_n (by omega)]; exact a) (by rw [jups, up1_s]) ?_ (fun _ => by rw [← js]; exact c) d
        rw [jups, up1_n (by omega), jups, up1_s]
        unfold dcV
        rw [if_neg (by omega), js]
      · rw [if_neg y]
        refine ih (j + 1) _ (by omega) (by omega) (N.t (N45.j (by omega))) (by rw [jups, up1_n (by omega)]; exact a) (by rw [jups, up1_s]) ?_ (fun _ => d1 (by omega)) d
        rw [jups, up1_n (by omega), v1]
        unfold dcV
        rw [if_neg (by omega), if_neg (by omega)]
    · rw [rdD_n c] at d
      rw [if_neg c]
      exact hQ u N a (by rw [b, d]) (by rw [v1, d])
theorem sM_46 (hn : 0 ≤ w 45 11 ∧ w 45 11 ≤ 250) (N : N45 w u) {e0 : Int} (hS : u 45 13 = tkS (w 52) (w 45 11) e0) (he : 0 ≤ e0 ∧ e0 ≤ w 45 11) (hQ : ∀ u, NX w u (tkS (w 52) (w 45 11) e0) (tkE (w 52) (w 45 11) e0) (tkK (w 52) (w 45 11) (tkS (w 52) (w 45 11) e0) (tkE (w 52) (w 45 11) e0)) (dcV (w 52) (tkS (w 52) (w 45 11) e0) (tkE (w 52) (w 45 11) e0)) → Q (jI 0) u) :
    AW mM_next 46 [jR 45, jX] [] u Q := by
  have a := tkS_in (b := w 52) he.2
  have b := tkE_in (b := w 52) he.2
  have e11 := N.2 11 (by omega) (by omega) (by omega) (by omega)
  have e52 := N.1 52 (by omega)
  have eE : tkE (w 52) (w 45 11) e0 = (if tkS (w 52) (w 45 11) e0 < w 45 11 then (if letB (w 52 (tkS (w 52) (w 45 11) e0)) then rlR (w 52) (w 45 11 - (tkS (w 52) (w 45 11) e0 + 1)).toNat (tkS (w 52) (w 45 11) e0 + 1) else if digB (w 52 (tkS (w 52) (w 45 11) e0)) then rdD (w 52) (w 45 11 - (tkS (w 52) (w 45 11) e0 + 1)).toNat (tkS (w 52) (w 45 11) e0 + 1) else tkS (w 52) (w 45 11) e0 + 1) else w 45 11) := rfl
  generalize tkE (w 52) (w 45 11) e0 = E at b eE hQ
  generalize tkS (w 52) (w 45 11) e0 = S at a b eE hQ hS
  rw [bM_next_46, hS, e11]
  by_cases c : S = w 45 11
  · rw [if_pos c]
    refine hQ _ ⟨(N.t (N45.j (by omega))).t (N45.j (by omega)), by rw [jups, up1_n (by omega), jups, up1_n (by omega)]; exact hS, by rw [jups, up1_n (by omega), jups, up1_s]; omega, ?_, fun t => ?_⟩
    · rw [jups, up1_s]; unfold tkK; rw [if_neg (by omega)]
    · unfold tkK at t; rw [if_neg (by omega)] at t; omega
  · have c2 : S < w 45 11 := by omega
    rw [if_pos c2] at eE
    rw [if_neg c, if_pos (by omega), e52, sM_let, bM_next_93, jb_ite, sM_dig, bM_next_148, jb_ite, jup_jup, n32s (x := S + 1) (by omega) (by omega)]
    have N2 : N45 w (jup u 45 14 (S + 1)) := N.t (N45.j (by omega))
    have h13 : jup u 45 14 (S + 1) 45 13 = S := by rw [jups, up1_n (by omega)]; exact hS
    have h14 : jup u 45 14 (S + 1) 45 14 = S + 1 := by rw [jups, up1_s]
    by_cases l : letB (w 52 S)
    · rw [if_pos l] at eE
      rw [if_pos l]
      refine sM_96 hn.2 (fun u2 M p q r => hQ u2 ⟨M, p, r, ?_, fun t => ?_⟩) _ (S + 1) _ (by omega) (by omega) N2 h13 h14 eE.symm
      · unfold tkK; rw [if_pos c2, if_pos l]; exact q
      · unfold tkK at t; rw [if_pos c2, if_pos l] at t; omega
    · rw [if_neg l] at eE
      rw [if_neg l]
      by_cases d : digB (w 52 S)
      · have d' := d
        unfold digB at d'
        rw [if_pos d] at eE
        rw [if_pos d, n32s (x := w 52 S - 48) (by omega) (by omega)]
        refine sM_159 hn.2 (s := S) (by omega) d (fun u2 M p q r => ?_) _ (S + 1) _ (by omega) (by omega) (N2.t (N45.j (by omega))) (by rw [jups, up1_n (by omega)]; exact h13) (by rw [jups, up1_n (by omega)]; exact h14) (by rw [jups, up1_s]; unfold dcV; rw [if_pos rfl]) (fun t => by omega) eE.symm
        have kk : tkK (w 52) (w 45 11) S E = if 2 < E - S then 120 else 48 := by unfold tkK; rw [if_pos c2, if_neg l, if_pos d]
        rw [bM_next_235, p, q, n32s (x := E - S) (by omega) (by omega)]
        by_cases y : 2 < E - S
        · rw [if_pos y] at kk ⊢
          exact hQ _ ⟨M.t (N45.j (by omega)), by rw [jups, up1_n (by omega)]; exact p, by rw [jups, up1_n (by omega)]; exact q, by rw [jups, up1_s, kk], fun t => by omega⟩
        · rw [if_neg y] at kk ⊢
          exact hQ _ ⟨M.t (N45.j (by omega)), by rw [jups, up1_n (by omega)]; exact p, by rw [jups, up1_n (by omega)]; exact q, by rw [jups, up1_s, kk], fun t => by rw [jups, up1_n (by omega)]; exact r⟩
      · rw [if_neg d] at eE
        rw [if_neg d]
        have kk : tkK (w 52) (w 45 11) S E = if w 52 S = 59 then 59 else 120 := by unfold tkK; rw [if_pos c2, if_neg l, if_neg d]
        by_cases y : w 52 S = 59
        · rw [if_pos y] at kk ⊢
          exact hQ _ ⟨N2.t (N45.j (by omega)), by rw [jups, up1_n (by omega)]; exact h13, by rw [jups, up1_n (by omega), h14]; exact eE.symm, by rw [jups, up1_s, kk], fun t => by omega⟩
        · rw [if_neg y] at kk ⊢
          exact hQ _ ⟨N2.t (N45.j (by omega)), by rw [jups, up1_n (by omega)]; exact h13, by rw [jups, up1_n (by omega), h14]; exact eE.symm, by rw [jups, up1_s, kk], fun t => by omega⟩
theorem sM_8 (hn : 0 ≤ w 45 11 ∧ w 45 11 ≤ 250) {e0 : Int} (he : 0 ≤ e0 ∧ e0 ≤ w 45 11) (hQ : ∀ u, NX w u (tkS (w 52) (w 45 11) e0) (tkE (w 52) (w 45 11) e0) (tkK (w 52) (w 45 11) (tkS (w 52) (w 45 11) e0) (tkE (w 52) (w 45 11) e0)) (dcV (w 52) (tkS (w 52) (w 45 11) e0) (tkE (w 52) (w 45 11) e0)) → Q (jI 0) u) (m : Nat) :
    ∀ (s : Int) (u : jW), s + (m : Int) = w 45 11 → 0 ≤ s → N45 w u → u 45 13 = s → skR (w 52) (w 45 11) m s = tkS (w 52) (w 45 11) e0 → AW mM_next 8 [jR 45, jX] [] u Q := by
  induction m with
  | zero =>
    intro s u hs h0 N a k
    have e11 := N.2 11 (by omega) (by omega) (by omega) (by omega)
    have k' : s = tkS (w 52) (w 45 11) e0 := k
    rw [bM_next_8, a, e11, if_neg (by omega)]
    exact sM_46 hn N (a.trans k') he hQ
  | succ m ih =>
    intro s u hs h0 N a k
    have e11 := N.2 11 (by omega) (by omega) (by omega) (by omega)
    have e52 := N.1 52 (by omega)
    rw [bM_next_8, a, e11, if_pos (by omega), if_pos (by omega), e52, n32s (x := s + 1) (by omega) (by omega)]
    by_cases c : w 52 s = 32
    · rw [skR_y c] at k
      rw [if_pos c]
      exact ih (s + 1) _ (by omega) (by omega) (N.t (N45.j (by omega))) (by rw [jups, up1_s]) k
    · rw [skR_n c] at k
      rw [if_neg c]
      exact sM_46 hn N (a.trans k) he hQ
theorem sM_next (hn : 0 ≤ w 45 11 ∧ w 45 11 ≤ 250) (he : 0 ≤ w 45 14 ∧ w 45 14 ≤ w 45 11) (hQ : ∀ u, NX w u (tkS (w 52) (w 45 11) (w 45 14)) (tkE (w 52) (w 45 11) (w 45 14)) (tkK (w 52) (w 45 11) (tkS (w 52) (w 45 11) (w 45 14)) (tkE (w 52) (w 45 11) (w 45 14))) (dcV (w 52) (tkS (w 52) (w 45 11) (w 45 14)) (tkE (w 52) (w 45 11) (w 45 14))) → Q (jI 0) u) :
    AW mM_next 0 [jR 45, jX] [] w Q := by
  rw [bM_next_0]
  exact sM_8 hn he hQ _ (w 45 14) _ (by omega) he.1 (N45.j (by omega)) (by rw [jups, up1_s]) rfl
end NB
