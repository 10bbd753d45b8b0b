/-! the first of the most groups -/
def bst (p : Int × Int) (G k : Int) : Int × Int := if p.1 = -1 ∨ p.2 < G then (k, G) else p
theorem bst_y {p : Int × Int} {G k : Int} (h : p.1 = -1 ∨ p.2 < G) : bst p G k = (k, G) := if_pos h
theorem bst_n {p : Int × Int} {G k : Int} (h : ¬ (p.1 = -1 ∨ p.2 < G)) : bst p G k = p := if_neg h
def l1 (p : Int × Int) : Int := if p.1 = -1 then -1 else p.2
theorem l1_lt {p : Int × Int} {G : Int} (h : 0 ≤ G) : l1 p < G ↔ (p.1 = -1 ∨ p.2 < G) := by
  unfold l1
  by_cases z : p.1 = -1
  · rw [if_pos z]; exact ⟨fun _ => Or.inl z, fun _ => by omega⟩
  · rw [if_neg z]; exact ⟨fun t => Or.inr t, fun t => t.resolve_left z⟩
theorem l1_k {G k : Int} (h : 0 ≤ k) : l1 (k, G) = G := if_neg (by show k ≠ -1; omega)
def allP (n : Int) : Int := n32 (jshl 1 n - 1)
noncomputable def idR (v : jW) : Nat → Int × Int
  | 0 => (-1, 0)
  | m + 1 => bst (idR v m) (NG v (jand (allP (v 1 3)) (jxor (jshl 1 (m : Int)) (-1)))) (m : Int)
noncomputable def bpI (v : jW) (p : Int) (st : Int × Int) : Nat → Int × Int
  | 0 => st
  | m + 1 => bst (bpI v p st m) (NG v (jor (jshl 1 p) (jshl 1 (p + 1 + (m : Int))))) (10 * p + (p + 1 + (m : Int)))
noncomputable def bpO (v : jW) : Nat → Int × Int
  | 0 => (-1, 0)
  | m + 1 => bpI v (m : Int) (bpO v m) (v 1 3 - ((m : Int) + 1)).toNat
section IA
variable {w v u : jW} {Q : jV → jW → Prop} {K s c d : Int}
theorem NG_in : 0 ≤ NG v s ∧ NG v s ≤ 67 := sm_fI 67
theorem idR_s {m : Nat} : idR v (m + 1) = bst (idR v m) (NG v (jand (allP (v 1 3)) (jxor (jshl 1 (m : Int)) (-1)))) (m : Int) := rfl
theorem idR_nn (m : Nat) : (idR v (m + 1)).1 ≠ -1 := by
  rw [idR_s]
  by_cases z : (idR v m).1 = -1 ∨ (idR v m).2 < NG v (jand (allP (v 1 3)) (jxor (jshl 1 (m : Int)) (-1)))
  · rw [bst_y z]; show (m : Int) ≠ -1; omega
  · rw [bst_n z]; exact fun t => z (Or.inl t)
theorem LK.to {K' : Int} (h : LK K u) (hk : K ≤ K') : LK K' u := h.le hk
theorem sX_idl38 (h : OKC w) (hK : K ≤ 1000000000) (hQ : ∀ u, SV w u → LK (K + 64) u → Q (jI (idR w (w 1 3).toNat).1) u) (m : Nat) :
    ∀ (j : Nat) (u : jW) (y4 : jV), (w 1 3 - j).toNat = m → (j : Int) ≤ w 1 3 → SV w u → LK (K + 8 * j) u → AW mX_idlest 38 [jR 0, jI (idR w j).1, jI (idR w j).2, jI j, y4] [] u Q := by
  have h3 : 0 ≤ w 1 3 ∧ w 1 3 ≤ 8 := h.1.2.2.1
  induction m with
  | zero =>
    intro j u y4 hm hj S L
    rw [bX_idlest_38, S.1 1 (by omega), if_neg (by omega), show j = (w 1 3).toNat by omega]
    exact hQ u S (L.to (by omega))
  | succ m ih =>
    intro j u y4 hm hj S L
    rw [bX_idlest_38, S.1 1 (by omega), if_pos (by omega), bX_allPosts_0, bX_idlest_57, S.1 1 (by omega)]
    refine S.groupBy h L (by omega) (fun u' S' L' _ _ _ => ?_)
    have gi := NG_in (v := w) (s := jand (allP (w 1 3)) (jxor (jshl 1 (j : Int)) (-1)))
    have i := fun y4 => ih (j + 1) u' y4 (by omega) (by omega) S' (L'.to (by omega))
    rw [idR_s] at i
    rw [bX_idlest_66, n32s (x := (j : Int) + 1) (by omega) (by omega)]
    by_cases z : (idR w j).1 = -1
    · rw [bst_y (Or.inl z)] at i
      rw [if_pos z]; exact i _
    · rw [if_neg z]
      by_cases z2 : (idR w j).2 < NG w (jand (allP (w 1 3)) (jxor (jshl 1 (j : Int)) (-1)))
      · rw [bst_y (Or.inr z2)] at i
        have z2' := z2
        unfold allP at z2'
        rw [if_pos z2']; exact i _
      · rw [bst_n (fun t => t.elim z z2)] at i
        have z2' := z2
        unfold allP at z2'
        rw [if_neg z2']; exact i _
theorem sM_idl6 {w0 : jW} (h0 : VM w0 v) (hQ : ∀ u y4, SMo w0 u → AW mM_idlest 6 [jR 45, jI (idR v (v 1 3).toNat).1, jI (l1 (idR v (v 1 3).toNat)), jI (v 1 3), y4] [] u Q) (m : Nat) :
    ∀ (j : Nat) (u : jW) (y4 : jV), (v 1 3 - j).toNat = m → (j : Int) ≤ v 1 3 → SMo w0 u → AW mM_idlest 6 [jR 45, jI (idR v j).1, jI (l1 (idR v j)), jI j, y4] [] u Q := by
  induction m with
  | zero =>
    intro j u y4 hm hj S
    have e : j = (v 1 3).toNat := by omega
    have e2 : ((j : Nat) : Int) = v 1 3 := by omega
    rw [e2, e]
    exact hQ u y4 S
  | succ m ih =>
    intro j u y4 hm hj S
    have h := h0.t S
    have kk := h.wk
    rw [bM_idlest_6, h.eq.2.2.1, if_pos (by omega), bM_allPosts_0, bM_idlest_19, h.eq.2.2.1]
    refine h.groups (fun u' S' _ => ?_)
    have gi := NG_in (v := v) (s := jand (allP (v 1 3)) (jxor (jshl 1 (j : Int)) (-1)))
    have i := fun y4 => ih (j + 1) u' y4 (by omega) (by omega) (S.t S')
    rw [idR_s] at i
    have lt := l1_lt (p := idR v j) gi.1
    rw [bM_idlest_28, n32s (x := (j : Int) + 1) (by omega) (by omega)]
    by_cases z : l1 (idR v j) < NG v (jand (allP (v 1 3)) (jxor (jshl 1 (j : Int)) (-1)))
    · rw [bst_y (lt.mp z), l1_k (by omega)] at i
      have z' := z
      unfold allP at z'
      rw [if_pos z']; exact i _
    · rw [bst_n (fun t => z (lt.mpr t))] at i
      have z' := z
      unfold allP at z'
      rw [if_neg z']; exact i _
theorem p_idlest (h : INV K w) (hK : K ≤ 1000000000) : Both mX_idlest mM_idlest [jR 0, jX, jX, jX, jX] [jR 45, jX, jX, jX, jX] K w := by
  unfold Both
  have kk := h.wk
  rw [bX_idlest_0]
  by_cases z : w 1 3 = 0
  · rw [if_pos z, sX_refuse5, bX_idlest_16, bM_idlest_0, bM_idlest_6, (h.vR (-5)).eq.2.2.1, if_neg (by omega), if_pos rfl, sM_no5, bM_idlest_61]
    exact h.ref (by omega) (by omega)
  · rw [if_neg z]
    refine sK_survey h.1 h.2.2 (fun u S L => ?_)
    rw [bX_idlest_32]
    refine sX_idl38 h.1 hK (fun u S L => ?_) _ 0 u _ rfl (by omega) S (L.to (by omega))
    have V := h.vm S.1
    rw [bM_idlest_0]
    refine sM_idl6 V (fun u2 y4 S2 => ?_) _ 0 u _ rfl (by omega) SMo.r
    have nn := idR_nn (v := w) ((w 1 3).toNat - 1)
    rw [show (w 1 3).toNat - 1 + 1 = (w 1 3).toNat by omega] at nn
    rw [bM_idlest_6, (V.t S2).eq.2.2.1, if_neg (by omega), if_neg nn]
    exact h.q S.1 (L.to (by omega)) S2 rfl
theorem bpI_s {p : Int} {st : Int × Int} {m : Nat} : bpI v p st (m + 1) = bst (bpI v p st m) (NG v (jor (jshl 1 p) (jshl 1 (p + 1 + (m : Int))))) (10 * p + (p + 1 + (m : Int))) := rfl
theorem sX_bp37 (h : OKC w) (hK : K ≤ 1000000000) {p : Int} (hp : 0 ≤ p ∧ p < w 1 3) {st : Int × Int} (hQ : ∀ u y4 y5, SV w u → LK (K + 64) u → AW mX_bestPair 21 [jR 0, jI (bpI w p st (w 1 3 - (p + 1)).toNat).1, jI (bpI w p st (w 1 3 - (p + 1)).toNat).2, jI (p + 1), y4, y5] [] u Q) (m : Nat) :
    ∀ (j : Nat) (u : jW) (y5 : jV), (w 1 3 - (p + 1) - j).toNat = m → p + 1 + (j : Int) ≤ w 1 3 → SV w u → LK (K + 8 * j) u → AW mX_bestPair 37 [jR 0, jI (bpI w p st j).1, jI (bpI w p st j).2, jI p, jI (p + 1 + (j : Int)), y5] [] u Q := by
  have h3 : 0 ≤ w 1 3 ∧ w 1 3 ≤ 8 := h.1.2.2.1
  induction m with
  | zero =>
    intro j u y5 hm hj S L
    rw [bX_bestPair_37, S.1 1 (by omega), if_neg (by omega), n32s (x := p + 1) (by omega) (by omega), show j = (w 1 3 - (p + 1)).toNat by omega]
    exact hQ u _ _ S (L.to (by omega))
  | succ m ih =>
    intro j u y5 hm hj S L
    rw [bX_bestPair_37, S.1 1 (by omega), if_pos (by omega)]
    refine S.groupBy h L (by omega) (fun u' S' L' _ _ _ => ?_)
    have gi := NG_in (v := w) (s := jor (jshl 1 p) (jshl 1 (p + 1 + (j : Int))))
    have i := fun y4 => ih (j + 1) u' y4 (by omega) (by omega) S' (L'.to (by omega))
    rw [bpI_s, show p + 1 + ((j + 1 : Nat) : Int) = p + 1 + (j : Int) + 1 by omega] at i
    rw [bX_bestPair_64, n32s (x := p + 1 + (j : Int) + 1) (by omega) (by omega), n32s (x := 10 * p) (by omega) (by omega), n32s (x := 10 * p + (p + 1 + (j : Int))) (by omega) (by omega)]
    by_cases z : (bpI w p st j).1 = -1
    · rw [bst_y (Or.inl z)] at i
      rw [if_pos z]; exact i _
    · rw [if_neg z]
      by_cases z2 : (bpI w p st j).2 < NG w (jor (jshl 1 p) (jshl 1 (p + 1 + (j : Int))))
      · rw [bst_y (Or.inr z2)] at i
        rw [if_pos z2]; exact i _
      · rw [bst_n (fun t => t.elim z z2)] at i
        rw [if_neg z2]; exact i _
theorem sX_bp21 (h : OKC w) (hK : K ≤ 900000000) (hQ : ∀ u, SV w u → LK (K + 600) u → Q (jI (bpO w (w 1 3).toNat).1) u) (m : Nat) :
    ∀ (j : Nat) (u : jW) (y4 y5 : jV), (w 1 3 - j).toNat = m → (j : Int) ≤ w 1 3 → SV w u → LK (K + 64 * j) u → AW mX_bestPair 21 [jR 0, jI (bpO w j).1, jI (bpO w j).2, jI j, y4, y5] [] u Q := by
  have h3 : 0 ≤ w 1 3 ∧ w 1 3 ≤ 8 := h.1.2.2.1
  induction m with
  | zero =>
    intro j u y4 y5 hm hj S L
    rw [bX_bestPair_21, S.1 1 (by omega), if_neg (by omega), show j = (w 1 3).toNat by omega]
    exact hQ u S (L.to (by omega))
  | succ m ih =>
    intro j u y4 y5 hm hj S L
    rw [bX_bestPair_21, S.1 1 (by omega), if_pos (by omega), n32s (x := (j : Int) + 1) (by omega) (by omega)]
    have R := sX_bp37 (Q := Q) (K := K + 64 * j) h (by omega) (p := (j : Int)) ⟨by omega, by omega⟩ (st := bpO w j) (fun u' y4 y5 S' L' => ih (j + 1) u' y4 y5 (by omega) (by omega) S' (L'.to (by omega))) _ 0 u y5 rfl (by omega) S (L.to (by omega))
    rw [show (j : Int) + 1 + ((0 : Nat) : Int) = (j : Int) + 1 by omega] at R
    exact R
theorem sM_bp19 {w0 : jW} (h0 : VM w0 v) {p : Int} (hp : 0 ≤ p ∧ p < v 1 3) {st : Int × Int} (hQ : ∀ u y4 y5, SMo w0 u → AW mM_bestPair 6 [jR 45, jI (bpI v p st (v 1 3 - (p + 1)).toNat).1, jI (l1 (bpI v p st (v 1 3 - (p + 1)).toNat)), jI (p + 1), y4, y5] [] u Q) (m : Nat) :
    ∀ (j : Nat) (u : jW) (y5 : jV), (v 1 3 - (p + 1) - j).toNat = m → p + 1 + (j : Int) ≤ v 1 3 → SMo w0 u → AW mM_bestPair 19 [jR 45, jI (bpI v p st j).1, jI (l1 (bpI v p st j)), jI p, jI (p + 1 + (j : Int)), y5] [] u Q := by
  induction m with
  | zero =>
    intro j u y5 hm hj S
    have h := h0.t S
    have kk := h.wk
    rw [bM_bestPair_19, h.eq.2.2.1, if_neg (by omega), n32s (x := p + 1) (by omega) (by omega), show j = (v 1 3 - (p + 1)).toNat by omega]
    exact hQ u _ _ S
  | succ m ih =>
    intro j u y5 hm hj S
    have h := h0.t S
    have kk := h.wk
    rw [bM_bestPair_19, h.eq.2.2.1, if_pos (by omega)]
    refine h.groups (fun u' S' _ => ?_)
    have gi := NG_in (v := v) (s := jor (jshl 1 p) (jshl 1 (p + 1 + (j : Int))))
    have i := fun y4 => ih (j + 1) u' y4 (by omega) (by omega) (S.t S')
    have lt := l1_lt (p := bpI v p st j) gi.1
    rw [bpI_s, show p + 1 + ((j + 1 : Nat) : Int) = p + 1 + (j : Int) + 1 by omega] at i
    rw [bM_bestPair_40, n32s (x := p + 1 + (j : Int) + 1) (by omega) (by omega), n32s (x := 10 * p) (by omega) (by omega), n32s (x := 10 * p + (p + 1 + (j : Int))) (by omega) (by omega)]
    by_cases z : l1 (bpI v p st j) < NG v (jor (jshl 1 p) (jshl 1 (p + 1 + (j : Int))))
    · rw [bst_y (lt.mp z), l1_k (by omega)] at i
      rw [if_pos z]; exact i _
    · rw [bst_n (fun t => z (lt.mpr t))] at i
      rw [if_neg z]; exact i _
theorem sM_bp6 {w0 : jW} (h0 : VM w0 v) (hQ : ∀ u, SMo w0 u → Q (jI (bpO v (v 1 3).toNat).1) u) (m : Nat) :
    ∀ (j : Nat) (u : jW) (y4 y5 : jV), (v 1 3 - j).toNat = m → (j : Int) ≤ v 1 3 → SMo w0 u → AW mM_bestPair 6 [jR 45, jI (bpO v j).1, jI (l1 (bpO v j)), jI j, y4, y5] [] u Q := by
  induction m with
  | zero =>
    intro j u y4 y5 hm hj S
    have h := h0.t S
    rw [bM_bestPair_6, h.eq.2.2.1, if_neg (by omega), show j = (v 1 3).toNat by omega]
    exact hQ u S
  | succ m ih =>
    intro j u y4 y5 hm hj S
    have h := h0.t S
    have kk := h.wk
    rw [bM_bestPair_6, h.eq.2.2.1, if_pos (by omega), n32s (x := (j : Int) + 1) (by omega) (by omega)]
    have R := sM_bp19 (Q := Q) h0 (p := (j : Int)) ⟨by omega, by omega⟩ (st := bpO v j) (fun u' y4 y5 S' => ih (j + 1) u' y4 y5 (by omega) (by omega) S') _ 0 u y5 rfl (by omega) S
    rw [show (j : Int) + 1 + ((0 : Nat) : Int) = (j : Int) + 1 by omega] at R
    exact R
theorem p_bestPair (h : INV K w) (hK : K ≤ 900000000) : Both mX_bestPair mM_bestPair [jR 0, jX, jX, jX, jX, jX] [jR 45, jX, jX, jX, jX, jX] K w := by
  unfold Both
  have kk := h.wk
  rw [bX_bestPair_0]
  refine sK_survey h.1 h.2.2 (fun u S L => ?_)
  rw [bX_bestPair_15]
  refine sX_bp21 h.1 hK (fun u S L => ?_) _ 0 u _ _ rfl (by omega) S (L.to (by omega))
  rw [bM_bestPair_0]
  exact sM_bp6 (h.vm S.1) (fun u2 S2 => h.q S.1 (L.to (by omega)) S2 rfl) _ 0 u _ _ rfl (by omega) SMo.r
end IA
