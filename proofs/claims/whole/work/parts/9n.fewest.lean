/-! the fewest -/
def bc1 (x : Int) : Int := n32 (x - jand (jushr x 1) 1431655765)
def bc2 (y : Int) : Int := n32 (jand y 858993459 + jand (jushr y 2) 858993459)
def bc3 (y : Int) : Int := jand (n32 (y + jushr y 4)) 252645135
def bc4 (y : Int) : Int := n32 (y + jushr y 8)
def bc5 (y : Int) : Int := n32 (y + jushr y 16)
def bcF (x : Int) : Int := jand (bc5 (bc4 (bc3 (bc2 (bc1 x))))) 63
theorem bc_lt9 : ∀ n : _root_.Fin 9, ∀ s : _root_.Fin 256, (s.val : Int) < allP (n.val : Int) → bcF (s.val : Int) < bcF (allP (n.val : Int)) := by decide +kernel
theorem allP_9 : ∀ n : _root_.Fin 9, 0 ≤ allP (n.val : Int) ∧ allP (n.val : Int) ≤ 255 := by decide +kernel
theorem bit_9 : ∀ n : _root_.Fin 10, ∀ p : _root_.Fin 10, p.val < n.val → bitB (allP (n.val : Int)) (p.val : Int) := by decide +kernel
theorem bc_lt {n s : Int} (hn : 0 ≤ n ∧ n ≤ 8) (h0 : 0 ≤ s) (h : s < allP n) : bcF s < bcF (allP n) := by
  have a := (allP_9 ⟨n.toNat, by omega⟩).2
  have e : ((n.toNat : Nat) : Int) = n := by omega
  rw [show (((⟨n.toNat, by omega⟩ : _root_.Fin 9).val : Nat) : Int) = n from e] at a
  have b := bc_lt9 ⟨n.toNat, by omega⟩ ⟨s.toNat, by omega⟩
  rw [show (((⟨n.toNat, by omega⟩ : _root_.Fin 9).val : Nat) : Int) = n from e, show (((⟨s.toNat, by omega⟩ : _root_.Fin 256).val : Nat) : Int) = s by show ((s.toNat : Nat) : Int) = s; omega] at b
  exact b h
theorem allP_in {n : Int} (hn : 0 ≤ n ∧ n ≤ 8) : 0 ≤ allP n ∧ allP n ≤ 255 := by
  have a := allP_9 ⟨n.toNat, by omega⟩
  rw [show (((⟨n.toNat, by omega⟩ : _root_.Fin 9).val : Nat) : Int) = n by show ((n.toNat : Nat) : Int) = n; omega] at a
  exact a
theorem bit_all {n p : Int} (hn : 0 ≤ n ∧ n ≤ 9) (hp : 0 ≤ p ∧ p < n) : bitB (allP n) p := by
  have a := bit_9 ⟨n.toNat, by omega⟩ ⟨p.toNat, by omega⟩ (by show p.toNat < n.toNat; omega)
  rw [show (((⟨n.toNat, by omega⟩ : _root_.Fin 10).val : Nat) : Int) = n by show ((n.toNat : Nat) : Int) = n; omega, show (((⟨p.toNat, by omega⟩ : _root_.Fin 10).val : Nat) : Int) = p by show ((p.toNat : Nat) : Int) = p; omega] at a
  exact a
noncomputable def fwN (v : jW) : Nat → Int
  | 0 => allP (v 1 3)
  | m + 1 => if bcF (m : Int) < bcF (fwN v m) ∧ NG v (m : Int) = NG v (allP (v 1 3)) then (m : Int) else fwN v m
section NA
variable {w v u : jW} {Q : jV → jW → Prop} {K s c d x : Int}
theorem sJ_bc : AW mJ_bitCount 0 [jI x] [] w Q = Q (jI (bcF x)) w := bJ_bitCount_0
theorem fwN_y {m : Nat} (h : bcF (m : Int) < bcF (fwN v m) ∧ NG v (m : Int) = NG v (allP (v 1 3))) : fwN v (m + 1) = (m : Int) := if_pos h
theorem fwN_n {m : Nat} (h : ¬ (bcF (m : Int) < bcF (fwN v m) ∧ NG v (m : Int) = NG v (allP (v 1 3)))) : fwN v (m + 1) = fwN v m := if_neg h
theorem fwN_in (m : Nat) : fwN v m = allP (v 1 3) ∨ (0 ≤ fwN v m ∧ fwN v m < (m : Int)) := by
  induction m with
  | zero => exact Or.inl rfl
  | succ m ih =>
    by_cases h : bcF (m : Int) < bcF (fwN v m) ∧ NG v (m : Int) = NG v (allP (v 1 3))
    · rw [fwN_y h]; exact Or.inr (by omega)
    · rw [fwN_n h]; omega
theorem NG_le (h3 : 0 ≤ v 1 3 ∧ v 1 3 ≤ 8) : NG v s ≤ NG v (allP (v 1 3)) := by
  refine sm_le 67 (fun i q1 q2 => ?_)
  by_cases z : Fst (dryB (v 1 0) (v 2)) (Eal v s) i
  · rw [fI_y z, fI_y ⟨z.1, fun d d1 d2 d3 d4 => z.2 d d1 d2 d3 (fun p p1 p2 _ => d4 p p1 p2 (bit_all (by omega) ⟨p1, p2⟩))⟩]
    exact Int.le_refl _
  · rw [fI_n z]
    exact fI_in.1
theorem sX_few52 (h : OKC w) (hK : K ≤ 1000000000) {x1 : Int} (hQ : ∀ u, SV w u → LK (K + 2040) u → AW mX_fewest 52 [jR 0, jI x1, jI (allP (w 1 3)), jI (NG w (allP (w 1 3))), jI (fwN w (allP (w 1 3)).toNat), jI (allP (w 1 3))] [] u Q) (m : Nat) :
    ∀ (j : Nat) (u : jW), (allP (w 1 3) - j).toNat = m → (j : Int) ≤ allP (w 1 3) → SV w u → LK (K + 8 * j) u → AW mX_fewest 52 [jR 0, jI x1, jI (allP (w 1 3)), jI (NG w (allP (w 1 3))), jI (fwN w j), jI j] [] u Q := by
  have h3 : 0 ≤ w 1 3 ∧ w 1 3 ≤ 8 := h.1.2.2.1
  have a := allP_in h3
  induction m with
  | zero =>
    intro j u hm hj S L
    have e : j = (allP (w 1 3)).toNat := by omega
    have e2 : ((j : Nat) : Int) = allP (w 1 3) := by omega
    have := hQ u S (L.to (by omega))
    rw [e2, e]
    exact this
  | succ m ih =>
    intro j u hm hj S L
    rw [bX_fewest_52, if_pos (by omega), sJ_bc, bX_fewest_63, sJ_bc, bX_fewest_68, n32s (x := (j : Int) + 1) (by omega) (by omega)]
    by_cases z : bcF (j : Int) < bcF (fwN w j)
    · rw [if_pos z]
      refine S.groupBy h L (by omega) (fun u' S' L' _ _ _ => ?_)
      have i := ih (j + 1) u' (by omega) (by omega) S' (L'.to (by omega))
      rw [bX_fewest_80, n32s (x := (j : Int) + 1) (by omega) (by omega)]
      by_cases z2 : NG w (j : Int) = NG w (allP (w 1 3))
      · rw [fwN_y ⟨z, z2⟩] at i
        rw [if_pos z2]; exact i
      · rw [fwN_n (fun t => z2 t.2)] at i
        rw [if_neg z2]; exact i
    · have i := ih (j + 1) u (by omega) (by omega) S (L.to (by omega))
      rw [fwN_n (fun t => z t.1)] at i
      rw [if_neg z]; exact i
theorem sM_few30 {w0 : jW} (h0 : VM w0 v) {x1 : Int} (hQ : ∀ u y5 y6, SMo w0 u → AW mM_fewest 30 [jR 45, jI x1, jI (fwN v (allP (v 1 3)).toNat), jI (NG v (allP (v 1 3))), jI (allP (v 1 3)), y5, y6] [] u Q) (m : Nat) :
    ∀ (j : Nat) (u : jW) (y5 y6 : jV), (allP (v 1 3) - j).toNat = m → (j : Int) ≤ allP (v 1 3) → SMo w0 u → AW mM_fewest 30 [jR 45, jI x1, jI (fwN v j), jI (NG v (allP (v 1 3))), jI j, y5, y6] [] u Q := by
  have h3 : 0 ≤ v 1 3 ∧ v 1 3 ≤ 8 := h0.wk.2.1
  have a := allP_in h3
  induction m with
  | zero =>
    intro j u y5 y6 hm hj S
    have e : j = (allP (v 1 3)).toNat := by omega
    have e2 : ((j : Nat) : Int) = allP (v 1 3) := by omega
    have := hQ u y5 y6 S
    rw [e2, e]
    exact this
  | succ m ih =>
    intro j u y5 y6 hm hj S
    have h := h0.t S
    have fi := fwN_in (v := v) j
    have bl := bc_lt h3 (s := (j : Int)) (by omega) (by omega)
    have i := fun u y5 y6 hS => ih (j + 1) u y5 y6 (by omega) (by omega) hS
    have e : n32 (jshl 1 (v 1 3) - 1) = allP (v 1 3) := rfl
    rw [bM_fewest_30, bM_allPosts_0, bM_fewest_36, h.eq.2.2.1, e, if_neg (by omega), sJ_bc, bM_fewest_44, sJ_bc, bM_fewest_50, n32s (x := (j : Int) + 1) (by omega) (by omega)]
    by_cases z : bcF (j : Int) < bcF (fwN v j)
    · rw [if_neg (by omega), if_neg (by omega)]
      refine h.groups (fun u' S' _ => ?_)
      have le := NG_le (s := (j : Int)) h3
      have i' := i u' (jI (bcF (j : Int))) (jI (bcF (fwN v j))) (S.t S')
      rw [bM_fewest_78, n32s (x := (j : Int) + 1) (by omega) (by omega)]
      by_cases z2 : NG v (j : Int) < NG v (allP (v 1 3))
      · rw [fwN_n (fun t => by omega)] at i'
        rw [if_pos z2]; exact i'
      · rw [fwN_y ⟨z, by omega⟩] at i'
        rw [if_neg z2]; exact i'
    · have i' := i u (jI (bcF (j : Int))) (jI (bcF (fwN v j))) S
      rw [fwN_n (fun t => z t.1)] at i'
      by_cases z2 : bcF (fwN v j) < bcF (j : Int)
      · rw [if_pos z2]; exact i'
      · rw [if_neg z2, if_pos (by omega)]
        have ne : ¬ (j : Int) < fwN v j := by
          intro t
          rcases fi with fi | fi
          · rw [fi] at z; exact z bl
          · omega
        rw [if_neg ne]; exact i'
theorem p_fewest (h : INV K w) (hK : K ≤ 1000000000 - 8) : Both mX_fewest mM_fewest [jR 0, jI x, jX, jX, jX, jX] [jR 45, jI x, jX, jX, jX, jX, jX] K w := by
  unfold Both
  have kk := h.wk
  have F := h.ref (a := -2) (by omega) (by omega)
  have a := allP_in kk.2.1
  have e : n32 (jshl 1 (w 1 3) - 1) = allP (w 1 3) := rfl
  rw [bX_fewest_0, sX_isWithin, bX_fewest_7, jb_ite]
  by_cases c : 0 ≤ x ∧ x ≤ 1
  · rw [if_pos c]
    refine sK_survey h.1 h.2.2 (fun u S L => ?_)
    rw [bX_fewest_32, bX_allPosts_0, bX_fewest_36, S.1 1 (by omega), e]
    refine S.groupBy h.1 L (by omega) (fun u S L _ _ _ => ?_)
    rw [bX_fewest_45]
    refine sX_few52 (K := K + 8) h.1 (by omega) (fun u S L => ?_) _ 0 u rfl (by omega) S (L.to (by omega))
    have V := h.vm S.1
    have M : ∀ Q, (∀ u2, SMo u u2 → Q (jI (if x = 0 then bcF (fwN w (allP (w 1 3)).toNat) else fwN w (allP (w 1 3)).toNat)) u2) → AW mM_fewest 0 [jR 45, jI x, jX, jX, jX, jX, jX] [] u Q := by
      intro Q hQ
      rw [bM_fewest_0, sM_within, bM_fewest_6, jb_ite, if_pos c, bM_allPosts_0, bM_fewest_20, V.eq.2.2.1, e]
      refine V.groups (fun u1 S1 _ => ?_)
      rw [bM_fewest_26]
      refine sM_few30 (V.t S1) (fun u2 y5 y6 S2 => ?_) _ 0 u1 _ _ rfl (by omega) SMo.r
      have V2 := (V.t S1).t S2
      have fi := fwN_in (v := w) (allP (w 1 3)).toNat
      have hq := hQ u2 (S1.t S2)
      have fin : ∀ y5 y6, AW mM_fewest 30 [jR 45, jI x, jI (fwN w (allP (w 1 3)).toNat), jI (NG w (allP (w 1 3))), jI (allP (w 1 3) + 1), y5, y6] [] u2 Q := by
        intro y5 y6
        rw [bM_fewest_30, bM_allPosts_0, bM_fewest_36, V2.eq.2.2.1, e, if_pos (by omega)]
        by_cases x0 : x = 0
        · rw [if_pos x0] at hq ⊢
          rw [sJ_bc, bM_fewest_102]; exact hq
        · rw [if_neg x0] at hq ⊢
          exact hq
      rw [bM_fewest_30, bM_allPosts_0, bM_fewest_36, V2.eq.2.2.1, e, if_neg (by omega), sJ_bc, bM_fewest_44, sJ_bc, bM_fewest_50, n32s (x := allP (w 1 3) + 1) (by omega) (by omega)]
      rcases fi with fi | fi
      · rw [fi] at fin ⊢
        rw [if_neg (by omega), if_pos rfl, if_neg (by omega)]
        exact fin _ _
      · have bl := bc_lt kk.2.1 fi.1 (by omega)
        rw [if_pos bl]
        exact fin _ _
    rw [bX_fewest_52, if_neg (by omega)]
    by_cases x0 : x = 0
    · rw [if_pos x0, sJ_bc, bX_fewest_103]
      refine M _ (fun u2 S2 => ?_)
      rw [if_pos x0]
      exact h.q S.1 (L.to (by omega)) S2 rfl
    · rw [if_neg x0]
      refine M _ (fun u2 S2 => ?_)
      rw [if_neg x0]
      exact h.q S.1 (L.to (by omega)) S2 rfl
  · rw [if_neg c, sX_refuse2, bX_fewest_16, bM_fewest_0, sM_within, bM_fewest_6, jb_ite, if_neg c, sM_no2, bM_fewest_15]
    exact F
end NA
