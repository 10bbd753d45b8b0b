section SF
variable {w : jW} {Q : jV → jW → Prop} {K x y z k : Int}
def Any (f : Int → Int) (k n x : Int) : Prop := ∃ j, k ≤ j ∧ j < n ∧ f j = x
theorem Any.n {f : Int → Int} {k n x : Int} (h : n ≤ k) : ¬ Any f k n x := fun ⟨j, a, b, _⟩ => by omega
theorem Any.s {f : Int → Int} {k n x : Int} (h : f k ≠ x) : Any f k n x ↔ Any f (k + 1) n x := by
  constructor
  · rintro ⟨j, a, b, c⟩
    refine ⟨j, ?_, b, c⟩
    by_cases e : j = k
    · subst e; exact absurd c h
    · omega
  · rintro ⟨j, a, b, c⟩
    exact ⟨j, by omega, b, c⟩
theorem sL_cbb (m : Nat) : ∀ k, (w 1 4 - k).toNat = m → 0 ≤ k → w 1 4 ≤ 4 → (Any (w 6) k (w 1 4) x → Q (jI 0) w) → (¬ Any (w 6) k (w 1 4) x → Q (jI 1) w) → AW mL_canBeBog 12 [jR 1, jI x, jI k] [] w Q := by
  induction m with
  | zero =>
    intro k hm h0 h4 h1 h2
    rw [bL_canBeBog_12, if_neg (by omega)]
    exact h2 (Any.n (by omega))
  | succ m ih =>
    intro k hm h0 h4 h1 h2
    rw [bL_canBeBog_12, if_pos (by omega), if_pos (by omega)]
    by_cases e : w 6 k = x
    · rw [if_pos e]; exact h1 ⟨k, by omega, by omega, e⟩
    · rw [if_neg e, n32s (by omega) (by omega)]
      exact ih (k + 1) (by omega) (by omega) h4 (fun q => h1 ((Any.s e).mpr q)) (fun q => h2 (fun q' => q ((Any.s e).mp q')))
theorem sM_iwa (m : Nat) : ∀ k, (w 45 7 - k).toNat = m → 0 ≤ k → w 45 7 ≤ 4 → (Any (w 50) k (w 45 7) x → Q (jI 1) w) → (¬ Any (w 50) k (w 45 7) x → Q (jI 0) w) → AW mM_isWalkerAt 2 [jR 45, jI x, jI k] [] w Q := by
  induction m with
  | zero =>
    intro k hm h0 h4 h1 h2
    rw [bM_isWalkerAt_2, if_neg (by omega)]
    exact h2 (Any.n (by omega))
  | succ m ih =>
    intro k hm h0 h4 h1 h2
    rw [bM_isWalkerAt_2, if_pos (by omega), if_pos (by omega)]
    by_cases e : w 50 k = x
    · rw [if_pos e]; exact h1 ⟨k, by omega, by omega, e⟩
    · rw [if_neg e, n32s (by omega) (by omega)]
      exact ih (k + 1) (by omega) (by omega) h4 (fun q => h1 ((Any.s e).mpr q)) (fun q => h2 (fun q' => q ((Any.s e).mp q')))
theorem Any.c {f g : Int → Int} {k n x : Int} (h0 : 0 ≤ k) (h : Eqn n f g) : Any f k n x ↔ Any g k n x := by
  constructor
  · rintro ⟨j, a, b, c⟩; exact ⟨j, a, b, by rw [← h j (by omega) b]; exact c⟩
  · rintro ⟨j, a, b, c⟩; exact ⟨j, a, b, by rw [h j (by omega) b]; exact c⟩
abbrev notBog (w : jW) (x : Int) : Prop := x = w 1 1 ∨ Any (w 6) 0 (w 1 4) x
theorem sX_bog (hn : w 1 0 ≤ 7) (h4 : w 1 4 ≤ 4) (hy : y = 0 ∨ y = 1) (h1 : ¬ cellB (w 1 0) x → Q (jI (-2)) (rX w (-2)))
    (h2 : cellB (w 1 0) x → y = 1 → notBog w x → Q (jI (-5)) (rX w (-5))) (h3 : cellB (w 1 0) x → ¬ (y = 1 ∧ notBog w x) → Q (jI (w 2 x)) (jup w 2 x y)) :
    AW mX_bog 0 [jR 0, jI x, jI y, jX] [] w Q := by
  rw [bX_bog_0, sL_isCell hn, bX_bog_9, jb_ite]
  by_cases hc : cellB (w 1 0) x
  · have h67 := cell67 hn hc
    have h0 := hc.1
    rw [if_pos hc]
    by_cases hy0 : y = 0
    · rw [if_pos hy0, bX_bog_41, if_pos (by omega), if_pos hy0, if_pos (by omega)]
      have := h3 hc (by omega)
      rw [hy0] at this; exact this
    · have hy1 : y = 1 := by omega
      rw [if_neg hy0, bL_canBeBog_0]
      by_cases hh : x = w 1 1
      · rw [if_pos hh, bX_bog_31, if_pos rfl, sX_refuse5, bX_bog_40]
        exact h2 hc hy1 (Or.inl hh)
      · rw [if_neg hh]
        refine sL_cbb _ 0 rfl (by omega) h4 ?_ ?_
        · intro ha
          rw [bX_bog_31, if_pos rfl, sX_refuse5, bX_bog_40]
          exact h2 hc hy1 (Or.inr ha)
        · intro ha
          rw [bX_bog_31, if_neg (by omega), bX_bog_41, if_pos (by omega), if_neg hy0, if_pos (by omega)]
          have := h3 hc (fun q => q.2.elim hh ha)
          rw [hy1] at this; exact this
  · rw [if_neg hc, sX_refuse2, bX_bog_18]; exact h1 hc
abbrev notBogM (w : jW) (x : Int) : Prop := x = w 45 2 ∨ Any (w 50) 0 (w 45 7) x
theorem sM_bog (hn : w 45 0 ≤ 7) (h4 : w 45 7 ≤ 4) (hx : in32 x) (hy : y = 0 ∨ y = 1) (h46 : w 46 x = 0 ∨ w 46 x = 1) (h1 : ¬ cellB (w 45 0) x → Q (jI (-2)) (rM w (-2)))
    (h2 : cellB (w 45 0) x → y = 1 → notBogM w x → Q (jI (-5)) (rM w (-5))) (h3 : cellB (w 45 0) x → ¬ (y = 1 ∧ notBogM w x) → Q (jI (w 46 x)) (jup w 46 x y)) :
    AW mM_bog 0 [jR 45, jI x, jI y, jX] [] w Q := by
  unfold in32 at hx
  rw [bM_bog_0, sM_isCell (by unfold in64; omega), bM_bog_6, jb_ite]
  by_cases hc : cellB (w 45 0) x
  · have h67 := cell67 hn hc
    have h0 := hc.1
    have h43 : ∀ y3, ¬ (y = 1 ∧ notBogM w x) → AW mM_bog 43 [jR 45, jI x, jI y, y3] [] w Q := by
      intro y3 hq
      have := h3 hc hq
      rw [bM_bog_43, if_pos (by omega)]
      split
      · rename_i e; rw [if_pos (by omega)]; rw [e] at this; exact this
      · rename_i e; rw [if_pos (by omega)]; rw [show w 46 x = 1 by omega] at this; exact this
    rw [if_pos hc]
    by_cases hy0 : y = 0
    · rw [if_pos hy0]; exact h43 _ (by omega)
    · have hy1 : y = 1 := by omega
      rw [if_neg hy0]
      by_cases hh : x = w 45 2
      · rw [if_pos hh, sM_no5, bM_bog_42]
        exact h2 hc hy1 (Or.inl hh)
      · rw [if_neg hh, bM_isWalkerAt_0]
        refine sM_iwa _ 0 rfl (by omega) h4 ?_ ?_
        · intro ha
          rw [bM_bog_33, if_neg (by omega), sM_no5, bM_bog_42]
          exact h2 hc hy1 (Or.inr ha)
        · intro ha
          rw [bM_bog_33, if_pos rfl]
          exact h43 _ (fun q => q.2.elim hh ha)
  · rw [if_neg hc, sM_no2, bM_bog_15]; exact h1 hc
end SF
