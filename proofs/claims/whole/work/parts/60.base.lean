/-! small answers -/
def jb (c : Prop) [Decidable c] : Int := if c then 1 else 0
theorem jb_ite {α : Sort _} {c : Prop} [Decidable c] (a b : α) : (if jb c = 0 then a else b) = if c then b else a := by
  unfold jb
  by_cases h : c
  · rw [if_pos h, if_pos h, if_neg (by omega)]
  · rw [if_neg h, if_neg h, if_pos rfl]
theorem jb_01 {c : Prop} [Decidable c] : (jb c = 0 ∨ jb c = 1) = True := by
  unfold jb
  by_cases h : c
  · rw [if_pos h]; simp
  · rw [if_neg h]; simp
theorem jb_pos {c : Prop} [Decidable c] (h : c) : jb c = 1 := if_pos h
theorem jb_neg {c : Prop} [Decidable c] (h : ¬ c) : jb c = 0 := if_neg h
theorem jb_congr {c d : Prop} [Decidable c] [Decidable d] (h : c ↔ d) : jb c = jb d := by
  unfold jb; by_cases hc : c
  · rw [if_pos hc, if_pos (h.mp hc)]
  · rw [if_neg hc, if_neg (fun q => hc (h.mpr q))]
theorem lc1 {x y : Int} : ((if x < y then (-1 : Int) else if x = y then 0 else 1) < 0) = (x < y) := by
  apply propext; split
  · simp [*]
  · split <;> simp [*]
theorem lc2 {x y : Int} : (0 < (if x < y then (-1 : Int) else if x = y then 0 else 1)) = (y < x) := by
  apply propext; split
  · omega
  · split <;> omega
theorem lc3 {x y : Int} : ((if x < y then (-1 : Int) else if x = y then 0 else 1) = 0) = (x = y) := by
  apply propext; split
  · omega
  · split <;> omega
theorem n32s {x : Int} (h1 : -2147483648 ≤ x) (h2 : x < 2147483648) : n32 x = x := n32_id ⟨h1, h2⟩
theorem n64s {x : Int} (h1 : -9223372036854775808 ≤ x) (h2 : x < 9223372036854775808) : n64 x = x := n64_id ⟨h1, h2⟩
theorem td {x : Int} (h : 0 ≤ x) : Int.tdiv x 10 = x / 10 := Int.tdiv_eq_ediv_of_nonneg h
theorem tm {x : Int} (h : 0 ≤ x) : Int.tmod x 10 = x % 10 := Int.tmod_eq_emod_of_nonneg h
abbrev cellB (n c : Int) : Prop := 0 ≤ c ∧ c / 10 < n ∧ c % 10 < n
abbrev dryB (n : Int) (bg : Int → Int) (c : Int) : Prop := cellB n c ∧ bg c = 0
/-- a refusal is counted: the class's way, the reference's way -/
def rX (w : jW) (a : Int) : jW := jup w 41 (-2 - a) (n32 (w 41 (-2 - a) + 1))
def rM (w : jW) (a : Int) : jW := jup w 56 (-a) (n32 (w 56 (-a) + 1))
theorem rX_n {w : jW} {a : Int} {o : Nat} (h : o ≠ 41) : rX w a o = w o := jup_ne h
theorem rM_n {w : jW} {a : Int} {o : Nat} (h : o ≠ 56) : rM w a o = w o := jup_ne h
section SB
variable {w : jW} {Q : jV → jW → Prop} {x y z lo hi : Int}
theorem sX_isShelf : AW mX_isShelf 0 [jI x] [] w Q = Q (jI (jb (0 ≤ x ∧ x < 8))) w := by
  rw [bX_isShelf_0]
  repeat' split
  all_goals first | rw [jb_pos (by omega)] | rw [jb_neg (by omega)]
theorem sX_isWithin : AW mX_isWithin 0 [jL x, jX, jI lo, jI hi] [] w Q = Q (jI (jb (lo ≤ x ∧ x ≤ hi))) w := by
  rw [bX_isWithin_0]
  simp only [lc1, lc2]
  repeat' split
  all_goals first | rw [jb_pos (by omega)] | rw [jb_neg (by omega)]
theorem sX_isKind : AW mX_isKind 0 [jI x] [] w Q = Q (jI (jb (0 ≤ x ∧ x < 6))) w := by
  rw [bX_isKind_0]
  repeat' split
  all_goals first | rw [jb_pos (by omega)] | rw [jb_neg (by omega)]
theorem sX_isArm : AW mX_isArm 0 [jL x, jX] [] w Q = Q (jI (jb (-1 ≤ x ∧ x ≤ 8))) w := by
  rw [bX_isArm_0]
  simp only [lc1, lc2]
  repeat' split
  all_goals first | rw [jb_pos (by omega)] | rw [jb_neg (by omega)]
abbrev undB (x y : Int) : Prop := y = 0 ∨ x = y ∨ x = 3 ∧ y = 1 ∨ x = 4 ∧ y = 2
theorem sX_isKindUnder : AW mX_isKindUnder 0 [jI x, jI y] [] w Q = Q (jI (jb (undB x y))) w := by
  simp only [bX_isKindUnder_0, bX_isKindUnder_19]
  repeat' split
  all_goals first | (exfalso; omega) | rw [jb_pos (by unfold undB; omega)] | rw [jb_neg (by unfold undB; omega)]
theorem sX_refuse (h1 : -6 ≤ x) (h2 : x ≤ -2) : AW mX_refuse 0 [jR 0, jI x, jX] [] w Q = Q (jI x) (rX w x) := by
  unfold rX
  rw [bX_refuse_0, sX_isWithin, bX_refuse_12, n32s (by omega) (by omega), jb_ite, if_pos (by omega), if_pos (by omega), if_pos (by omega)]
theorem sX_refuse2 : AW mX_refuse 0 [jR 0, jI (-2), jX] [] w Q = Q (jI (-2)) (rX w (-2)) := sX_refuse (by omega) (by omega)
theorem sX_refuse3 : AW mX_refuse 0 [jR 0, jI (-3), jX] [] w Q = Q (jI (-3)) (rX w (-3)) := sX_refuse (by omega) (by omega)
theorem sX_refuse4 : AW mX_refuse 0 [jR 0, jI (-4), jX] [] w Q = Q (jI (-4)) (rX w (-4)) := sX_refuse (by omega) (by omega)
theorem sX_refuse5 : AW mX_refuse 0 [jR 0, jI (-5), jX] [] w Q = Q (jI (-5)) (rX w (-5)) := sX_refuse (by omega) (by omega)
theorem sX_refuse6 : AW mX_refuse 0 [jR 0, jI (-6), jX] [] w Q = Q (jI (-6)) (rX w (-6)) := sX_refuse (by omega) (by omega)
theorem sM_within : AW mM_within 0 [jI x, jI lo, jI hi] [] w Q = Q (jI (jb (lo ≤ x ∧ x ≤ hi))) w := by
  rw [bM_within_0]
  repeat' split
  all_goals first | rw [jb_pos (by omega)] | rw [jb_neg (by omega)]
theorem sM_isShelf : AW mM_isShelf 0 [jI x] [] w Q = Q (jI (jb (0 ≤ x ∧ x < 8))) w := by
  rw [bM_isShelf_0, sM_within, bM_isShelf_7, if_pos (by rw [jb_01]; trivial), jb_congr (d := 0 ≤ x ∧ x < 8) (by omega)]
theorem sM_isUnder : AW mM_isUnder 0 [jI x, jI y] [] w Q = Q (jI (jb (undB x y))) w := by
  simp only [bM_isUnder_0, bM_isUnder_19]
  repeat' split
  all_goals first | (exfalso; omega) | rw [jb_pos (by unfold undB; omega)] | rw [jb_neg (by unfold undB; omega)]
theorem sM_no (h1 : -6 ≤ x) (h2 : x ≤ 0) : AW mM_no 0 [jR 45, jI x] [] w Q = Q (jI x) (rM w x) := by
  unfold rM
  rw [bM_no_0, n32s (by omega) (by omega), if_pos (by omega), if_pos (by omega)]
theorem sM_no2 : AW mM_no 0 [jR 45, jI (-2)] [] w Q = Q (jI (-2)) (rM w (-2)) := sM_no (by omega) (by omega)
theorem sM_no3 : AW mM_no 0 [jR 45, jI (-3)] [] w Q = Q (jI (-3)) (rM w (-3)) := sM_no (by omega) (by omega)
theorem sM_no4 : AW mM_no 0 [jR 45, jI (-4)] [] w Q = Q (jI (-4)) (rM w (-4)) := sM_no (by omega) (by omega)
theorem sM_no5 : AW mM_no 0 [jR 45, jI (-5)] [] w Q = Q (jI (-5)) (rM w (-5)) := sM_no (by omega) (by omega)
theorem sM_no6 : AW mM_no 0 [jR 45, jI (-6)] [] w Q = Q (jI (-6)) (rM w (-6)) := sM_no (by omega) (by omega)
theorem sL_isCell (hn : w 1 0 ≤ 7) : AW mL_isCell 0 [jR 1, jL x, jX] [] w Q = Q (jI (jb (cellB (w 1 0) x))) w := by
  rw [bL_isCell_0]
  simp only [lc1]
  by_cases h0 : x < 0
  · rw [if_pos h0, jb_neg (by unfold cellB; omega)]
  · rw [if_neg h0]
    by_cases h1 : x < 67
    · rw [if_pos h1, td (by omega), tm (by omega), n64s (by omega) (by omega)]
      repeat' split
      all_goals first | rw [jb_pos (by unfold cellB; omega)] | rw [jb_neg (by unfold cellB; omega)]
    · rw [if_neg h1, jb_neg (by unfold cellB; omega)]
theorem sL_isCell_r15 (hn : w 15 0 ≤ 7) : AW mL_isCell 0 [jR 15, jL x, jX] [] w Q = Q (jI (jb (cellB (w 15 0) x))) w := by
  rw [bL_isCell_r15_0]
  simp only [lc1]
  by_cases h0 : x < 0
  · rw [if_pos h0, jb_neg (by unfold cellB; omega)]
  · rw [if_neg h0]
    by_cases h1 : x < 67
    · rw [if_pos h1, td (by omega), tm (by omega), n64s (by omega) (by omega)]
      repeat' split
      all_goals first | rw [jb_pos (by unfold cellB; omega)] | rw [jb_neg (by unfold cellB; omega)]
    · rw [if_neg h1, jb_neg (by unfold cellB; omega)]
theorem cell67 {n c : Int} (hn : n ≤ 7) (h : cellB n c) : c < 67 := by unfold cellB at h; omega
theorem sL_isDry (hn : w 1 0 ≤ 7) : AW mL_isDry 0 [jR 1, jL x, jX] [] w Q = Q (jI (jb (dryB (w 1 0) (w 2) x))) w := by
  rw [bL_isDry_0, sL_isCell hn, bL_isDry_5, jb_ite]
  by_cases h : cellB (w 1 0) x
  · have h67 := cell67 hn h
    have h0 := h.1
    rw [if_pos h, n32s (by omega) (by omega), if_pos (by omega)]
    split
    · rw [jb_pos ⟨h, by assumption⟩]
    · rw [jb_neg (fun q => by have := q.2; contradiction)]
  · rw [if_neg h, jb_neg (fun q => h q.1)]
theorem sL_isDry_r15 (hn : w 15 0 ≤ 7) : AW mL_isDry 0 [jR 15, jL x, jX] [] w Q = Q (jI (jb (dryB (w 15 0) (w 16) x))) w := by
  rw [bL_isDry_r15_0, sL_isCell_r15 hn, bL_isDry_r15_5, jb_ite]
  by_cases h : cellB (w 15 0) x
  · have h67 := cell67 hn h
    have h0 := h.1
    rw [if_pos h, n32s (by omega) (by omega), if_pos (by omega)]
    split
    · rw [jb_pos ⟨h, by assumption⟩]
    · rw [jb_neg (fun q => by have := q.2; contradiction)]
  · rw [if_neg h, jb_neg (fun q => h q.1)]
theorem sM_isCell (hx : in64 x) : AW mM_isCell 0 [jR 45, jL x, jX] [] w Q = Q (jI (jb (cellB (w 45 0) x))) w := by
  unfold in64 at hx
  rw [bM_isCell_0]
  simp only [lc1]
  by_cases h0 : x < 0
  · rw [if_pos h0, jb_neg (by unfold cellB; omega)]
  · rw [if_neg h0, td (by omega), tm (by omega), n64s (by omega) (by omega)]
    repeat' split
    all_goals first | rw [jb_pos (by unfold cellB; omega)] | rw [jb_neg (by unfold cellB; omega)]
theorem sM_isDry (hn : w 45 0 ≤ 7) (hx : in32 x) : AW mM_isDry 0 [jR 45, jI x] [] w Q = Q (jI (jb (dryB (w 45 0) (w 46) x))) w := by
  unfold in32 at hx
  rw [bM_isDry_0, sM_isCell (by unfold in64; omega), bM_isDry_6, jb_ite]
  by_cases h : cellB (w 45 0) x
  · have h67 := cell67 hn h
    have h0 := h.1
    rw [if_pos h, if_pos (by omega)]
    split
    · rw [jb_pos ⟨h, by assumption⟩]
    · rw [jb_neg (fun q => by have := q.2; contradiction)]
  · rw [if_neg h, jb_neg (fun q => h q.1)]
end SB
