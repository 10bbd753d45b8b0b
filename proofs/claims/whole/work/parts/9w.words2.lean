/-! more on words (written by a program) -/
theorem wd0_cg {b b2 : Int → Int} {s e : Int} (h : ∀ i, s ≤ i → i < e → b i = b2 i) : wd0 b s e = wd0 b2 s e := by
  unfold wd0
  by_cases z : e - s = 4
  · rw [if_pos z, if_pos z, h (s + 0) (by omega) (by omega), h (s + 1) (by omega) (by omega), h (s + 2) (by omega) (by omega), h (s + 3) (by omega) (by omega)]
  · rw [if_neg z, if_neg z]
theorem wd0_f {b : Int → Int} {s e : Int} (h : ¬ wd0 b s e = 0) : e - s = 4 ∧ b s = 115 := by
  unfold wd0 at h
  by_cases z : e - s = 4
  · rw [if_pos z] at h
    by_cases y : b (s + 0) = 115
    · rw [Int.add_zero] at y; exact ⟨z, y⟩
    · rw [if_neg y] at h; exact absurd rfl h
  · rw [if_neg z] at h; exact absurd rfl h
theorem wd1_cg {b b2 : Int → Int} {s e : Int} (h : ∀ i, s ≤ i → i < e → b i = b2 i) : wd1 b s e = wd1 b2 s e := by
  unfold wd1
  by_cases z : e - s = 3
  · rw [if_pos z, if_pos z, h (s + 0) (by omega) (by omega), h (s + 1) (by omega) (by omega), h (s + 2) (by omega) (by omega)]
  · rw [if_neg z, if_neg z]
theorem wd1_f {b : Int → Int} {s e : Int} (h : ¬ wd1 b s e = 0) : e - s = 3 ∧ b s = 98 := by
  unfold wd1 at h
  by_cases z : e - s = 3
  · rw [if_pos z] at h
    by_cases y : b (s + 0) = 98
    · rw [Int.add_zero] at y; exact ⟨z, y⟩
    · rw [if_neg y] at h; exact absurd rfl h
  · rw [if_neg z] at h; exact absurd rfl h
theorem wd2_cg {b b2 : Int → Int} {s e : Int} (h : ∀ i, s ≤ i → i < e → b i = b2 i) : wd2 b s e = wd2 b2 s e := by
  unfold wd2
  by_cases z : e - s = 3
  · rw [if_pos z, if_pos z, h (s + 0) (by omega) (by omega), h (s + 1) (by omega) (by omega), h (s + 2) (by omega) (by omega)]
  · rw [if_neg z, if_neg z]
theorem wd2_f {b : Int → Int} {s e : Int} (h : ¬ wd2 b s e = 0) : e - s = 3 ∧ b s = 100 := by
  unfold wd2 at h
  by_cases z : e - s = 3
  · rw [if_pos z] at h
    by_cases y : b (s + 0) = 100
    · rw [Int.add_zero] at y; exact ⟨z, y⟩
    · rw [if_neg y] at h; exact absurd rfl h
  · rw [if_neg z] at h; exact absurd rfl h
theorem wd3_cg {b b2 : Int → Int} {s e : Int} (h : ∀ i, s ≤ i → i < e → b i = b2 i) : wd3 b s e = wd3 b2 s e := by
  unfold wd3
  by_cases z : e - s = 4
  · rw [if_pos z, if_pos z, h (s + 0) (by omega) (by omega), h (s + 1) (by omega) (by omega), h (s + 2) (by omega) (by omega), h (s + 3) (by omega) (by omega)]
  · rw [if_neg z, if_neg z]
theorem wd3_f {b : Int → Int} {s e : Int} (h : ¬ wd3 b s e = 0) : e - s = 4 ∧ b s = 104 := by
  unfold wd3 at h
  by_cases z : e - s = 4
  · rw [if_pos z] at h
    by_cases y : b (s + 0) = 104
    · rw [Int.add_zero] at y; exact ⟨z, y⟩
    · rw [if_neg y] at h; exact absurd rfl h
  · rw [if_neg z] at h; exact absurd rfl h
theorem wd4_cg {b b2 : Int → Int} {s e : Int} (h : ∀ i, s ≤ i → i < e → b i = b2 i) : wd4 b s e = wd4 b2 s e := by
  unfold wd4
  by_cases z : e - s = 4
  · rw [if_pos z, if_pos z, h (s + 0) (by omega) (by omega), h (s + 1) (by omega) (by omega), h (s + 2) (by omega) (by omega), h (s + 3) (by omega) (by omega)]
  · rw [if_neg z, if_neg z]
theorem wd4_f {b : Int → Int} {s e : Int} (h : ¬ wd4 b s e = 0) : e - s = 4 ∧ b s = 112 := by
  unfold wd4 at h
  by_cases z : e - s = 4
  · rw [if_pos z] at h
    by_cases y : b (s + 0) = 112
    · rw [Int.add_zero] at y; exact ⟨z, y⟩
    · rw [if_neg y] at h; exact absurd rfl h
  · rw [if_neg z] at h; exact absurd rfl h
theorem wd5_cg {b b2 : Int → Int} {s e : Int} (h : ∀ i, s ≤ i → i < e → b i = b2 i) : wd5 b s e = wd5 b2 s e := by
  unfold wd5
  by_cases z : e - s = 6
  · rw [if_pos z, if_pos z, h (s + 0) (by omega) (by omega), h (s + 1) (by omega) (by omega), h (s + 2) (by omega) (by omega), h (s + 3) (by omega) (by omega), h (s + 4) (by omega) (by omega), h (s + 5) (by omega) (by omega)]
  · rw [if_neg z, if_neg z]
theorem wd5_f {b : Int → Int} {s e : Int} (h : ¬ wd5 b s e = 0) : e - s = 6 ∧ b s = 119 := by
  unfold wd5 at h
  by_cases z : e - s = 6
  · rw [if_pos z] at h
    by_cases y : b (s + 0) = 119
    · rw [Int.add_zero] at y; exact ⟨z, y⟩
    · rw [if_neg y] at h; exact absurd rfl h
  · rw [if_neg z] at h; exact absurd rfl h
