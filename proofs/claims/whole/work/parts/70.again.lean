/-- what again has done so far -/
def AG (w : jW) (o : Nat) (k1 k2 k3 : Int) (v : jW) : Prop := (∀ q, q < 45 ∨ 51 < q → v q = w q) ∧ v 45 = w 45 ∧ (∀ c, 0 ≤ c → c < k1 → v 46 c = w o c) ∧ (∀ p, 0 ≤ p → p < k2 → v 47 p = w o (67 + p) ∧ v 48 p = w o (75 + p) ∧ v 49 p = w o (83 + p)) ∧ (∀ p, 0 ≤ p → p < k3 → v 50 p = w o (91 + p) ∧ v 51 p = w o (95 + p))
def up5 (w v : jW) (o : Nat) : jW := jup (jup (jup (jup (jup v 45 0 (w o 99)) 45 2 (w o 100)) 45 3 (w o 101)) 45 7 (w o 102)) 45 10 (w o 103)
theorem sM_again84_57 {w : jW} {Q : jV → jW → Prop} (hQ : ∀ v, AG w 57 67 8 4 v → Q (jI 0) (up5 w v 57)) (m : Nat) :
    ∀ k v, (4 - k).toNat = m → 0 ≤ k → k ≤ 4 → AG w 57 67 8 k v → AW mM_again 84 [jR 45, jR 57, jI k] [] v Q := by
  induction m with
  | zero =>
    intro k v hm h0 h1 hg
    have hk : k = 4 := by omega
    subst hk
    rw [bM_again_r57_84, if_neg (by omega), if_pos (by omega), if_pos (by omega), if_pos (by omega), if_pos (by omega), if_pos (by omega), hg.1 57 (by omega)]
    exact hQ v hg
  | succ m ih =>
    intro k v hm h0 h1 hg
    rw [bM_again_r57_84, if_pos (by omega), n32s (x := 91 + k) (by omega) (by omega), n32s (x := 95 + k) (by omega) (by omega), n32s (x := k + 1) (by omega) (by omega), if_pos (by omega), if_pos (by omega), if_pos (by omega), if_pos (by omega), hg.1 57 (by omega)]
    refine ih (k + 1) _ (by omega) (by omega) (by omega) ?_
    obtain ⟨a, b, c, d, e⟩ := hg
    refine ⟨?_, ?_, ?_, ?_, ?_⟩
    · intro q hq; simp (disch := omega) only [jupn]; exact a q hq
    · simp (disch := omega) only [jupn]; exact b
    · intro i q1 q2; simp (disch := omega) only [jupn]; exact c i q1 q2
    · intro i q1 q2; simp (disch := omega) only [jupn]; exact d i q1 q2
    · intro i q1 q2
      simp (disch := omega) only [jupn, jups]
      by_cases h : i = k
      · subst h; simp (disch := omega) only [up1_n, up1_s]; exact ⟨trivial, trivial⟩
      · simp (disch := omega) only [up1_n]; exact e i q1 (by omega)
theorem sM_again34_57 {w : jW} {Q : jV → jW → Prop} (hQ : ∀ v, AG w 57 67 8 4 v → Q (jI 0) (up5 w v 57)) (m : Nat) :
    ∀ k v, (8 - k).toNat = m → 0 ≤ k → k ≤ 8 → AG w 57 67 k 0 v → AW mM_again 34 [jR 45, jR 57, jI k] [] v Q := by
  induction m with
  | zero =>
    intro k v hm h0 h1 hg
    have hk : k = 8 := by omega
    subst hk
    rw [bM_again_r57_34, if_neg (by omega)]
    exact sM_again84_57 hQ _ 0 v rfl (by omega) (by omega) hg
  | succ m ih =>
    intro k v hm h0 h1 hg
    rw [bM_again_r57_34, if_pos (by omega), n32s (x := 67 + k) (by omega) (by omega), n32s (x := 75 + k) (by omega) (by omega), n32s (x := 83 + k) (by omega) (by omega), n32s (x := k + 1) (by omega) (by omega), if_pos (by omega), if_pos (by omega), if_pos (by omega), if_pos (by omega), if_pos (by omega), if_pos (by omega), hg.1 57 (by omega)]
    refine ih (k + 1) _ (by omega) (by omega) (by omega) ?_
    obtain ⟨a, b, c, d, e⟩ := hg
    refine ⟨?_, ?_, ?_, ?_, ?_⟩
    · intro q hq; simp (disch := omega) only [jupn]; exact a q hq
    · simp (disch := omega) only [jupn]; exact b
    · intro i q1 q2; simp (disch := omega) only [jupn]; exact c i q1 q2
    · intro i q1 q2
      simp (disch := omega) only [jupn, jups]
      by_cases h : i = k
      · subst h; simp (disch := omega) only [up1_n, up1_s]; exact ⟨trivial, trivial, trivial⟩
      · simp (disch := omega) only [up1_n]; exact d i q1 (by omega)
    · intro i q1 q2; omega
theorem sM_again2_57 {w : jW} {Q : jV → jW → Prop} (hb : ∀ c, 0 ≤ c → c < 67 → w 57 c = 0 ∨ w 57 c = 1) (hQ : ∀ v, AG w 57 67 8 4 v → Q (jI 0) (up5 w v 57)) (m : Nat) :
    ∀ k v, (67 - k).toNat = m → 0 ≤ k → k ≤ 67 → AG w 57 k 0 0 v → AW mM_again 2 [jR 45, jR 57, jI k] [] v Q := by
  induction m with
  | zero =>
    intro k v hm h0 h1 hg
    have hk : k = 67 := by omega
    subst hk
    rw [bM_again_r57_2, if_neg (by omega)]
    exact sM_again34_57 hQ _ 0 v rfl (by omega) (by omega) hg
  | succ m ih =>
    intro k v hm h0 h1 hg
    have go : ∀ x, w 57 k = x → AW mM_again 2 [jR 45, jR 57, jI (k + 1)] [] (jup v 46 k x) Q := by
      intro x hx
      refine ih (k + 1) _ (by omega) (by omega) (by omega) ?_
      obtain ⟨a, b, c, d, e⟩ := hg
      refine ⟨?_, ?_, ?_, ?_, ?_⟩
      · intro q hq; simp (disch := omega) only [jupn]; exact a q hq
      · simp (disch := omega) only [jupn]; exact b
      · intro i q1 q2
        simp (disch := omega) only [jupn, jups]
        by_cases h : i = k
        · subst h; rw [up1_s, hx]
        · simp (disch := omega) only [up1_n]; exact c i q1 (by omega)
      · intro i q1 q2; omega
      · intro i q1 q2; omega
    have hk := hb k h0 (by omega)
    rw [bM_again_r57_2, if_pos (by omega), if_pos (by omega), n32s (x := k + 1) (by omega) (by omega), hg.1 57 (by omega)]
    split
    · rename_i e; rw [if_pos (by omega)]; exact go 1 e
    · rename_i e; rw [if_pos (by omega)]; exact go 0 (by omega)
theorem sM_again_57 {w : jW} {Q : jV → jW → Prop} (hb : ∀ c, 0 ≤ c → c < 67 → w 57 c = 0 ∨ w 57 c = 1) (hQ : ∀ v, AG w 57 67 8 4 v → Q (jI 0) (up5 w v 57)) :
    AW mM_again 0 [jR 45, jR 57, jX] [] w Q := by
  rw [bM_again_r57_0]
  exact sM_again2_57 hb hQ _ 0 w rfl (by omega) (by omega) ⟨fun _ _ => rfl, rfl, fun c q1 q2 => by omega, fun c q1 q2 => by omega, fun c q1 q2 => by omega⟩
theorem sM_again84_58 {w : jW} {Q : jV → jW → Prop} (hQ : ∀ v, AG w 58 67 8 4 v → Q (jI 0) (up5 w v 58)) (m : Nat) :
    ∀ k v, (4 - k).toNat = m → 0 ≤ k → k ≤ 4 → AG w 58 67 8 k v → AW mM_again 84 [jR 45, jR 58, jI k] [] v Q := by
  induction m with
  | zero =>
    intro k v hm h0 h1 hg
    have hk : k = 4 := by omega
    subst hk
    rw [bM_again_r58_84, if_neg (by omega), if_pos (by omega), if_pos (by omega), if_pos (by omega), if_pos (by omega), if_pos (by omega), hg.1 58 (by omega)]
    exact hQ v hg
  | succ m ih =>
    intro k v hm h0 h1 hg
    rw [bM_again_r58_84, if_pos (by omega), n32s (x := 91 + k) (by omega) (by omega), n32s (x := 95 + k) (by omega) (by omega), n32s (x := k + 1) (by omega) (by omega), if_pos (by omega), if_pos (by omega), if_pos (by omega), if_pos (by omega), hg.1 58 (by omega)]
    refine ih (k + 1) _ (by omega) (by omega) (by omega) ?_
    obtain ⟨a, b, c, d, e⟩ := hg
    refine ⟨?_, ?_, ?_, ?_, ?_⟩
    · intro q hq; simp (disch := omega) only [jupn]; exact a q hq
    · simp (disch := omega) only [jupn]; exact b
    · intro i q1 q2; simp (disch := omega) only [jupn]; exact c i q1 q2
    · intro i q1 q2; simp (disch := omega) only [jupn]; exact d i q1 q2
    · intro i q1 q2
      simp (disch := omega) only [jupn, jups]
      by_cases h : i = k
      · subst h; simp (disch := omega) only [up1_n, up1_s]; exact ⟨trivial, trivial⟩
      · simp (disch := omega) only [up1_n]; exact e i q1 (by omega)
theorem sM_again34_58 {w : jW} {Q : jV → jW → Prop} (hQ : ∀ v, AG w 58 67 8 4 v → Q (jI 0) (up5 w v 58)) (m : Nat) :
    ∀ k v, (8 - k).toNat = m → 0 ≤ k → k ≤ 8 → AG w 58 67 k 0 v → AW mM_again 34 [jR 45, jR 58, jI k] [] v Q := by
  induction m with
  | zero =>
    intro k v hm h0 h1 hg
    have hk : k = 8 := by omega
    subst hk
    rw [bM_again_r58_34, if_neg (by omega)]
    exact sM_again84_58 hQ _ 0 v rfl (by omega) (by omega) hg
  | succ m ih =>
    intro k v hm h0 h1 hg
    rw [bM_again_r58_34, if_pos (by omega), n32s (x := 67 + k) (by omega) (by omega), n32s (x := 75 + k) (by omega) (by omega), n32s (x := 83 + k) (by omega) (by omega), n32s (x := k + 1) (by omega) (by omega), if_pos (by omega), if_pos (by omega), if_pos (by omega), if_pos (by omega), if_pos (by omega), if_pos (by omega), hg.1 58 (by omega)]
    refine ih (k + 1) _ (by omega) (by omega) (by omega) ?_
    obtain ⟨a, b, c, d, e⟩ := hg
    refine ⟨?_, ?_, ?_, ?_, ?_⟩
    · intro q hq; simp (disch := omega) only [jupn]; exact a q hq
    · simp (disch := omega) only [jupn]; exact b
    · intro i q1 q2; simp (disch := omega) only [jupn]; exact c i q1 q2
    · intro i q1 q2
      simp (disch := omega) only [jupn, jups]
      by_cases h : i = k
      · subst h; simp (disch := omega) only [up1_n, up1_s]; exact ⟨trivial, trivial, trivial⟩
      · simp (disch := omega) only [up1_n]; exact d i q1 (by omega)
    · intro i q1 q2; omega
theorem sM_again2_58 {w : jW} {Q : jV → jW → Prop} (hb : ∀ c, 0 ≤ c → c < 67 → w 58 c = 0 ∨ w 58 c = 1) (hQ : ∀ v, AG w 58 67 8 4 v → Q (jI 0) (up5 w v 58)) (m : Nat) :
    ∀ k v, (67 - k).toNat = m → 0 ≤ k → k ≤ 67 → AG w 58 k 0 0 v → AW mM_again 2 [jR 45, jR 58, jI k] [] v Q := by
  induction m with
  | zero =>
    intro k v hm h0 h1 hg
    have hk : k = 67 := by omega
    subst hk
    rw [bM_again_r58_2, if_neg (by omega)]
    exact sM_again34_58 hQ _ 0 v rfl (by omega) (by omega) hg
  | succ m ih =>
    intro k v hm h0 h1 hg
    have go : ∀ x, w 58 k = x → AW mM_again 2 [jR 45, jR 58, jI (k + 1)] [] (jup v 46 k x) Q := by
      intro x hx
      refine ih (k + 1) _ (by omega) (by omega) (by omega) ?_
      obtain ⟨a, b, c, d, e⟩ := hg
      refine ⟨?_, ?_, ?_, ?_, ?_⟩
      · intro q hq; simp (disch := omega) only [jupn]; exact a q hq
      · simp (disch := omega) only [jupn]; exact b
      · intro i q1 q2
        simp (disch := omega) only [jupn, jups]
        by_cases h : i = k
        · subst h; rw [up1_s, hx]
        · simp (disch := omega) only [up1_n]; exact c i q1 (by omega)
      · intro i q1 q2; omega
      · intro i q1 q2; omega
    have hk := hb k h0 (by omega)
    rw [bM_again_r58_2, if_pos (by omega), if_pos (by omega), n32s (x := k + 1) (by omega) (by omega), hg.1 58 (by omega)]
    split
    · rename_i e; rw [if_pos (by omega)]; exact go 1 e
    · rename_i e; rw [if_pos (by omega)]; exact go 0 (by omega)
theorem sM_again_58 {w : jW} {Q : jV → jW → Prop} (hb : ∀ c, 0 ≤ c → c < 67 → w 58 c = 0 ∨ w 58 c = 1) (hQ : ∀ v, AG w 58 67 8 4 v → Q (jI 0) (up5 w v 58)) :
    AW mM_again 0 [jR 45, jR 58, jX] [] w Q := by
  rw [bM_again_r58_0]
  exact sM_again2_58 hb hQ _ 0 w rfl (by omega) (by omega) ⟨fun _ _ => rfl, rfl, fun c q1 q2 => by omega, fun c q1 q2 => by omega, fun c q1 q2 => by omega⟩
/-- no post that isn't there -/
def dpf (f : Int → Int) (a b : Int) : Int → Int := fun s => if (a ≤ s ∧ s < 8) ∧ 10 + b ≤ f s then -1 else f s
theorem Eqn.dpf {f g : Int → Int} (h : Eqn 8 f g) (a b : Int) : Eqn 8 (dpf f a b) (dpf g a b) := by
  intro s h0 h1
  show (if (a ≤ s ∧ s < 8) ∧ 10 + b ≤ f s then -1 else f s) = (if (a ≤ s ∧ s < 8) ∧ 10 + b ≤ g s then -1 else g s)
  rw [h s h0 h1]
section SL
variable {w : jW} {Q : jV → jW → Prop} {K x y z k i j n p q b : Int}
theorem sS_drop (hb : 0 ≤ b ∧ b ≤ 8) (m : Nat) : ∀ k (w : jW), (8 - k).toNat = m → 0 ≤ k → k ≤ 8 → AW mS_dropPostsFrom 2 [jR 22, jI b, jI k] [] w Q = Q (jI 0) (jwr w 23 (dpf (w 23) k b)) := by
  induction m with
  | zero =>
    intro k w hm h0 h1
    rw [bS_dropPostsFrom_2, if_neg (by omega), jwr_e]
    funext t; unfold dpf; rw [if_neg (by omega)]
  | succ m ih =>
    intro k w hm h0 h1
    rw [bS_dropPostsFrom_2, if_pos (by omega), if_pos (by omega), n32s (by omega) (by omega), n32s (by omega) (by omega)]
    split
    · rw [ih (k + 1) _ (by omega) (by omega) (by omega)]
      congr 2
      funext t; unfold dpf
      by_cases e : t = k
      · subst e; rw [if_neg (by omega), if_neg (by omega)]
      · split
        · rw [if_pos (by omega)]
        · rw [if_neg (by omega)]
    · rw [if_pos (by omega), ih (k + 1) _ (by omega) (by omega) (by omega), jwr_j, jups]
      congr 2
      funext t; unfold dpf up1
      by_cases e : t = k
      · subst e; rw [if_neg (by omega), if_pos rfl, if_pos (by omega)]
      · rw [if_neg e]
        split
        · rw [if_pos (by omega)]
        · rw [if_neg (by omega)]
theorem sM_drop (hb : 0 ≤ b ∧ b ≤ 8) (m : Nat) : ∀ k (w : jW), (8 - k).toNat = m → w 45 3 = b → 0 ≤ k → k ≤ 8 → AW mM_back 24 [jR 45, jI k] [] w Q = Q (jI 1) (jwr w 53 (dpf (w 53) k b)) := by
  induction m with
  | zero =>
    intro k w hm hw h0 h1
    rw [bM_back_24, if_neg (by omega), jwr_e]
    funext t; unfold dpf; rw [if_neg (by omega)]
  | succ m ih =>
    intro k w hm hw h0 h1
    rw [bM_back_24, if_pos (by omega), if_pos (by omega), hw, n32s (by omega) (by omega), n32s (by omega) (by omega)]
    split
    · rw [ih (k + 1) _ (by omega) hw (by omega) (by omega)]
      congr 2
      funext t; unfold dpf
      by_cases e : t = k
      · subst e; rw [if_neg (by omega), if_neg (by omega)]
      · split
        · rw [if_pos (by omega)]
        · rw [if_neg (by omega)]
    · rw [if_pos (by omega), ih (k + 1) _ (by omega) (by rw [jupn (by omega)]; exact hw) (by omega) (by omega), jwr_j, jups]
      congr 2
      funext t; unfold dpf up1
      by_cases e : t = k
      · subst e; rw [if_neg (by omega), if_pos rfl, if_pos (by omega)]
      · rw [if_neg e]
        split
        · rw [if_pos (by omega)]
        · rw [if_neg (by omega)]
end SL
