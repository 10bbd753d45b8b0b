/-! ways, steps and arms -/
def ab (x : Int) : Int := if 0 ≤ x then x else -x
def wayR (d e : Int) : Int :=
  if d = 0 ∧ e = 0 then 8 else if 2 * ab e < ab d then (if d < 0 then 0 else 4) else if 2 * ab d < ab e then (if 0 < e then 2 else 6) else if 0 < e then (if d < 0 then 1 else 3) else if d < 0 then 7 else 5
def wayF (a b : Int) : Int := wayR (b / 10 - a / 10) (b % 10 - a % 10)
def stF (a b : Int) : Int := ab (b / 10 - a / 10) + ab (b % 10 - a % 10)
abbrev c67 (x : Int) : Prop := 0 ≤ x ∧ x < 67
theorem wayR_in {d e : Int} : 0 ≤ wayR d e ∧ wayR d e ≤ 8 := by
  unfold wayR
  repeat' split
  all_goals omega
theorem jabs_s {x : Int} (h : -1000 ≤ x ∧ x ≤ 1000) : jabs x = ab x := by
  unfold jabs ab
  split
  · rfl
  · rw [n32s (by omega) (by omega)]; omega
theorem ab_in {x y : Int} (h : -y ≤ x ∧ x ≤ y) : 0 ≤ ab x ∧ ab x ≤ y := by unfold ab; split <;> omega
theorem ab_neg {x y : Int} : ab (x - y) = ab (y - x) := by unfold ab; split <;> split <;> omega
theorem stF_in {a b : Int} (ha : c67 a) (hb : c67 b) : 0 ≤ stF a b ∧ stF a b ≤ 20 := by
  unfold stF
  have := ab_in (x := b / 10 - a / 10) (y := 10) (by omega)
  have := ab_in (x := b % 10 - a % 10) (y := 10) (by omega)
  omega
/-- the nearest of the first m + 1 -/
def nr (f : Int → Int) (c : Int) : Nat → Int
  | 0 => 0
  | m + 1 => if stF c (f ((m : Int) + 1)) < stF c (f (nr f c m)) then (m : Int) + 1 else nr f c m
def sumD (f : Int → Int) (c : Int) : Nat → Int
  | 0 => 0
  | m + 1 => sumD f c m + (f (m : Int) / 10 - c / 10)
def sumE (f : Int → Int) (c : Int) : Nat → Int
  | 0 => 0
  | m + 1 => sumE f c m + (f (m : Int) % 10 - c % 10)
def keenR (c n : Int) (f : Int → Int) : Int := if n = 0 then -1 else wayF c (f (nr f c (n - 1).toNat))
def lazyR (a c n : Int) (f : Int → Int) : Int := if n = 1 then (if a < stF c (f 0) then -1 else wayF c (f 0)) else -1
def tornR (c n : Int) (f : Int → Int) : Int := if n = 0 then -1 else wayR (sumD f c n.toNat) (sumE f c n.toNat)
def turnR (arm on : Int) : Int := if arm = -1 then arm else if arm = 8 then arm else (arm + on) % 8
def armR (k a c n : Int) (f : Int → Int) : Int :=
  if k = 1 then keenR c n f else if k = 2 then lazyR a c n f else if k = 3 then turnR (keenR c n f) 1 else if k = 4 then turnR (lazyR a c n f) 4 else if k = 5 then tornR c n f else if n = 1 then wayF c (f 0) else -1
theorem nr_in {f : Int → Int} {c : Int} (m : Nat) : 0 ≤ nr f c m ∧ nr f c m ≤ (m : Int) := by
  induction m with
  | zero => exact ⟨by show (0 : Int) ≤ 0; omega, by show (0 : Int) ≤ 0; omega⟩
  | succ m ih =>
    unfold nr
    split <;> omega
theorem nr_cg {f g : Int → Int} {c : Int} (m : Nat) (h : ∀ i, 0 ≤ i → i ≤ (m : Int) → f i = g i) : nr f c m = nr g c m := by
  induction m with
  | zero => rfl
  | succ m ih =>
    have e := ih (fun i a b => h i a (by omega))
    have := nr_in (f := g) (c := c) m
    unfold nr
    rw [e, h ((m : Int) + 1) (by omega) (by omega), h (nr g c m) (by omega) (by omega)]
theorem sumD_cg {f g : Int → Int} {c : Int} (m : Nat) (h : ∀ i, 0 ≤ i → i < (m : Int) → f i = g i) : sumD f c m = sumD g c m := by
  induction m with
  | zero => rfl
  | succ m ih =>
    show sumD f c m + _ = sumD g c m + _
    rw [ih (fun i a b => h i a (by omega)), h m (by omega) (by omega)]
theorem sumE_cg {f g : Int → Int} {c : Int} (m : Nat) (h : ∀ i, 0 ≤ i → i < (m : Int) → f i = g i) : sumE f c m = sumE g c m := by
  induction m with
  | zero => rfl
  | succ m ih =>
    show sumE f c m + _ = sumE g c m + _
    rw [ih (fun i a b => h i a (by omega)), h m (by omega) (by omega)]
theorem sumD_in {f : Int → Int} {c : Int} (hc : c67 c) (m : Nat) (h : ∀ i, 0 ≤ i → i < (m : Int) → c67 (f i)) : -10 * (m : Int) ≤ sumD f c m ∧ sumD f c m ≤ 10 * (m : Int) := by
  induction m with
  | zero => exact ⟨by show _ ≤ (0 : Int); omega, by show (0 : Int) ≤ _; omega⟩
  | succ m ih =>
    have := ih (fun i a b => h i a (by omega))
    have := h m (by omega) (by omega)
    show _ ≤ sumD f c m + _ ∧ sumD f c m + _ ≤ _
    omega
theorem sumE_in {f : Int → Int} {c : Int} (hc : c67 c) (m : Nat) (h : ∀ i, 0 ≤ i → i < (m : Int) → c67 (f i)) : -10 * (m : Int) ≤ sumE f c m ∧ sumE f c m ≤ 10 * (m : Int) := by
  induction m with
  | zero => exact ⟨by show _ ≤ (0 : Int); omega, by show (0 : Int) ≤ _; omega⟩
  | succ m ih =>
    have := ih (fun i a b => h i a (by omega))
    have := h m (by omega) (by omega)
    show _ ≤ sumE f c m + _ ∧ sumE f c m + _ ≤ _
    omega
theorem keenR_in {c n : Int} {f : Int → Int} : -1 ≤ keenR c n f ∧ keenR c n f ≤ 8 := by
  unfold keenR wayF
  have := wayR_in (d := f (nr f c (n - 1).toNat) / 10 - c / 10) (e := f (nr f c (n - 1).toNat) % 10 - c % 10)
  split <;> omega
theorem lazyR_in {a c n : Int} {f : Int → Int} : -1 ≤ lazyR a c n f ∧ lazyR a c n f ≤ 8 := by
  unfold lazyR wayF
  have := wayR_in (d := f 0 / 10 - c / 10) (e := f 0 % 10 - c % 10)
  repeat' split
  all_goals omega
theorem turnR_in {x y : Int} (h : -1 ≤ x ∧ x ≤ 8) : -1 ≤ turnR x y ∧ turnR x y ≤ 8 := by
  unfold turnR
  repeat' split
  all_goals omega
theorem armR_in {k a c n : Int} {f : Int → Int} : -1 ≤ armR k a c n f ∧ armR k a c n f ≤ 8 := by
  unfold armR
  have h1 := keenR_in (c := c) (n := n) (f := f)
  have h2 := lazyR_in (a := a) (c := c) (n := n) (f := f)
  have h3 := turnR_in (y := 1) h1
  have h4 := turnR_in (y := 4) h2
  have h5 : -1 ≤ tornR c n f ∧ tornR c n f ≤ 8 := by
    unfold tornR
    have := wayR_in (d := sumD f c n.toNat) (e := sumE f c n.toNat)
    split <;> omega
  have h6 : 0 ≤ wayF c (f 0) ∧ wayF c (f 0) ≤ 8 := wayR_in
  repeat' split
  all_goals omega
theorem armR_cg {k a c n : Int} {f g : Int → Int} (h0 : 0 ≤ n) (h : Eqn n f g) : armR k a c n f = armR k a c n g := by
  have e1 : keenR c n f = keenR c n g := by
    unfold keenR
    split
    · rfl
    · have := nr_in (f := g) (c := c) (n - 1).toNat
      rw [nr_cg _ (fun i a b => h i a (by omega)), h _ (by omega) (by omega)]
  have e2 : lazyR a c n f = lazyR a c n g := by
    unfold lazyR
    split
    · rw [h 0 (by omega) (by omega)]
    · rfl
  have e3 : tornR c n f = tornR c n g := by
    unfold tornR
    rw [sumD_cg _ (fun i a b => h i a (by omega)), sumE_cg _ (fun i a b => h i a (by omega))]
  unfold armR
  rw [e1, e2, e3]
  by_cases hn : n = 1
  · rw [h 0 (by omega) (by omega)]
  · simp only [if_neg hn]
section SN
variable {w : jW} {Q : jV → jW → Prop} {K x y z a b c d e n p : Int}
theorem sX_wayBy (hd : -1000 ≤ d ∧ d ≤ 1000) (he : -1000 ≤ e ∧ e ≤ 1000) : AW mX_wayBy 0 [jI d, jI e, jX, jX] [] w Q = Q (jI (wayR d e)) w := by
  have h32 : ∀ x, AW mX_wayBy 32 [jI d, jI e, jI (ab d), jX] [jI x] w Q = AW mX_wayBy 32 [jI d, jI e, jI (ab d), jX] [jI x] w Q := fun _ => rfl
  have ad := ab_in (x := d) (y := 1000) (by omega)
  have ae := ab_in (x := e) (y := 1000) (by omega)
  have E : ¬ (d = 0 ∧ e = 0) → AW mX_wayBy 11 [jI d, jI e, jX, jX] [] w Q = Q (jI (wayR d e)) w := by
    intro hne
    have e21 : AW mX_wayBy 11 [jI d, jI e, jX, jX] [] w Q = AW mX_wayBy 21 [jI d, jI e, jX, jX] [jI (ab d)] w Q := by
      rw [bX_wayBy_11, n32s (by omega) (by omega)]
      unfold ab
      by_cases h : d < 0
      · rw [if_pos h, if_neg (by omega)]
      · rw [if_neg h, if_pos (by omega)]
    have e32 : AW mX_wayBy 21 [jI d, jI e, jX, jX] [jI (ab d)] w Q = AW mX_wayBy 32 [jI d, jI e, jI (ab d), jX] [jI (ab e)] w Q := by
      rw [bX_wayBy_21, n32s (by omega) (by omega)]
      by_cases h : e < 0
      · rw [if_pos h, show ab e = -e from if_neg (by omega)]
      · rw [if_neg h, show ab e = e from if_pos (by omega)]
    rw [e21, e32, bX_wayBy_32, n32s (by omega) (by omega), n32s (by omega) (by omega)]
    unfold wayR
    rw [if_neg hne]
    repeat' split
    all_goals first | rfl | (exfalso; omega)
  rw [bX_wayBy_0]
  by_cases h1 : d = 0
  · rw [if_pos h1]
    by_cases h2 : e = 0
    · rw [if_pos h2]; unfold wayR; rw [if_pos ⟨h1, h2⟩]
    · rw [if_neg h2]; exact E (fun q => h2 q.2)
  · rw [if_neg h1]; exact E (fun q => h1 q.1)
theorem sM_wayBy (hd : -1000 ≤ d ∧ d ≤ 1000) (he : -1000 ≤ e ∧ e ≤ 1000) : AW mM_wayBy 0 [jI d, jI e, jX, jX] [] w Q = Q (jI (wayR d e)) w := by
  have ad := ab_in (x := d) (y := 1000) (by omega)
  have ae := ab_in (x := e) (y := 1000) (by omega)
  rw [bM_wayBy_0, jabs_s hd, jabs_s he, n32s (by omega) (by omega), n32s (by omega) (by omega), n32s (by omega) (by omega)]
  have hz : ab d + ab e = 0 ↔ d = 0 ∧ e = 0 := by unfold ab; split <;> split <;> omega
  have hx : ¬ (d = 0 ∧ e = 0) → ¬ 2 * ab e < ab d → ¬ 2 * ab d < ab e → d ≠ 0 := by
    unfold ab; split <;> split <;> omega
  unfold wayR
  by_cases h0 : d = 0 ∧ e = 0
  · rw [if_pos h0, if_pos (hz.mpr h0)]
  · rw [if_neg h0, if_neg (fun q => h0 (hz.mp q))]
    have := hx h0
    repeat' split
    all_goals first | rfl | (exfalso; omega)
theorem sX_wayBetween (ha : c67 a) (hb : c67 b) : AW mX_wayBetween 0 [jI a, jI b] [] w Q = Q (jI (wayF a b)) w := by
  rw [bX_wayBetween_0, td ha.1, td hb.1, tm ha.1, tm hb.1, n32s (x := b / 10) (by omega) (by omega), n32s (x := a / 10) (by omega) (by omega), n32s (by omega) (by omega), n32s (by omega) (by omega), sX_wayBy (by omega) (by omega), bX_wayBetween_21]
  rfl
theorem sM_wayTo (ha : c67 a) (hb : c67 b) : AW mM_wayTo 0 [jI a, jI b] [] w Q = Q (jI (wayF a b)) w := by
  rw [bM_wayTo_0, td ha.1, td hb.1, tm ha.1, tm hb.1, n32s (x := b / 10) (by omega) (by omega), n32s (x := a / 10) (by omega) (by omega), n32s (by omega) (by omega), n32s (by omega) (by omega), sM_wayBy (by omega) (by omega), bM_wayTo_21]
  rfl
theorem sX_stepsBetween (ha : c67 a) (hb : c67 b) : AW mX_stepsBetween 0 [jI a, jI b] [] w Q = Q (jI (stF a b)) w := by
  have := ab_in (x := b / 10 - a / 10) (y := 10) (by omega)
  have := ab_in (x := b % 10 - a % 10) (y := 10) (by omega)
  rw [bX_stepsBetween_0, td ha.1, td hb.1, tm ha.1, tm hb.1, n32s (x := b / 10) (by omega) (by omega), n32s (x := a / 10) (by omega) (by omega), n32s (x := b / 10 - a / 10) (by omega) (by omega), n32s (x := b % 10 - a % 10) (by omega) (by omega), jabs_s (by omega), jabs_s (by omega), n32s (by omega) (by omega)]
  rfl
theorem sM_steps (ha : c67 a) (hb : c67 b) : AW mM_steps 0 [jI a, jI b] [] w Q = Q (jI (stF a b)) w := by
  have := ab_in (x := a / 10 - b / 10) (y := 10) (by omega)
  have := ab_in (x := a % 10 - b % 10) (y := 10) (by omega)
  rw [bM_steps_0, td ha.1, td hb.1, tm ha.1, tm hb.1, n32s (x := b / 10) (by omega) (by omega), n32s (x := a / 10) (by omega) (by omega), n32s (x := a / 10 - b / 10) (by omega) (by omega), n32s (x := a % 10 - b % 10) (by omega) (by omega), jabs_s (by omega), jabs_s (by omega), n32s (by omega) (by omega)]
  unfold stF
  rw [ab_neg (x := a / 10), ab_neg (x := a % 10)]
end SN
