/-! runs of the abstract machine: what they need and give -/
def AW (m pc : Nat) (ls st : List jV) (w : jW) (Q : jV → jW → Prop) : Prop := ∃ (n : Nat) (r : jV) (w' : jW), jex n m pc ls st w = some (r, w') ∧ Q r w'
theorem jcal_mono {f g : jF} (hfg : ∀ m pc ls st w x, f m pc ls st w = some x → g m pc ls st w = some x) {m a b pc : Nat} {ls st : List jV} {w : jW} {x : jV × jW} (h : jcal f m a b pc ls st w = some x) : jcal g m a b pc ls st w = some x := by
  unfold jcal at h ⊢
  cases hc : (Nat.ble b st.length && Nat.ble ((st.drop b).map jcat).sum 8) with
  | false => rw [hc] at h; cases h
  | true =>
    rw [hc] at h
    simp only [cond_true] at h ⊢
    cases h1 : f a 0 (jent (jml a) (st.take b).reverse) [] w with
    | none => rw [h1] at h; cases h
    | some q =>
      rw [h1] at h
      rw [hfg _ _ _ _ _ _ h1]
      exact hfg _ _ _ _ _ _ h
theorem jbody_mono {f g : jF} (hfg : ∀ m pc ls st w x, f m pc ls st w = some x → g m pc ls st w = some x) {m pc : Nat} {ls st : List jV} {w : jW} {x : jV × jW} (h : jbody f m pc ls st w = some x) : jbody g m pc ls st w = some x := by
  unfold jbody at h ⊢
  cases hc : jcd m pc with
  | none => rw [hc] at h; cases h
  | some q =>
    obtain ⟨i, a, b, v⟩ := q
    rw [hc] at h
    dsimp only at h ⊢
    cases hs : jstp i a b v pc ls st w with
    | some s => rw [hs] at h; exact hfg _ _ _ _ _ _ h
    | none =>
      rw [hs] at h
      dsimp only at h ⊢
      split at h
      · cases hr : jrcv w v (st.take b).reverse with
        | false => rw [hr] at h; cases h
        | true => rw [hr] at h; exact jcal_mono hfg h
      · cases hr : Nat.beq a 1000 with
        | true => rw [hr] at h; cases h
        | false => rw [hr] at h; exact jcal_mono hfg h
      · exact h
theorem jex_mono : ∀ (n m pc : Nat) (ls st : List jV) (w : jW) (x : jV × jW), jex n m pc ls st w = some x → jex (n + 1) m pc ls st w = some x := by
  intro n
  induction n with
  | zero => intro m pc ls st w x h; cases h
  | succ n ih => intro m pc ls st w x h; exact jbody_mono ih h
theorem jex_le {n k m pc : Nat} {ls st : List jV} {w : jW} {x : jV × jW} (h : jex n m pc ls st w = some x) (hk : n ≤ k) : jex k m pc ls st w = some x := by
  induction hk with
  | refl => exact h
  | step _ ih => exact jex_mono _ _ _ _ _ _ _ ih
theorem AW_step {m pc a b : Nat} {v : Int} {i : Instr} {ls st : List jV} {w : jW} {Q : jV → jW → Prop} (s : jS) (hc : jcd m pc = some (i, a, b, v)) (hs : jstp i a b v pc ls st w = some s) : AW m pc ls st w Q = AW m s.1 s.2.1 s.2.2.1 s.2.2.2 Q := by
  have key : ∀ n, jex (n + 1) m pc ls st w = jex n m s.1 s.2.1 s.2.2.1 s.2.2.2 := fun n => by
    show jbody (jex n) m pc ls st w = _
    unfold jbody
    rw [hc]
    dsimp only
    rw [hs]
  apply propext
  constructor
  · rintro ⟨n, r, w', h, q⟩
    cases n with
    | zero => cases h
    | succ n => rw [key] at h; exact ⟨n, r, w', h, q⟩
  · rintro ⟨n, r, w', h, q⟩
    exact ⟨n + 1, r, w', by rw [key]; exact h, q⟩
theorem AW_stuck {m pc : Nat} {ls st : List jV} {w : jW} {Q : jV → jW → Prop} (h1 : ∀ f, jbody f m pc ls st w = none) : AW m pc ls st w Q = False := by
  apply propext
  constructor
  · rintro ⟨n, r, w', h, q⟩
    cases n with
    | zero => cases h
    | succ n => rw [show jex (n + 1) m pc ls st w = none from h1 _] at h; cases h
  · exact False.elim
theorem AW_end {m pc : Nat} {ls st : List jV} {w : jW} {Q : jV → jW → Prop} (r : jV) (h1 : ∀ f, jbody f m pc ls st w = some (r, w)) : AW m pc ls st w Q = Q r w := by
  apply propext
  constructor
  · rintro ⟨n, r', w', h, q⟩
    cases n with
    | zero => cases h
    | succ n => rw [show jex (n + 1) m pc ls st w = some (r, w) from h1 _] at h; cases h; exact q
  · intro q
    exact ⟨1, r, w, h1 _, q⟩
theorem AW_call {m pc a b : Nat} {ls st : List jV} {w : jW} {Q : jV → jW → Prop} (es rest : List jV) (h1 : ∀ f, jbody f m pc ls st w = (match f a 0 es [] w with | some (r, w') => f m (pc + 3) ls (bif Nat.beq (jrk a) 0 then rest else r :: rest) w' | none => none)) :
    AW m pc ls st w Q = AW a 0 es [] w (fun r w' => AW m (pc + 3) ls (bif Nat.beq (jrk a) 0 then rest else r :: rest) w' Q) := by
  apply propext
  constructor
  · rintro ⟨n, r, w', h, q⟩
    cases n with
    | zero => cases h
    | succ n =>
      rw [show jex (n + 1) m pc ls st w = _ from h1 _] at h
      cases h2 : jex n a 0 es [] w with
      | none => rw [h2] at h; cases h
      | some y =>
        rw [h2] at h
        exact ⟨n, y.1, y.2, h2, n, r, w', h, q⟩
  · rintro ⟨n, y1, y2, h, k, r, w', h2, q⟩
    refine ⟨max n k + 1, r, w', ?_, q⟩
    rw [show jex (max n k + 1) m pc ls st w = _ from h1 _, jex_le h (Nat.le_max_left n k)]
    exact jex_le h2 (Nat.le_max_right n k)
theorem AW_mono {m pc : Nat} {ls st : List jV} {w : jW} {Q Q' : jV → jW → Prop} (h : AW m pc ls st w Q) (hq : ∀ r w', Q r w' → Q' r w') : AW m pc ls st w Q' := by
  obtain ⟨n, r, w', h, q⟩ := h
  exact ⟨n, r, w', h, hq r w' q⟩
