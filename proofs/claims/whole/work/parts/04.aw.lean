/-! runs of the abstract machine: what they need and give -/
def AW (m pc : Nat) (ls st : List jV) (w : jW) (Q : jV → jW → Prop) : Prop := ∃ (n : Nat) (r : jV) (w' : jW), jex n m pc ls st w = some (r, w') ∧ Q r w'
theorem jcal_mono {f g : jF} (hfg : ∀ m pc ls st w x, f m pc ls st w = some x → g m pc ls st w = some x) {m a b pc : Nat} {ls st : List jV} {w : jW} {x : jV × jW} (h : jcal f m a b pc ls st w = some x) : jcal g m a b pc ls st w = some x := by
  unfold jcal at h ⊢
  cases hc : (Nat.ble b st.length && Nat.ble ((st.drop b).map jcat).sum 8 && Nat.ble ((st.take b).map jcat).sum (jml a)) with
  | false => rw [hc] at h; cases h
  | true =>
    rw [hc] at h
    simp only [cond_true] at h ⊢
    cases h1 : f a 0 (jent (jml a) (st.take b).reverse) [] w with
    | none => rw [h1] at h; cases h
    | some q =>
      rw [h1] at h
      rw [hfg _ _ _ _ _ _ h1]
      exact hfg _ _ _ _ _ _ h
theorem jbody_mono {f g : jF} (hfg : ∀ m pc ls st w x, f m pc ls st w = some x → g m pc ls st w = some x) {m pc : Nat} {ls st : List jV} {w : jW} {x : jV × jW} (h : jbody f m pc ls st w = some x) : jbody g m pc ls st w = some x := by
  unfold jbody at h ⊢
  cases hc : jcd m pc with
  | none => rw [hc] at h; cases h
  | some q =>
    obtain ⟨i, a, b, v⟩ := q
    rw [hc] at h
    dsimp only at h ⊢
    cases hs : jstp i a b v pc ls st w with
    | some s => rw [hs] at h; exact hfg _ _ _ _ _ _ h
    | none =>
      rw [hs] at h
      dsimp only at h ⊢
      split at h
      · cases hr : jrcv w v (st.take b).reverse with
        | false => rw [hr] at h; cases h
        | true => rw [hr] at h; exact jcal_mono hfg h
      · cases hr : Nat.blt 999 a with
        | true => rw [hr] at h; cases h
        | false => rw [hr] at h; exact jcal_mono hfg h
      · exact h
theorem jex_mono : ∀ (n m pc : Nat) (ls st : List jV) (w : jW) (x : jV × jW), jex n m pc ls st w = some x → jex (n + 1) m pc ls st w = some x := by
  intro n
  induction n with
  | zero => intro m pc ls st w x h; cases h
  | succ n ih => intro m pc ls st w x h; exact jbody_mono ih h
theorem jex_le {n k m pc : Nat} {ls st : List jV} {w : jW} {x : jV × jW} (h : jex n m pc ls st w = some x) (hk : n ≤ k) : jex k m pc ls st w = some x := by
  induction hk with
  | refl => exact h
  | step _ ih => exact jex_mono _ _ _ _ _ _ _ ih
theorem AW_step {m pc a b : Nat} {v : Int} {i : Instr} {ls st : List jV} {w : jW} {Q : jV → jW → Prop} (s : jS) (hc : jcd m pc = some (i, a, b, v)) (hs : jstp i a b v pc ls st w = some s) : AW m pc ls st w Q = AW m s.1 s.2.1 s.2.2.1 s.2.2.2 Q := by
  have key : ∀ n, jex (n + 1) m pc ls st w = jex n m s.1 s.2.1 s.2.2.1 s.2.2.2 := fun n => by
    show jbody (jex n) m pc ls st w = _
    unfold jbody
    rw [hc]
    dsimp only
    rw [hs]
  apply propext
  constructor
  · rintro ⟨n, r, w', h, q⟩
    cases n with
    | zero => cases h
    | succ n => rw [key] at h; exact ⟨n, r, w', h, q⟩
  · rintro ⟨n, r, w', h, q⟩
    exact ⟨n + 1, r, w', by rw [key]; exact h, q⟩
theorem AW_stuck {m pc : Nat} {ls st : List jV} {w : jW} {Q : jV → jW → Prop} (h1 : ∀ f, jbody f m pc ls st w = none) : AW m pc ls st w Q = False := by
  apply propext
  constructor
  · rintro ⟨n, r, w', h, q⟩
    cases n with
    | zero => cases h
    | succ n => rw [show jex (n + 1) m pc ls st w = none from h1 _] at h; cases h
  · exact False.elim
theorem AW_end {m pc : Nat} {ls st : List jV} {w : jW} {Q : jV → jW → Prop} (r : jV) (h1 : ∀ f, jbody f m pc ls st w = some (r, w)) : AW m pc ls st w Q = Q r w := by
  apply propext
  constructor
  · rintro ⟨n, r', w', h, q⟩
    cases n with
    | zero => cases h
    | succ n => rw [show jex (n + 1) m pc ls st w = some (r, w) from h1 _] at h; cases h; exact q
  · intro q
    exact ⟨1, r, w, h1 _, q⟩
theorem AW_call {m pc a : Nat} {ls st : List jV} {w : jW} {Q : jV → jW → Prop} (es rest : List jV) (h1 : ∀ f, jbody f m pc ls st w = (match f a 0 es [] w with | some (r, w') => f m (pc + 3) ls (bif Nat.beq (jrk a) 0 then rest else r :: rest) w' | none => none)) :
    AW m pc ls st w Q = AW a 0 es [] w (fun r w' => AW m (pc + 3) ls (bif Nat.beq (jrk a) 0 then rest else r :: rest) w' Q) := by
  apply propext
  constructor
  · rintro ⟨n, r, w', h, q⟩
    cases n with
    | zero => cases h
    | succ n =>
      rw [show jex (n + 1) m pc ls st w = _ from h1 _] at h
      cases h2 : jex n a 0 es [] w with
      | none => rw [h2] at h; cases h
      | some y =>
        rw [h2] at h
        exact ⟨n, y.1, y.2, h2, n, r, w', h, q⟩
  · rintro ⟨n, y1, y2, h, k, r, w', h2, q⟩
    refine ⟨max n k + 1, r, w', ?_, q⟩
    rw [show jex (max n k + 1) m pc ls st w = _ from h1 _, jex_le h (Nat.le_max_left n k)]
    exact jex_le h2 (Nat.le_max_right n k)
theorem AW_mono {m pc : Nat} {ls st : List jV} {w : jW} {Q Q' : jV → jW → Prop} (h : AW m pc ls st w Q) (hq : ∀ r w', Q r w' → Q' r w') : AW m pc ls st w Q' := by
  obtain ⟨n, r, w', h, q⟩ := h
  exact ⟨n, r, w', h, hq r w' q⟩
section BR
variable {m pc a b : Nat} {v off : Int} {ls st : List jV} {w : jW} {Q : jV → jW → Prop} {x y : Int}
theorem AW_bif {i : Instr} {s t : jS} (c : Prop) [Decidable c] (hc : jcd m pc = some (i, a, b, v)) {st0 : List jV} (hs : jstp i a b v pc ls st0 w = if c then some s else some t) : AW m pc ls st0 w Q = if c then AW m s.1 s.2.1 s.2.2.1 s.2.2.2 Q else AW m t.1 t.2.1 t.2.2.1 t.2.2.2 Q := by
  by_cases h : c
  · rw [if_pos h] at hs ⊢; exact AW_step s hc hs
  · rw [if_neg h] at hs ⊢; exact AW_step t hc hs
theorem jb_dec {α : Type} (c : Prop) [Decidable c] (s t : α) : (bif decide c then s else t) = if c then s else t := by by_cases h : c <;> simp [h]
theorem jb_ndec {α : Type} (c : Prop) [Decidable c] (s t : α) : (bif !decide c then s else t) = if c then t else s := by by_cases h : c <;> simp [h]
theorem ai_eq (hc : jcd m pc = some (.if_icmp .eq off, a, b, v)) : AW m pc ls (jI y :: jI x :: st) w Q = if x = y then AW m a ls st w Q else AW m (pc + 3) ls st w Q := AW_bif (s := (a, ls, st, w)) (t := (pc + 3, ls, st, w)) _ hc (jb_dec _ _ _)
theorem ai_ne (hc : jcd m pc = some (.if_icmp .ne off, a, b, v)) : AW m pc ls (jI y :: jI x :: st) w Q = if x = y then AW m (pc + 3) ls st w Q else AW m a ls st w Q := AW_bif (t := (a, ls, st, w)) (s := (pc + 3, ls, st, w)) _ hc (jb_ndec _ _ _)
theorem ai_lt (hc : jcd m pc = some (.if_icmp .lt off, a, b, v)) : AW m pc ls (jI y :: jI x :: st) w Q = if x < y then AW m a ls st w Q else AW m (pc + 3) ls st w Q := AW_bif (s := (a, ls, st, w)) (t := (pc + 3, ls, st, w)) _ hc (jb_dec _ _ _)
theorem ai_ge (hc : jcd m pc = some (.if_icmp .ge off, a, b, v)) : AW m pc ls (jI y :: jI x :: st) w Q = if x < y then AW m (pc + 3) ls st w Q else AW m a ls st w Q := AW_bif (t := (a, ls, st, w)) (s := (pc + 3, ls, st, w)) _ hc (jb_ndec _ _ _)
theorem ai_gt (hc : jcd m pc = some (.if_icmp .gt off, a, b, v)) : AW m pc ls (jI y :: jI x :: st) w Q = if y < x then AW m a ls st w Q else AW m (pc + 3) ls st w Q := AW_bif (s := (a, ls, st, w)) (t := (pc + 3, ls, st, w)) _ hc (jb_dec _ _ _)
theorem ai_le (hc : jcd m pc = some (.if_icmp .le off, a, b, v)) : AW m pc ls (jI y :: jI x :: st) w Q = if y < x then AW m (pc + 3) ls st w Q else AW m a ls st w Q := AW_bif (t := (a, ls, st, w)) (s := (pc + 3, ls, st, w)) _ hc (jb_ndec _ _ _)
theorem az_eq (hc : jcd m pc = some (.ifCond .eq off, a, b, v)) : AW m pc ls (jI x :: st) w Q = if x = 0 then AW m a ls st w Q else AW m (pc + 3) ls st w Q := AW_bif (s := (a, ls, st, w)) (t := (pc + 3, ls, st, w)) _ hc (jb_dec _ _ _)
theorem az_ne (hc : jcd m pc = some (.ifCond .ne off, a, b, v)) : AW m pc ls (jI x :: st) w Q = if x = 0 then AW m (pc + 3) ls st w Q else AW m a ls st w Q := AW_bif (t := (a, ls, st, w)) (s := (pc + 3, ls, st, w)) _ hc (jb_ndec _ _ _)
theorem az_lt (hc : jcd m pc = some (.ifCond .lt off, a, b, v)) : AW m pc ls (jI x :: st) w Q = if x < 0 then AW m a ls st w Q else AW m (pc + 3) ls st w Q := AW_bif (s := (a, ls, st, w)) (t := (pc + 3, ls, st, w)) _ hc (jb_dec _ _ _)
theorem az_ge (hc : jcd m pc = some (.ifCond .ge off, a, b, v)) : AW m pc ls (jI x :: st) w Q = if x < 0 then AW m (pc + 3) ls st w Q else AW m a ls st w Q := AW_bif (t := (a, ls, st, w)) (s := (pc + 3, ls, st, w)) _ hc (jb_ndec _ _ _)
theorem az_gt (hc : jcd m pc = some (.ifCond .gt off, a, b, v)) : AW m pc ls (jI x :: st) w Q = if 0 < x then AW m a ls st w Q else AW m (pc + 3) ls st w Q := AW_bif (s := (a, ls, st, w)) (t := (pc + 3, ls, st, w)) _ hc (jb_dec _ _ _)
theorem az_le (hc : jcd m pc = some (.ifCond .le off, a, b, v)) : AW m pc ls (jI x :: st) w Q = if 0 < x then AW m (pc + 3) ls st w Q else AW m a ls st w Q := AW_bif (t := (a, ls, st, w)) (s := (pc + 3, ls, st, w)) _ hc (jb_ndec _ _ _)
/-- where the machine goes on under a condition alone -/
theorem AW_ifn {i : Instr} {s : jS} (c : Prop) [Decidable c] (hc : jcd m pc = some (i, a, b, v)) {st0 : List jV} (hs : jstp i a b v pc ls st0 w = if c then some s else none) (hn : ∀ f, jstp i a b v pc ls st0 w = none → jbody f m pc ls st0 w = none) : AW m pc ls st0 w Q = if c then AW m s.1 s.2.1 s.2.2.1 s.2.2.2 Q else False := by
  by_cases h : c
  · rw [if_pos h] at hs ⊢; exact AW_step s hc hs
  · rw [if_neg h] at hs ⊢; exact AW_stuck (fun f => hn f hs)
theorem jb_none {i : Instr} (hc : jcd m pc = some (i, a, b, v)) {st0 : List jV} (hi : ∀ f : jF, (match i with | .invokevirtual _ => (bif jrcv w v (st0.take b).reverse then jcal f m a b pc ls st0 w else none) | .invokestatic _ => (bif Nat.blt 999 a then none else jcal f m a b pc ls st0 w) | i => jend i (jrk m) st0 w) = none) : ∀ f, jstp i a b v pc ls st0 w = none → jbody f m pc ls st0 w = none := by
  intro f hs
  unfold jbody
  rw [hc]
  dsimp only
  rw [hs]
  exact hi f
theorem al_i {o n : Nat} {i u N : Int} (hc : jcd m pc = some (.iaload, a, b, v)) (hk : jkind w o = some (10, n)) (hN : (n : Int) = N) (hu : jel w o i = u) : AW m pc ls (jI i :: jR o :: st) w Q = if 0 ≤ i ∧ i < N then AW m (pc + 1) ls (jI u :: st) w Q else False := by
  subst hN; subst hu
  refine AW_ifn (s := (pc + 1, ls, jI (jel w o i) :: st, w)) _ hc ?_ (jb_none hc fun _ => rfl)
  simp only [jstp, jld, hk]; rfl
theorem al_l {o n : Nat} {i u N : Int} (hc : jcd m pc = some (.laload, a, b, v)) (hk : jkind w o = some (12, n)) (hN : (n : Int) = N) (hu : jel w o i = u) : AW m pc ls (jI i :: jR o :: st) w Q = if 0 ≤ i ∧ i < N then AW m (pc + 1) ls (jL u :: st) w Q else False := by
  subst hN; subst hu
  refine AW_ifn (s := (pc + 1, ls, jL (jel w o i) :: st, w)) _ hc ?_ (jb_none hc fun _ => rfl)
  simp only [jstp, jld, hk]; rfl
theorem al_b {o n k : Nat} {i u N : Int} (hc : jcd m pc = some (.baload, a, b, v)) (hk : jkind w o = some (k, n)) (hk2 : (Nat.beq k 11 || Nat.beq k 13) = true) (hN : (n : Int) = N) (hu : jel w o i = u) : AW m pc ls (jI i :: jR o :: st) w Q = if 0 ≤ i ∧ i < N then AW m (pc + 1) ls (jI u :: st) w Q else False := by
  subst hN; subst hu
  refine AW_ifn (s := (pc + 1, ls, jI (jel w o i) :: st, w)) _ hc ?_ (jb_none hc fun _ => rfl)
  simp only [jstp, jldB, hk, hk2]; rfl
theorem as_i {o n : Nat} {i N : Int} (hc : jcd m pc = some (.iastore, a, b, v)) (ho : Nat.blt o 62 = true) (hk : jkind w o = some (10, n)) (hN : (n : Int) = N) : AW m pc ls (jI x :: jI i :: jR o :: st) w Q = if 0 ≤ i ∧ i < N then AW m (pc + 1) ls st (jup w o i x) Q else False := by
  subst hN
  refine AW_ifn (s := (pc + 1, ls, st, jup w o i x)) _ hc ?_ (jb_none hc fun _ => rfl)
  simp only [jstp, jst, hk, ho]; rfl
theorem as_l {o n : Nat} {i N : Int} (hc : jcd m pc = some (.lastore, a, b, v)) (ho : Nat.blt o 62 = true) (hk : jkind w o = some (12, n)) (hN : (n : Int) = N) : AW m pc ls (jL x :: jI i :: jR o :: st) w Q = if 0 ≤ i ∧ i < N then AW m (pc + 1) ls st (jup w o i x) Q else False := by
  subst hN
  refine AW_ifn (s := (pc + 1, ls, st, jup w o i x)) _ hc ?_ (jb_none hc fun _ => rfl)
  simp only [jstp, jstL, hk, ho]; rfl
theorem as_b {o n : Nat} {i N : Int} (hc : jcd m pc = some (.bastore, a, b, v)) (ho : Nat.blt o 62 = true) (hk : jkind w o = some (11, n)) (hN : (n : Int) = N) : AW m pc ls (jI x :: jI i :: jR o :: st) w Q = if (0 ≤ i ∧ i < N) ∧ (x = 0 ∨ x = 1) then AW m (pc + 1) ls st (jup w o i x) Q else False := by
  subst hN
  refine AW_ifn (s := (pc + 1, ls, st, jup w o i x)) _ hc ?_ (jb_none hc fun _ => rfl)
  simp only [jstp, jst, hk, ho]
  by_cases h1 : 0 ≤ i ∧ i < (n : Int) <;> by_cases h2 : x = 0 ∨ x = 1 <;> simp [h1, h2]
theorem ar_i (hc : jcd m pc = some (.irem, a, b, v)) : AW m pc ls (jI y :: jI x :: st) w Q = if y ≠ 0 then AW m (pc + 1) ls (jI (Int.tmod x y) :: st) w Q else False := by
  refine AW_ifn (s := (pc + 1, ls, jI (Int.tmod x y) :: st, w)) _ hc ?_ (jb_none hc fun _ => rfl)
  simp only [jstp]
  by_cases h : y = 0 <;> simp [h]
theorem ac_y {p q np nq k : Nat} {i j n NP NQ : Int} {ix : Nat} (hc : jcd m pc = some (.invokestatic ix, 1000, b, v)) (h62 : (Nat.blt p 62 && Nat.blt q 62 && Nat.ble (st.map jcat).sum 8) = true) (hp : jkind w p = some (k, np)) (hq : jkind w q = some (k, nq)) (hk : (Nat.beq k 10 || Nat.beq k 12) = true) (hNP : (np : Int) = NP) (hNQ : (nq : Int) = NQ) :
    AW m pc ls (jI n :: jI j :: jR q :: jI i :: jR p :: st) w Q = if 0 ≤ i ∧ 0 ≤ j ∧ 0 ≤ n ∧ i + n ≤ NP ∧ j + n ≤ NQ then AW m (pc + 3) ls st (jmv w p i q j n) Q else False := by
  subst hNP; subst hNQ
  refine AW_ifn (s := (pc + 3, ls, st, jmv w p i q j n)) _ hc ?_ (jb_none hc fun _ => rfl)
  simp only [jstp, jcopy, hp, hq, h62, hk]
  simp
theorem ae_z (hc : jcd m pc = some (.ireturn, a, b, v)) (hk : jrk m = 2) : AW m pc ls [jI x] w Q = if x = 0 ∨ x = 1 then Q (jI x) w else False := by
  have key : ∀ f, jbody f m pc ls [jI x] w = bif decide (x = 0 ∨ x = 1) then some (jI x, w) else none := by
    intro f; unfold jbody; rw [hc]; dsimp only; simp only [jstp, jend, hk, jretI]
  by_cases h : x = 0 ∨ x = 1
  · rw [if_pos h]; exact AW_end (jI x) (fun f => by rw [key, decide_eq_true h]; rfl)
  · rw [if_neg h]; exact AW_stuck (fun f => by rw [key, decide_eq_false h]; rfl)
theorem ae_c (hc : jcd m pc = some (.ireturn, a, b, v)) (hk : jrk m = 5) : AW m pc ls [jI x] w Q = if 0 ≤ x ∧ x < 65536 then Q (jI x) w else False := by
  have key : ∀ f, jbody f m pc ls [jI x] w = bif decide (0 ≤ x ∧ x < 65536) then some (jI x, w) else none := by
    intro f; unfold jbody; rw [hc]; dsimp only; simp only [jstp, jend, hk, jretI]
  by_cases h : 0 ≤ x ∧ x < 65536
  · rw [if_pos h]; exact AW_end (jI x) (fun f => by rw [key, decide_eq_true h]; rfl)
  · rw [if_neg h]; exact AW_stuck (fun f => by rw [key, decide_eq_false h]; rfl)
theorem ae_b (hc : jcd m pc = some (.ireturn, a, b, v)) (hk : jrk m = 4) : AW m pc ls [jI x] w Q = if -128 ≤ x ∧ x < 128 then Q (jI x) w else False := by
  have key : ∀ f, jbody f m pc ls [jI x] w = bif decide (-128 ≤ x ∧ x < 128) then some (jI x, w) else none := by
    intro f; unfold jbody; rw [hc]; dsimp only; simp only [jstp, jend, hk, jretI]
  by_cases h : -128 ≤ x ∧ x < 128
  · rw [if_pos h]; exact AW_end (jI x) (fun f => by rw [key, decide_eq_true h]; rfl)
  · rw [if_neg h]; exact AW_stuck (fun f => by rw [key, decide_eq_false h]; rfl)
end BR
theorem ite_tr {c : Prop} [Decidable c] {p q p' q' : Prop} (h1 : p = p') (h2 : q = q') : (if c then p else q) = (if c then p' else q') := by rw [h1, h2]
def jswA (pc : Nat) (K : Nat → Prop) : List Int → Int → Int → Int → Prop
  | [], _, d, _ => (match jtgt pc d with | some t => K t | none => False)
  | o :: r, lo, d, x => if x = lo then (match jtgt pc o with | some t => K t | none => False) else jswA pc K r (lo + 1) d x
def jlwA (pc : Nat) (K : Nat → Prop) : List (Int × Int) → Int → Int → Prop
  | [], d, _ => (match jtgt pc d with | some t => K t | none => False)
  | (k, o) :: r, d, x => if x = k then (match jtgt pc o with | some t => K t | none => False) else jlwA pc K r d x
theorem asw_t {m pc a b : Nat} {v d lo hi x : Int} {offs : Array Int} {ls st : List jV} {w : jW} {Q : jV → jW → Prop} (hc : jcd m pc = some (.tableswitch d lo hi offs, a, b, v)) : AW m pc ls (jI x :: st) w Q = jswA pc (fun t => AW m t ls st w Q) offs.toList lo d x := by
  have key : ∀ off : Int, (jstp (.tableswitch d lo hi offs) a b v pc ls (jI x :: st) w = (match jtgt pc off with | some t => some (t, ls, st, w) | none => none)) → AW m pc ls (jI x :: st) w Q = (match jtgt pc off with | some t => AW m t ls st w Q | none => False) := by
    intro off hs
    cases ht : jtgt pc off with
    | some t => rw [ht] at hs; exact AW_step _ hc hs
    | none => rw [ht] at hs; exact AW_stuck (fun f => jb_none hc (fun _ => rfl) f hs)
  have key2 : ∀ (l : List Int) (lo : Int), (jstp (.tableswitch d lo hi offs) a b v pc ls (jI x :: st) w = jstp (.tableswitch d lo hi offs) a b v pc ls (jI x :: st) w) → jswA pc (fun t => AW m t ls st w Q) l lo d x = (match jtgt pc (jtsw l lo d x) with | some t => AW m t ls st w Q | none => False) := by
    intro l
    induction l with
    | nil => intro lo _; rfl
    | cons o r ih =>
      intro lo h
      by_cases hx : x = lo
      · simp only [jswA, jtsw, if_pos hx]
      · simp only [jswA, jtsw, if_neg hx]; exact ih (lo + 1) rfl
  rw [key2 offs.toList lo rfl]
  exact key _ rfl
theorem asw_l {m pc a b : Nat} {v d x : Int} {ps : Array (Int × Int)} {ls st : List jV} {w : jW} {Q : jV → jW → Prop} (hc : jcd m pc = some (.lookupswitch d ps, a, b, v)) : AW m pc ls (jI x :: st) w Q = jlwA pc (fun t => AW m t ls st w Q) ps.toList d x := by
  have key : ∀ off : Int, (jstp (.lookupswitch d ps) a b v pc ls (jI x :: st) w = (match jtgt pc off with | some t => some (t, ls, st, w) | none => none)) → AW m pc ls (jI x :: st) w Q = (match jtgt pc off with | some t => AW m t ls st w Q | none => False) := by
    intro off hs
    cases ht : jtgt pc off with
    | some t => rw [ht] at hs; exact AW_step _ hc hs
    | none => rw [ht] at hs; exact AW_stuck (fun f => jb_none hc (fun _ => rfl) f hs)
  have key2 : ∀ (l : List (Int × Int)), jlwA pc (fun t => AW m t ls st w Q) l d x = (match jtgt pc (jlsw l d x) with | some t => AW m t ls st w Q | none => False) := by
    intro l
    induction l with
    | nil => rfl
    | cons o r ih =>
      obtain ⟨k, o⟩ := o
      by_cases hx : x = k
      · simp only [jlwA, jlsw, if_pos hx]
      · simp only [jlwA, jlsw, if_neg hx]; exact ih
  rw [key2 ps.toList]
  exact key _ rfl
theorem as_s {m pc a b : Nat} {v : Int} {i : Instr} {ls st : List jV} {w : jW} {Q : jV → jW → Prop} (pc2 : Nat) (ls2 st2 : List jV) (w2 : jW) (hc : jcd m pc = some (i, a, b, v)) (hs : jstp i a b v pc ls st w = some (pc2, ls2, st2, w2)) : AW m pc ls st w Q = AW m pc2 ls2 st2 w2 Q := AW_step _ hc hs
