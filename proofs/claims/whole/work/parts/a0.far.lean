/-! what no run can change, and what runs answer -/
def FP (w : jW) (x : Option jS) : Prop := ∀ s, x = some s → ∀ o, 61 < o → s.2.2.2 o = w o
section FA2
variable {w : jW} {ls st : List jV} {pc i n k : Nat}
theorem FP.no : FP w none := fun s h => by cases h
theorem FP.sm {a : Nat} {b c : List jV} : FP w (some (a, b, c, w)) := fun s h o _ => by cases h; rfl
theorem FP.cn {c : Bool} {a b : Option jS} (h1 : FP w a) (h2 : FP w b) : FP w (bif c then a else b) := by cases c; exact h2; exact h1
theorem FP.it {c : Prop} [Decidable c] {a b : Option jS} (h1 : FP w a) (h2 : FP w b) : FP w (if c then a else b) := by split; exact h1; exact h2
theorem blt62 {o : Nat} (h : Nat.blt o 62 = true) : o < 62 := Nat.le_of_ble_eq_true h
theorem FP.up {a o : Nat} {b c : List jV} {x y : Int} (h : o < 62) : FP w (some (a, b, c, jup w o x y)) := fun s e p hp => by cases e; exact jupn (by omega)
theorem FP.get {a b : Nat} : FP w (jget ls st pc w a b) := by unfold jget; split; exact FP.sm; exact FP.no
theorem FP.getL {a b : Nat} : FP w (jgetL ls st pc w a b) := by
  unfold jgetL
  split
  · split; exact FP.sm; exact FP.no
  · exact FP.no
theorem FP.getR {a b : Nat} : FP w (jgetR ls st pc w a b) := by
  unfold jgetR
  split
  · exact FP.cn FP.no FP.sm
  · exact FP.no
theorem FP.put {a b : Nat} : FP w (jput ls st pc w a b) := by
  unfold jput
  refine FP.cn ?_ FP.no
  split; exact FP.sm; exact FP.no
theorem FP.putL {a b : Nat} : FP w (jputL ls st pc w a b) := by
  unfold jputL
  refine FP.cn ?_ FP.no
  split; exact FP.sm; exact FP.no
theorem FP.putR {a b : Nat} : FP w (jputR ls st pc w a b) := by
  unfold jputR
  refine FP.cn ?_ FP.no
  split
  · exact FP.cn FP.no FP.sm
  · exact FP.no
theorem FP.bin {f : Int → Int → Int} : FP w (jbin f ls st pc w) := by unfold jbin; split; exact FP.sm; exact FP.no
theorem FP.binL {f : Int → Int → Int} : FP w (jbinL f ls st pc w) := by unfold jbinL; split; exact FP.sm; exact FP.no
theorem FP.un {f : Int → Int} : FP w (jun f ls st pc w) := by unfold jun; split; exact FP.sm; exact FP.no
theorem FP.lib {f : Int → Int → Int} : FP w (jlib f ls st pc w) := by
  unfold jlib
  split
  · exact FP.cn FP.sm FP.no
  · exact FP.no
theorem FP.libA : FP w (jlibA ls st pc w) := by
  unfold jlibA
  split
  · exact FP.cn FP.sm FP.no
  · exact FP.no
theorem FP.ld {kd : Nat} : FP w (jld kd ls st pc w) := by
  unfold jld
  split
  · split
    · exact FP.cn (FP.it FP.sm FP.no) FP.no
    · exact FP.no
  · exact FP.no
theorem FP.ldB : FP w (jldB ls st pc w) := by
  unfold jldB
  split
  · split
    · exact FP.cn (FP.it FP.sm FP.no) FP.no
    · exact FP.no
  · exact FP.no
theorem FP.sto {kd : Nat} : FP w (jst kd ls st pc w) := by
  unfold jst
  split
  · rename_i x i o r
    cases hb : Nat.blt o 62 with
    | false => exact FP.no
    | true =>
      show FP w (match jkind w o with | some (k, n) => _ | none => none)
      split
      · exact FP.cn (FP.it (FP.it (FP.up (blt62 hb)) FP.no) FP.no) FP.no
      · exact FP.no
  · exact FP.no
theorem FP.stL : FP w (jstL ls st pc w) := by
  unfold jstL
  split
  · rename_i x i o r
    cases hb : Nat.blt o 62 with
    | false => exact FP.no
    | true =>
      show FP w (match jkind w o with | some (k, n) => _ | none => none)
      split
      · exact FP.cn (FP.it (FP.up (blt62 hb)) FP.no) FP.no
      · exact FP.no
  · exact FP.no
theorem FP.mv {a p q : Nat} {b c : List jV} {x y z : Int} (h : q < 62) : FP w (some (a, b, c, jmv w p x q y z)) := fun s e o ho => by
  cases e
  exact jmv_ne (by omega)
theorem FP.copy : FP w (jcopy ls st pc w) := by
  unfold jcopy
  split
  · rename_i n j q i p r
    cases hb : Nat.blt q 62 with
    | false =>
      rw [Bool.and_false, Bool.false_and]
      exact FP.no
    | true =>
      refine FP.cn ?_ FP.no
      split
      · exact FP.cn (FP.it (FP.mv (blt62 hb)) FP.no) FP.no
      · exact FP.no
  · exact FP.no
theorem jfit62 {o ci j : Nat} {x : Int} (h : jfit o ci j x = true) : o < 62 := by
  unfold jfit at h
  cases hb : Nat.blt o 62 with
  | false => rw [hb] at h; cases h
  | true => exact blt62 hb
theorem FP.put1 {o a b : Nat} {c d : List jV} {x : Int} : FP w (bif jfit o a b x then some (pc, c, d, jup w o b x) else none) := by
  cases hf : jfit o a b x with
  | false => exact FP.no
  | true => exact FP.up (jfit62 hf)
theorem FP.mo {α : Type} {u : Option α} {f : α → Option jS} (h : ∀ x, FP w (f x)) : FP w (match u with | some x => f x | none => none) := by
  cases u with
  | none => exact FP.no
  | some x => exact h x
theorem FP.stp {i : Instr} {a b : Nat} {v : Int} : FP w (jstp i a b v pc ls st w) := by
  unfold jstp
  split
  all_goals first
    | exact FP.no
    | exact FP.sm
    | exact FP.get
    | exact FP.getL
    | exact FP.getR
    | exact FP.put
    | exact FP.putL
    | exact FP.putR
    | exact FP.bin
    | exact FP.binL
    | exact FP.un
    | exact FP.ld
    | exact FP.ldB
    | exact FP.sto
    | exact FP.stL
    | (refine FP.cn FP.copy (FP.cn FP.lib (FP.cn FP.lib (FP.cn FP.libA FP.no))))
    | (refine FP.cn ?_ ?_ <;> first | exact FP.sm | exact FP.no)
    | (split <;> first | exact FP.sm | exact FP.no | exact FP.put1 | (exact FP.it FP.no FP.sm) | (exact FP.cn FP.sm FP.no) | (exact FP.cn FP.sm FP.sm) | (split <;> first | exact FP.sm | exact FP.no | exact FP.cn FP.sm FP.no))
    | (refine FP.cn ?_ ?_ <;> first | exact FP.no | (split <;> first | exact FP.sm | exact FP.no))
end FA2
/-- a run changes no cell from 62 on, and answers by its kind -/
def PFr (m : Nat) (w : jW) (x : Option (jV × jW)) : Prop := ∀ r w', x = some (r, w') → (∀ o, 61 < o → w' o = w o) ∧ (jrk m = 1 → ∃ s, r = jI s) ∧ (jrk m = 3 → ∃ s, r = jL s)
theorem PFr.no {m : Nat} {w : jW} : PFr m w none := fun _ _ h => by cases h
theorem PFr.end {i : Instr} {m : Nat} {st : List jV} {w : jW} : PFr m w (jend i (jrk m) st w) := by
  intro r w' h
  unfold jend at h
  split at h
  · split at h
    · cases hj : jretI (jrk m) _ with
      | false => rw [hj] at h; cases h
      | true => rw [hj] at h; cases h; exact ⟨fun _ _ => rfl, fun _ => ⟨_, rfl⟩, fun (h3 : jrk m = 3) => (by rw [h3] at hj; cases hj)⟩
    · cases h
  · split at h
    · cases hj : Nat.beq (jrk m) 3 with
      | false => rw [hj] at h; cases h
      | true => rw [hj] at h; cases h; exact ⟨fun _ _ => rfl, fun (h1 : jrk m = 1) => (by rw [h1] at hj; cases hj), fun _ => ⟨_, rfl⟩⟩
    · cases h
  · split at h
    · cases hj : Nat.beq (jrk m) 0 with
      | false => rw [hj] at h; cases h
      | true => rw [hj] at h; cases h; exact ⟨fun _ _ => rfl, fun (h1 : jrk m = 1) => (by rw [h1] at hj; cases hj), fun (h1 : jrk m = 3) => (by rw [h1] at hj; cases hj)⟩
    · cases h
  · cases h
theorem PFr.cal {f : jF} (ih : ∀ m pc ls st w, PFr m w (f m pc ls st w)) {m a b pc : Nat} {ls st : List jV} {w : jW} : PFr m w (jcal f m a b pc ls st w) := by
  intro r w' h
  unfold jcal at h
  cases hc : (Nat.ble b st.length && Nat.ble ((st.drop b).map jcat).sum 8 && Nat.ble ((st.take b).map jcat).sum (jml a)) with
  | false => rw [hc] at h; cases h
  | true =>
    rw [hc] at h
    simp only [cond_true] at h
    cases hf : f a 0 (jent (jml a) (st.take b).reverse) [] w with
    | none => rw [hf] at h; cases h
    | some q =>
      obtain ⟨r1, w1⟩ := q
      rw [hf] at h
      have h1 := ih a 0 _ _ w r1 w1 hf
      have h2 := ih m (pc + 3) _ _ w1 r w' h
      exact ⟨fun o ho => (h2.1 o ho).trans (h1.1 o ho), h2.2⟩
theorem jex_pf : ∀ (n m pc : Nat) (ls st : List jV) (w : jW), PFr m w (jex n m pc ls st w)
  | 0, _, _, _, _, _ => PFr.no
  | n + 1, m, pc, ls, st, w => by
    show PFr m w (jbody (jex n) m pc ls st w)
    unfold jbody
    cases hc : jcd m pc with
    | none => exact PFr.no
    | some q =>
      obtain ⟨i, a, b, v⟩ := q
      show PFr m w (match jstp i a b v pc ls st w with | some s => jex n m s.1 s.2.1 s.2.2.1 s.2.2.2 | none => _)
      cases hs : jstp i a b v pc ls st w with
      | some s =>
        intro r w' h
        have h2 := jex_pf n m s.1 s.2.1 s.2.2.1 s.2.2.2 r w' h
        exact ⟨fun o ho => (h2.1 o ho).trans (FP.stp s hs o ho), h2.2⟩
      | none =>
        dsimp only
        split
        · cases hr : jrcv w v (st.take b).reverse with
          | false => exact PFr.no
          | true => exact PFr.cal (jex_pf n)
        · cases hr : Nat.blt 999 a with
          | true => exact PFr.no
          | false => exact PFr.cal (jex_pf n)
        · exact PFr.end
theorem AW.pf {m pc : Nat} {ls st : List jV} {w : jW} {Q : jV → jW → Prop} (h : AW m pc ls st w Q) : AW m pc ls st w (fun r w' => Q r w' ∧ (∀ o, 61 < o → w' o = w o) ∧ (jrk m = 1 → ∃ s, r = jI s) ∧ (jrk m = 3 → ∃ s, r = jL s)) := by
  obtain ⟨n, r, w', h1, h2⟩ := h
  exact ⟨n, r, w', h1, h2, jex_pf n m pc ls st w r w' h1⟩
theorem Both.go {mx mm : Nat} {ax am : List jV} {K : Int} {w : jW} (h : Both mx mm ax am K w) (h1 : jrk mx = 1) : AW mx 0 ax [] w (fun r w1 => ∃ s, r = jI s ∧ w1 98 = w 98 ∧ w1 100 = w 100 ∧ AW mm 0 am [] w1 (fun r' w2 => r' = jI s ∧ INV (K + 2100) w2 ∧ w2 98 = w 98 ∧ w2 100 = w 100)) := by
  refine AW_mono (AW.pf h) ?_
  rintro r w1 ⟨h2, h3, h4, -⟩
  obtain ⟨s, rfl⟩ := h4 h1
  refine ⟨s, rfl, h3 98 (by decide), h3 100 (by decide), AW_mono h2 ?_⟩
  rintro r' w2 ⟨rfl, h5, h6⟩
  exact ⟨rfl, h5, h6 98 (by decide), h6 100 (by decide)⟩
theorem Both.goL {mx mm : Nat} {ax am : List jV} {K : Int} {w : jW} (h : Both mx mm ax am K w) (h1 : jrk mx = 3) : AW mx 0 ax [] w (fun r w1 => ∃ s, r = jL s ∧ w1 98 = w 98 ∧ w1 100 = w 100 ∧ AW mm 0 am [] w1 (fun r' w2 => r' = jL s ∧ INV (K + 2100) w2 ∧ w2 98 = w 98 ∧ w2 100 = w 100)) := by
  refine AW_mono (AW.pf h) ?_
  rintro r w1 ⟨h2, h3, -, h4⟩
  obtain ⟨s, rfl⟩ := h4 h1
  refine ⟨s, rfl, h3 98 (by decide), h3 100 (by decide), AW_mono h2 ?_⟩
  rintro r' w2 ⟨rfl, h5, h6⟩
  exact ⟨rfl, h5, h6 98 (by decide), h6 100 (by decide)⟩
