/-! what the abstract machine's states stand for -/
def jcv (ad : Nat → Nat) (sio : Value) (v : jV) : Value := match v with
  | .inl x => .int (Int32.ofInt x)
  | .inr (.inl x) => .long (Int64.ofInt x)
  | .inr (.inr o) => bif Nat.beq o 102 then sio else .ref (ad o)
def jVR (v : jV) : Prop := match v with
  | .inl x => in32 x
  | .inr (.inl x) => in64 x
  | .inr (.inr _) => True
theorem jcv_cat {ad : Nat → Nat} {sio : Value} (hs : sio.category = 1) (v : jV) : (jcv ad sio v).category = jcat v := by
  rcases v with x | x | o
  · rfl
  · rfl
  · simp only [jcv, jcat]; cases Nat.beq o 102
    · rfl
    · exact hs
theorem jcv_cats {ad : Nat → Nat} {sio : Value} (hs : sio.category = 1) (l : List jV) : ((l.map (jcv ad sio)).map fun v => v.category) = l.map jcat := by
  rw [List.map_map]; exact List.map_congr_left fun v _ => jcv_cat hs v
/-- the locals that count -/
def jgo (ls : List jV) (i : Nat) (v : jV) : Prop := v ≠ jX ∧ (jcat v = 2 → ls[i + 1]? = some jX)
noncomputable def jlvs (ad : Nat → Nat) (sio : Value) (ls : List jV) : List (Nat × Value) := by
  classical
  exact (List.range ls.length).filterMap fun i => match ls[i]? with
    | some v => if jgo ls i v then some (i, jcv ad sio v) else none
    | none => none
theorem jlvs_mem {ad : Nat → Nat} {sio : Value} {ls : List jV} {q : Nat × Value} : q ∈ jlvs ad sio ls ↔ ∃ v, ls[q.1]? = some v ∧ jgo ls q.1 v ∧ q.2 = jcv ad sio v := by
  classical
  unfold jlvs
  rw [List.mem_filterMap]
  constructor
  · rintro ⟨i, hi, h⟩
    cases hv : ls[i]? with
    | none => rw [hv] at h; cases h
    | some v =>
      rw [hv] at h
      dsimp only at h
      split at h
      · rename_i hg; cases h; exact ⟨v, hv, hg, rfl⟩
      · cases h
  · rintro ⟨v, hv, hg, h2⟩
    refine ⟨q.1, List.mem_range.mpr (List.getElem?_eq_some_iff.mp hv).1, ?_⟩
    rw [hv]
    dsimp only
    rw [if_pos hg, ← h2]
def jLo (ad : Nat → Nat) (sio : Value) (nL : Nat) (ls : List jV) (lsC : Array Slot) : Prop := ls.length = nL ∧ lv_has lsC nL (jlvs ad sio ls)
theorem jLo.get {ad : Nat → Nat} {sio : Value} {nL : Nat} {ls : List jV} {lsC : Array Slot} (h : jLo ad sio nL ls lsC) {i : Nat} {v : jV} (hv : ls[i]? = some v) (hg : jgo ls i v) : lsC[i]? = some (.val (jcv ad sio v)) := h.2.2.2 (i, jcv ad sio v) (jlvs_mem.mpr ⟨v, hv, hg, rfl⟩)
theorem jLo.of {ad : Nat → Nat} {sio : Value} {nL : Nat} {ls : List jV} {lsC : Array Slot} {l : List (Nat × Value)} (hl : ls.length = nL) (h : lv_has lsC nL l) (hm : ∀ i v, ls[i]? = some v → jgo ls i v → (i, jcv ad sio v) ∈ l) : jLo ad sio nL ls lsC := by
  refine ⟨hl, h.1, h.2.1, fun q hq => ?_⟩
  obtain ⟨v, h1, h2, h3⟩ := jlvs_mem.mp hq
  exact h.2.2 q (by have := hm q.1 v h1 h2; rw [← h3] at this; exact this)
theorem jLo.set1 {ad : Nat → Nat} {sio : Value} (hsio : sio.category = 1) {nL : Nat} {ls : List jV} {lsC lsC' : Array Slot} (h : jLo ad sio nL ls lsC) {i : Nat} {v : jV} (hi : i < nL) (hv : v ≠ jX) (hc : jcat v = 1)
    (h' : lv_has lsC' nL ((i, jcv ad sio v) :: (jlvs ad sio ls).filter (fun q => !(q.1 == i) && !(q.1 + 1 == i && q.2.category == 2)))) : jLo ad sio nL (ls.set i v) lsC' := by
  refine jLo.of (by rw [List.length_set]; exact h.1) h' fun j u hu hg => ?_
  by_cases hj : j = i
  · subst hj
    rw [List.getElem?_set_self (by rw [h.1]; exact hi)] at hu
    cases hu
    exact List.mem_cons_self
  · rw [List.getElem?_set_ne (Ne.symm hj)] at hu
    have hn : jcat u = 2 → j + 1 ≠ i := by
      intro h2 e
      have := hg.2 h2
      rw [e, List.getElem?_set_self (by rw [h.1]; exact hi)] at this
      exact hv (Option.some.inj this)
    refine List.mem_cons_of_mem _ (List.mem_filter.mpr ⟨jlvs_mem.mpr ⟨u, hu, ⟨hg.1, fun h2 => ?_⟩, rfl⟩, ?_⟩)
    · have h3 := hg.2 h2
      rw [List.getElem?_set_ne (fun e => hn h2 e.symm)] at h3
      exact h3
    · simp only [jcv_cat hsio]
      by_cases h2 : jcat u = 2
      · have := hn h2; simp [hj, h2, this]
      · simp [hj, h2]
theorem jLo.set2 {ad : Nat → Nat} {sio : Value} (hsio : sio.category = 1) {nL : Nat} {ls : List jV} {lsC lsC' : Array Slot} (h : jLo ad sio nL ls lsC) {i : Nat} {x : Int} (hi : i + 1 < nL)
    (h' : lv_has lsC' nL ((i, jcv ad sio (jL x)) :: (jlvs ad sio ls).filter (fun q => !(q.1 == i) && (!(q.1 == i + 1) && !(q.1 + 1 == i && q.2.category == 2))))) : jLo ad sio nL ((ls.set i (jL x)).set (i + 1) jX) lsC' := by
  have hl := h.1
  refine jLo.of (by rw [List.length_set, List.length_set]; exact h.1) h' fun j u hu hg => ?_
  by_cases hj1 : j = i + 1
  · subst hj1
    rw [List.getElem?_set_self (by rw [List.length_set]; omega)] at hu
    cases hu
    exact absurd rfl hg.1
  · rw [List.getElem?_set_ne (Ne.symm hj1)] at hu
    by_cases hj : j = i
    · subst hj
      rw [List.getElem?_set_self (by omega)] at hu
      cases hu
      exact List.mem_cons_self
    · rw [List.getElem?_set_ne (Ne.symm hj)] at hu
      have hn : jcat u = 2 → j + 1 ≠ i := by
        intro h2 e
        have := hg.2 h2
        rw [List.getElem?_set_ne (by omega), e, List.getElem?_set_self (by omega)] at this
        cases this
      refine List.mem_cons_of_mem _ (List.mem_filter.mpr ⟨jlvs_mem.mpr ⟨u, hu, ⟨hg.1, fun h2 => ?_⟩, rfl⟩, ?_⟩)
      · have h3 := hg.2 h2
        have := hn h2
        rw [List.getElem?_set_ne (by omega), List.getElem?_set_ne (by omega)] at h3
        exact h3
      · simp only [jcv_cat hsio]
        by_cases h2 : jcat u = 2
        · have := hn h2; simp [hj, hj1, h2, this]
        · simp [hj, hj1, h2]
theorem jent_args {ad : Nat → Nat} {sio : Value} (hsio : sio.category = 1) : ∀ (as : List jV) (n k i : Nat) (v : jV), (jent n as)[i]? = some v → v ≠ jX → (i + k, jcv ad sio v) ∈ lv_args k (as.map (jcv ad sio)) := by
  intro as
  induction as with
  | nil =>
    intro n k i v h hv
    exact absurd (List.eq_of_mem_replicate (List.mem_of_getElem? h)) hv
  | cons a as ih =>
    intro n k i v h hv
    have hcat := jcv_cat (ad := ad) hsio a
    rw [List.map_cons, lv_args, hcat]
    have h : (a :: (bif Nat.beq (jcat a) 2 then jX :: jent (n - 2) as else jent (n - 1) as))[i]? = some v := h
    cases i with
    | zero => simp at h; subst h; simp
    | succ i =>
      have h : (bif Nat.beq (jcat a) 2 then jX :: jent (n - 2) as else jent (n - 1) as)[i]? = some v := by simpa using h
      refine List.mem_cons_of_mem _ ?_
      cases hc : Nat.beq (jcat a) 2 with
      | true =>
        rw [hc] at h
        rw [if_pos (Nat.eq_of_beq_eq_true hc)]
        have h : (jX :: jent (n - 2) as)[i]? = some v := h
        cases i with
        | zero => simp at h; exact absurd h.symm hv
        | succ i =>
          have := ih (n - 2) (k + 2) i v (by simpa using h) hv
          rw [show i + 1 + 1 + k = i + (k + 2) by omega]; exact this
      | false =>
        rw [hc] at h
        rw [if_neg (fun e => by rw [e] at hc; cases hc)]
        have := ih (n - 1) (k + 1) i v h hv
        rw [show i + 1 + k = i + (k + 1) by omega]; exact this
theorem jcat_12 (v : jV) : jcat v = 1 ∨ jcat v = 2 := by rcases v with x | x | o <;> simp [jcat]
theorem jent_len : ∀ (as : List jV) (n : Nat), (as.map jcat).sum ≤ n → (jent n as).length = n := by
  intro as
  induction as with
  | nil => intro n _; simp [jent]
  | cons a as ih =>
    intro n h
    simp only [List.map_cons, List.sum_cons] at h
    have h1 := jcat_12 a
    simp only [jent, List.length_cons]
    cases hc : Nat.beq (jcat a) 2 with
    | true =>
      have h2 := Nat.eq_of_beq_eq_true hc
      simp only [cond_true, List.length_cons, ih (n - 2) (by omega)]; omega
    | false =>
      have h2 : jcat a = 1 := h1.resolve_right (fun e => by rw [e] at hc; cases hc)
      simp only [cond_false, ih (n - 1) (by omega)]; omega
theorem jent_mem : ∀ (as : List jV) (n : Nat) (v : jV), v ∈ jent n as → v = jX ∨ v ∈ as := by
  intro as
  induction as with
  | nil => intro n v h; exact Or.inl (List.eq_of_mem_replicate h)
  | cons a as ih =>
    intro n v h
    simp only [jent, List.mem_cons] at h
    rcases h with h | h
    · exact Or.inr (by rw [h]; exact List.mem_cons_self)
    · cases hc : Nat.beq (jcat a) 2 with
      | true =>
        rw [hc] at h
        simp only [cond_true, List.mem_cons] at h
        rcases h with h | h
        · exact Or.inl h
        · rcases ih _ v h with h | h
          · exact Or.inl h
          · exact Or.inr (List.mem_cons_of_mem _ h)
      | false =>
        rw [hc] at h
        simp only [cond_false] at h
        rcases ih _ v h with h | h
        · exact Or.inl h
        · exact Or.inr (List.mem_cons_of_mem _ h)
/-- the cells -/
def jfv (ad : Nat → Nat) (w : jW) (o k c : Nat) : Value := match c with
  | 0 => .int (Int32.ofInt (w o k))
  | 1 => .int (Int32.ofInt (w o k))
  | r + 2 => .ref (ad r)
def jcel (ad : Nat → Nat) (cs : ClassId × ClassId × ClassId) (w : jW) (o : Nat) (s : Nat × Nat × List Nat) : va_E :=
  if s.1 = 10 then .inl (cs.1, s.2.1, .inl (fun j => Int32.ofInt (w o j)))
  else if s.1 = 11 then .inl (cs.2.1, s.2.1, .inl (fun j => Int32.ofInt (w o j)))
  else if s.1 = 12 then .inl (cs.2.2, s.2.1, .inr (.inl (fun j => Int64.ofInt (w o j))))
  else .inr (s.1, s.2.2.mapIdx (fun k c => jfv ad w o k c))
def jws (ad : Nat → Nat) (cs : ClassId × ClassId × ClassId) (w : jW) : va_W := jsh.mapIdx (fun o s => (ad o, jcel ad cs w o s))
theorem jws_get {ad : Nat → Nat} {cs : ClassId × ClassId × ClassId} {w : jW} {o : Nat} {s : Nat × Nat × List Nat} (h : jsh[o]? = some s) : (jws ad cs w)[o]? = some (ad o, jcel ad cs w o s) := by
  unfold jws; rw [List.getElem?_mapIdx, h]; rfl
theorem jws_len {ad : Nat → Nat} {cs : ClassId × ClassId × ClassId} {w : jW} : (jws ad cs w).length = 62 := by unfold jws; rw [List.length_mapIdx]; rfl
/-- one cell of it written: the world with that cell another -/
theorem jws_set {ad : Nat → Nat} {cs : ClassId × ClassId × ClassId} {w w' : jW} {o : Nat} {s : Nat × Nat × List Nat} {e : va_E} (h : jsh[o]? = some s) (he : e = jcel ad cs w' o s) (hw : ∀ p, p ≠ o → w' p = w p) : (jws ad cs w).set o (ad o, e) = jws ad cs w' := by
  apply List.ext_getElem?
  intro i
  by_cases hi : i = o
  · subst hi
    have hlt : i < 62 := (List.getElem?_eq_some_iff.mp h).1
    rw [List.getElem?_set_self (by rw [jws_len]; exact hlt), jws_get h, he]
  · rw [List.getElem?_set_ne (Ne.symm hi)]
    unfold jws
    rw [List.getElem?_mapIdx, List.getElem?_mapIdx]
    cases jsh[i]? with
    | none => rfl
    | some t =>
      simp only [Option.map_some]
      congr 2
      simp only [jcel, jfv, hw i hi]
/-- what stays: the addresses -/
theorem jws_D {A : Nat → Prop} {ad : Nat → Nat} {cs : ClassId × ClassId × ClassId} {w w' : jW} (h : va_D A (jws ad cs w)) : va_D A (jws ad cs w') := by
  have key : ∀ (i : Nat) (p : Nat × va_E), (jws ad cs w')[i]? = some p → ∃ p0, (jws ad cs w)[i]? = some p0 ∧ p0.1 = p.1 := by
    intro i p hp
    unfold jws at hp ⊢
    rw [List.getElem?_mapIdx] at hp ⊢
    cases hs : jsh[i]? with
    | none => rw [hs] at hp; cases hp
    | some t => rw [hs] at hp; cases hp; exact ⟨_, rfl, rfl⟩
  refine ⟨fun i j p q hp hq hpq => ?_, fun k q hq => ?_⟩
  · obtain ⟨p0, h1, h2⟩ := key i p hp
    obtain ⟨q0, h3, h4⟩ := key j q hq
    exact h.1 i j p0 q0 h1 h3 (by rw [h2, h4, hpq])
  · obtain ⟨q0, h3, h4⟩ := key k q hq
    rw [← h4]; exact h.2 k q0 h3
theorem jws_A {ad : Nat → Nat} {cs : ClassId × ClassId × ClassId} {w w' : jW} {sz : Nat} : va_A (jws ad cs w) sz = va_A (jws ad cs w') sz := by
  funext q
  unfold va_A
  apply propext
  have key : ∀ w w' : jW, (∃ (k : Nat) (e : va_E), (jws ad cs w)[k]? = some (q, e)) → ∃ (k : Nat) (e : va_E), (jws ad cs w')[k]? = some (q, e) := by
    rintro w w' ⟨k, e, h⟩
    unfold jws at h ⊢
    rw [List.getElem?_mapIdx] at h
    cases hs : jsh[k]? with
    | none => rw [hs] at h; cases h
    | some t => rw [hs] at h; cases h; exact ⟨k, _, by rw [List.getElem?_mapIdx, hs]; rfl⟩
  constructor
  · rintro (h | h)
    · exact Or.inl (key w w' h)
    · exact Or.inr h
  · rintro (h | h)
    · exact Or.inl (key w' w h)
    · exact Or.inr h
/-- the numbers of the world are the machine's -/
def jWR (w : jW) : Prop := ∀ (o : Nat) (s : Nat × Nat × List Nat), jsh[o]? = some s → ∀ k : Int, if s.1 = 12 then in64 (w o k) else in32 (w o k)
theorem nbeq_ne {a b : Nat} (h : a ≠ b) : Nat.beq a b = false := by
  cases hb : Nat.beq a b
  · rfl
  · exact absurd (Nat.eq_of_beq_eq_true hb) h
theorem jup_ne {w : jW} {o p : Nat} {k v : Int} (h : p ≠ o) : jup w o k v p = w p := by
  funext j; unfold jup; rw [nbeq_ne h]; rfl
theorem jup_self {w : jW} {o : Nat} {k v j : Int} : jup w o k v o j = if j = k then v else w o j := by
  unfold jup; rw [show Nat.beq o o = true from Nat.beq_refl o]; rfl
theorem jmv_ne {w : jW} {p q c : Nat} {i j n : Int} (h : c ≠ q) : jmv w p i q j n c = w c := by
  funext k; unfold jmv; rw [nbeq_ne h]; rfl
theorem jmv_self {w : jW} {p q : Nat} {i j n k : Int} : jmv w p i q j n q k = if j ≤ k ∧ k < j + n then w p (i + (k - j)) else w q k := by
  unfold jmv; rw [show Nat.beq q q = true from Nat.beq_refl q]; rfl
