section AE
variable {p : Program} {l : Launch} {e : Env} {R : Room} {s : State} {mm : MethodId} {args : Array Value} {below : List Frame} {meth : Method} {c : Code} {cells slots : Nat} {Q : State → Prop}
variable {D : va_G} {cs : ClassId × ClassId × ClassId} {ad : Nat → Nat} {sio : Value} {L : Nat} {xs : Nat → Int} {A : Nat → Prop} {m : Nat}
variable {pc a b : Nat} {v : Int} {ls st : List jV} {w : jW} {s2 : jS}
theorem jcv_ref {o : Nat} (h : jro o = false) : jcv ad sio (jR o) = .ref (ad o) := by
  unfold jro at h
  rw [Bool.or_eq_false_iff] at h
  show (bif Nat.beq o 102 then sio else .ref (ad o)) = _
  rw [h.2]; rfl
theorem jro_X {o : Nat} (h : jro o = false) : (jR o : jV) ≠ jX := by
  intro q
  have : o = 999 := by cases q; rfl
  subst this
  cases h
theorem ad_get {i n : Nat} (hs : jget ls st pc w i n = some s2)
    (hw : ∀ (x : Int) (H : Heap) (locs : List Loc) (lsC : Array Slot) (rest : List Value), lsC[i]? = some (.val (.int (Int32.ofInt x))) → jWg p l e R s mm args below meth c cells slots Q H locs (pc + n) lsC (.int (Int32.ofInt x) :: rest) → jWg p l e R s mm args below meth c cells slots Q H locs pc lsC rest)
    (k : jG p l e R s mm args below meth c cells slots Q D cs ad sio L xs A m s2.1 s2.2.1 s2.2.2.1 s2.2.2.2) : jG p l e R s mm args below meth c cells slots Q D cs ad sio L xs A m pc ls st w := by
  unfold jget at hs
  split at hs
  · rename_i x hx
    cases hs
    intro H locs lsC hR hL hl hst
    have hlx := hL.get hx ⟨fun q => (by cases q), fun q => (by cases q)⟩
    exact hw x H locs lsC _ hlx (k H locs lsC hR hL hl (fun u hu => by
      rcases List.mem_cons.mp hu with h | h
      · rw [h]; exact hl _ (List.mem_of_getElem? hx)
      · exact hst u h))
  · cases hs
theorem ad_getL {i n : Nat} (hs : jgetL ls st pc w i n = some s2)
    (hw : ∀ (x : Int) (H : Heap) (locs : List Loc) (lsC : Array Slot) (rest : List Value), lsC[i]? = some (.val (.long (Int64.ofInt x))) → jWg p l e R s mm args below meth c cells slots Q H locs (pc + n) lsC (.long (Int64.ofInt x) :: rest) → jWg p l e R s mm args below meth c cells slots Q H locs pc lsC rest)
    (k : jG p l e R s mm args below meth c cells slots Q D cs ad sio L xs A m s2.1 s2.2.1 s2.2.2.1 s2.2.2.2) : jG p l e R s mm args below meth c cells slots Q D cs ad sio L xs A m pc ls st w := by
  unfold jgetL at hs
  split at hs
  · rename_i x hx
    split at hs
    · rename_i hx2
      cases hs
      intro H locs lsC hR hL hl hst
      have hlx := hL.get hx ⟨fun q => (by cases q), fun _ => hx2⟩
      exact hw x H locs lsC _ hlx (k H locs lsC hR hL hl (fun u hu => by
        rcases List.mem_cons.mp hu with h | h
        · rw [h]; exact hl _ (List.mem_of_getElem? hx)
        · exact hst u h))
    · cases hs
  · cases hs
theorem ad_getR {i n : Nat} (hs : jgetR ls st pc w i n = some s2)
    (hw : ∀ (x : Nat) (H : Heap) (locs : List Loc) (lsC : Array Slot) (rest : List Value), lsC[i]? = some (.val (.ref x)) → jWg p l e R s mm args below meth c cells slots Q H locs (pc + n) lsC (.ref x :: rest) → jWg p l e R s mm args below meth c cells slots Q H locs pc lsC rest)
    (k : jG p l e R s mm args below meth c cells slots Q D cs ad sio L xs A m s2.1 s2.2.1 s2.2.2.1 s2.2.2.2) : jG p l e R s mm args below meth c cells slots Q D cs ad sio L xs A m pc ls st w := by
  unfold jgetR at hs
  split at hs
  · rename_i o hx
    cases hr : jro o with
    | true => rw [hr] at hs; cases hs
    | false =>
      rw [hr] at hs
      cases hs
      intro H locs lsC hR hL hl hst
      have hlx := hL.get hx ⟨jro_X hr, fun q => (by cases q)⟩
      rw [jcv_ref hr] at hlx
      have k2 := k H locs lsC hR hL hl (fun u hu => by
        rcases List.mem_cons.mp hu with h | h
        · rw [h]; exact trivial
        · exact hst u h)
      rw [List.map_cons, jcv_ref hr] at k2
      exact hw (ad o) H locs lsC _ hlx k2
  · cases hs
theorem ad_put {i n : Nat} (hsc : sio.category = 1) (hs : jput ls st pc w i n = some s2)
    (hw : ∀ (x : Int) (H : Heap) (locs : List Loc) (lsC : Array Slot) (rest : List Value) (lv lv' : List (Nat × Value)), lv_has lsC (jml m) lv → i < jml m → (i, .int (Int32.ofInt x)) :: lv.filter (fun q => !(q.1 == i) && !(q.1 + 1 == i && q.2.category == 2)) = lv' → (∀ lsC', lv_has lsC' (jml m) lv' → jWg p l e R s mm args below meth c cells slots Q H locs (pc + n) lsC' rest) → jWg p l e R s mm args below meth c cells slots Q H locs pc lsC (.int (Int32.ofInt x) :: rest))
    (k : jG p l e R s mm args below meth c cells slots Q D cs ad sio L xs A m s2.1 s2.2.1 s2.2.2.1 s2.2.2.2) : jG p l e R s mm args below meth c cells slots Q D cs ad sio L xs A m pc ls st w := by
  unfold jput at hs
  cases hb : Nat.blt i ls.length with
  | false => rw [hb] at hs; cases hs
  | true =>
    rw [hb] at hs
    have hi : i < ls.length := Nat.le_of_ble_eq_true hb
    simp only [cond_true] at hs
    split at hs
    · cases hs
      exact ad_set1 hsc hi (fun q => by cases q) rfl (fun H locs lsC rest lv lv' => hw _ H locs lsC rest lv lv') k
    · cases hs
theorem ad_putR {i n : Nat} (hsc : sio.category = 1) (hs : jputR ls st pc w i n = some s2)
    (hw : ∀ (x : Nat) (H : Heap) (locs : List Loc) (lsC : Array Slot) (rest : List Value) (lv lv' : List (Nat × Value)), lv_has lsC (jml m) lv → i < jml m → (i, .ref x) :: lv.filter (fun q => !(q.1 == i) && !(q.1 + 1 == i && q.2.category == 2)) = lv' → (∀ lsC', lv_has lsC' (jml m) lv' → jWg p l e R s mm args below meth c cells slots Q H locs (pc + n) lsC' rest) → jWg p l e R s mm args below meth c cells slots Q H locs pc lsC (.ref x :: rest))
    (k : jG p l e R s mm args below meth c cells slots Q D cs ad sio L xs A m s2.1 s2.2.1 s2.2.2.1 s2.2.2.2) : jG p l e R s mm args below meth c cells slots Q D cs ad sio L xs A m pc ls st w := by
  unfold jputR at hs
  cases hb : Nat.blt i ls.length with
  | false => rw [hb] at hs; cases hs
  | true =>
    rw [hb] at hs
    have hi : i < ls.length := Nat.le_of_ble_eq_true hb
    simp only [cond_true] at hs
    split at hs
    · rename_i o r
      cases hr : jro o with
      | true => rw [hr] at hs; cases hs
      | false =>
        rw [hr] at hs
        cases hs
        refine ad_set1 hsc hi (jro_X hr) rfl (fun H locs lsC rest lv lv' => ?_) k
        rw [jcv_ref hr]
        exact hw _ H locs lsC rest lv lv'
    · cases hs
theorem ad_putL {i n : Nat} (hsc : sio.category = 1) (hs : jputL ls st pc w i n = some s2)
    (hw : ∀ (x : Int) (H : Heap) (locs : List Loc) (lsC : Array Slot) (rest : List Value) (lv lv' : List (Nat × Value)), lv_has lsC (jml m) lv → i + 1 < jml m → (i, .long (Int64.ofInt x)) :: lv.filter (fun q => !(q.1 == i) && (!(q.1 == i + 1) && !(q.1 + 1 == i && q.2.category == 2))) = lv' → (∀ lsC', lv_has lsC' (jml m) lv' → jWg p l e R s mm args below meth c cells slots Q H locs (pc + n) lsC' rest) → jWg p l e R s mm args below meth c cells slots Q H locs pc lsC (.long (Int64.ofInt x) :: rest))
    (k : jG p l e R s mm args below meth c cells slots Q D cs ad sio L xs A m s2.1 s2.2.1 s2.2.2.1 s2.2.2.2) : jG p l e R s mm args below meth c cells slots Q D cs ad sio L xs A m pc ls st w := by
  unfold jputL at hs
  cases hb : Nat.blt (i + 1) ls.length with
  | false => rw [hb] at hs; cases hs
  | true =>
    rw [hb] at hs
    have hi : i + 1 < ls.length := Nat.le_of_ble_eq_true hb
    simp only [cond_true] at hs
    split at hs
    · rename_i x r
      cases hs
      intro H locs lsC hR hL hl hst
      have hi' : i + 1 < jml m := hL.1 ▸ hi
      refine hw x H locs lsC _ _ _ hL.2 hi' rfl (fun lsC' h' => k H locs lsC' hR (hL.set2 hsc hi' h') (fun u hu => ?_) (fun u hu => hst u (List.mem_cons_of_mem _ hu)))
      rcases List.mem_or_eq_of_mem_set hu with h | h
      · rcases List.mem_or_eq_of_mem_set h with h | h
        · exact hl u h
        · rw [h]; exact hst (jL x) List.mem_cons_self
      · rw [h]; exact trivial
    · cases hs
theorem ad_bini {f : Int → Int → Int} (hs : jbin f ls st pc w = some s2) (hf : ∀ x y, in32 x → in32 y → in32 (f x y))
    (hw : ∀ (x y : Int) (H : Heap) (locs : List Loc) (lsC : Array Slot) (rest : List Value), in32 x → in32 y → jWg p l e R s mm args below meth c cells slots Q H locs (pc + 1) lsC (.int (Int32.ofInt (f x y)) :: rest) → jWg p l e R s mm args below meth c cells slots Q H locs pc lsC (.int (Int32.ofInt y) :: .int (Int32.ofInt x) :: rest))
    (k : jG p l e R s mm args below meth c cells slots Q D cs ad sio L xs A m s2.1 s2.2.1 s2.2.2.1 s2.2.2.2) : jG p l e R s mm args below meth c cells slots Q D cs ad sio L xs A m pc ls st w := by
  unfold jbin at hs
  split at hs
  · rename_i y x r
    cases hs
    exact ad_bin (x := jI x) (y := jI y) (z := jI (f x y)) (hf x y) (fun hx hy H locs lsC rest => hw x y H locs lsC rest hx hy) k
  · cases hs
theorem ad_binl {f : Int → Int → Int} (hs : jbinL f ls st pc w = some s2) (hf : ∀ x y, in64 x → in64 y → in64 (f x y))
    (hw : ∀ (x y : Int) (H : Heap) (locs : List Loc) (lsC : Array Slot) (rest : List Value), in64 x → in64 y → jWg p l e R s mm args below meth c cells slots Q H locs (pc + 1) lsC (.long (Int64.ofInt (f x y)) :: rest) → jWg p l e R s mm args below meth c cells slots Q H locs pc lsC (.long (Int64.ofInt y) :: .long (Int64.ofInt x) :: rest))
    (k : jG p l e R s mm args below meth c cells slots Q D cs ad sio L xs A m s2.1 s2.2.1 s2.2.2.1 s2.2.2.2) : jG p l e R s mm args below meth c cells slots Q D cs ad sio L xs A m pc ls st w := by
  unfold jbinL at hs
  split at hs
  · rename_i y x r
    cases hs
    exact ad_bin (x := jL x) (y := jL y) (z := jL (f x y)) (hf x y) (fun hx hy H locs lsC rest => hw x y H locs lsC rest hx hy) k
  · cases hs
theorem ad_uni {f : Int → Int} (hs : jun f ls st pc w = some s2) (hf : ∀ x, in32 x → in32 (f x))
    (hw : ∀ (x : Int) (H : Heap) (locs : List Loc) (lsC : Array Slot) (rest : List Value), in32 x → jWg p l e R s mm args below meth c cells slots Q H locs (pc + 1) lsC (.int (Int32.ofInt (f x)) :: rest) → jWg p l e R s mm args below meth c cells slots Q H locs pc lsC (.int (Int32.ofInt x) :: rest))
    (k : jG p l e R s mm args below meth c cells slots Q D cs ad sio L xs A m s2.1 s2.2.1 s2.2.2.1 s2.2.2.2) : jG p l e R s mm args below meth c cells slots Q D cs ad sio L xs A m pc ls st w := by
  unfold jun at hs
  split at hs
  · rename_i x r
    cases hs
    exact ad_un (x := jI x) (y := jI (f x)) (hf x) (fun hx H locs lsC rest => hw x H locs lsC rest hx) k
  · cases hs
/-- two ways -/
theorem ad_br {t1 t2 : Nat} {x y : Int} {cond : Bool} (hs : (bif cond then some ((t1, ls, st, w) : jS) else some (t2, ls, st, w)) = some s2) (st0 : List jV) (hst0 : ∀ u ∈ st, u ∈ st0)
    (hw : (∀ u ∈ st0, jVR u) → ∀ (H : Heap) (locs : List Loc) (lsC : Array Slot) , (cond = true → jWg p l e R s mm args below meth c cells slots Q H locs t1 lsC (st.map (jcv ad sio))) → (cond = false → jWg p l e R s mm args below meth c cells slots Q H locs t2 lsC (st.map (jcv ad sio))) → jWg p l e R s mm args below meth c cells slots Q H locs pc lsC (st0.map (jcv ad sio)))
    (k : jG p l e R s mm args below meth c cells slots Q D cs ad sio L xs A m s2.1 s2.2.1 s2.2.2.1 s2.2.2.2) : jG p l e R s mm args below meth c cells slots Q D cs ad sio L xs A m pc ls st0 w := by
  intro H locs lsC hR hL hl hst
  refine hw hst H locs lsC (fun hc => ?_) (fun hc => ?_)
  · rw [hc] at hs; cases hs; exact k H locs lsC hR hL hl (fun u hu => hst u (hst0 u hu))
  · rw [hc] at hs; cases hs; exact k H locs lsC hR hL hl (fun u hu => hst u (hst0 u hu))
theorem c_bi {n : Int} (h : -128 ≤ n ∧ n < 128) : (Int8.ofInt n).toInt32 = Int32.ofInt n := by
  apply Int32.toInt_inj.mp
  rw [Int8.toInt_toInt32, Int8.toInt_ofInt, c_toInt']
  · simp only [Int.bmod, Int8.size]; split <;> omega
  · unfold in32; omega
theorem c_si {n : Int} (h : -32768 ≤ n ∧ n < 32768) : (Int16.ofInt n).toInt32 = Int32.ofInt n := by
  apply Int32.toInt_inj.mp
  rw [Int16.toInt_toInt32, Int16.toInt_ofInt, c_toInt']
  · simp only [Int.bmod, Int16.size]; split <;> omega
  · unfold in32; omega
theorem c_i2c {x : Int} (h : in32 x) : ((Int32.ofInt x).toUInt32 % 65536).toInt32 = Int32.ofInt (x % 65536) := by
  apply Int32.toInt_inj.mp
  rw [c_toInt' (by unfold in32; omega)]
  show ((BitVec.ofInt 32 x) % 65536#32).toInt = x % 65536
  rw [BitVec.toInt_eq_toNat_bmod, BitVec.toNat_umod, BitVec.toNat_ofInt]
  have h1 : ((x % ((2 ^ 32 : Nat) : Int)).toNat : Int) = x % 4294967296 := by rw [Int.toNat_of_nonneg (by omega)]; rfl
  have h2 : (((x % ((2 ^ 32 : Nat) : Int)).toNat % (65536#32).toNat : Nat) : Int) = x % 65536 := by
    rw [Int.natCast_emod, h1, show ((65536#32 : BitVec 32).toNat : Int) = 65536 from rfl]; omega
  rw [h2, Int.bmod_def]
  split <;> omega
theorem c_and (x y : Int) : Int32.ofInt x &&& Int32.ofInt y = Int32.ofInt (jand x y) := by unfold jand; rw [c_of32]
theorem c_or (x y : Int) : Int32.ofInt x ||| Int32.ofInt y = Int32.ofInt (jor x y) := by unfold jor; rw [c_of32]
theorem c_xor (x y : Int) : Int32.ofInt x ^^^ Int32.ofInt y = Int32.ofInt (jxor x y) := by unfold jxor; rw [c_of32]
theorem c_shl (x y : Int) : Int32.ofInt x <<< (Int32.ofInt y &&& 31) = Int32.ofInt (jshl x y) := by unfold jshl; rw [c_of32]
theorem c_shr (x y : Int) : Int32.ofInt x >>> (Int32.ofInt y &&& 31) = Int32.ofInt (jshr x y) := by unfold jshr; rw [c_of32]
theorem c_ushr (x y : Int) : ((Int32.ofInt x).toUInt32 >>> ((Int32.ofInt y).toUInt32 &&& Int32.toUInt32 31)).toInt32 = Int32.ofInt (jushr x y) := by unfold jushr; rw [c_of32]
theorem c_lor (x y : Int) : Int64.ofInt x ||| Int64.ofInt y = Int64.ofInt (jlor x y) := by unfold jlor; rw [c_of64]
theorem c_land (x y : Int) : Int64.ofInt x &&& Int64.ofInt y = Int64.ofInt (jland x y) := by unfold jland; rw [c_of64]
theorem c_lshl (x y : Int) : Int64.ofInt x <<< ((Int32.ofInt y).toInt64 &&& 63) = Int64.ofInt (jlshl x y) := by unfold jlshl; rw [c_of64]
theorem c_max {x y : Int} (hx : in32 x) (hy : in32 y) : (if Int32.ofInt x < Int32.ofInt y then Int32.ofInt y else Int32.ofInt x) = Int32.ofInt (jmax x y) := by
  unfold jmax; simp only [c_lt hx hy]; split <;> rfl
theorem c_min {x y : Int} (hx : in32 x) (hy : in32 y) : (if Int32.ofInt y < Int32.ofInt x then Int32.ofInt y else Int32.ofInt x) = Int32.ofInt (jmin x y) := by
  unfold jmin; simp only [c_lt hy hx]; split <;> rfl
theorem c_abs {x : Int} (hx : in32 x) : (if 0 ≤ Int32.ofInt x then Int32.ofInt x else 0 - Int32.ofInt x) = Int32.ofInt (jabs x) := by
  unfold jabs; rw [c_z0]; simp only [c_le in32_0 hx, c_sub]; split <;> rfl
theorem c_cmp {x y : Int} (hx : in64 x) (hy : in64 y) : lg_cmp (Int64.ofInt x) (Int64.ofInt y) = Int32.ofInt (if x < y then -1 else if x = y then 0 else 1) := by
  unfold lg_cmp
  simp only [gt_iff_lt, c_llt hy hx, c_leq hx hy]
  by_cases h1 : y < x
  · rw [if_pos h1, if_neg (by omega), if_neg (by omega)]; decide
  · by_cases h2 : x = y
    · rw [if_neg h1, if_pos h2, if_neg (by omega), if_pos h2]; decide
    · rw [if_neg h1, if_neg h2, if_pos (by omega)]; decide
theorem jI32 (x : Int32) : in32 x.toInt := c_in32 x
end AE
