/-! calls: a run of the abstract machine is a contract of the machine -/
def jWs (m : Nat) : List Cond := jcw m :: tbG
def jRm (m : Nat) : Room := { frames := jrf m, cells := 0, slots := 0, locals := jrl m }
def jPc (D : va_G) (cs : ClassId × ClassId × ClassId) (ad : Nat → Nat) (sio : Value) (L : Nat) (xs : Nat → Int) (w : jW) (sz : Nat) (as : List jV) : Array Value → State → Prop := va_Pc (as.map (jcv ad sio)) (fun U => U.heap.size = sz ∧ va_P D vwCl (jws ad cs w) U.heap ∧ va_K D vwCl (jtys cs) U ∧ va_D (fun _ => True) (jws ad cs w) ∧ jEx ad sio L xs (va_A (jws ad cs w) sz) U U.heap)
def jrv (ad : Nat → Nat) (sio : Value) (k : Nat) (r : jV) : Option Value := bif Nat.beq k 0 then none else some (jcv ad sio r)
/-- what a run leaves, beside the cells -/
def jPo (L : Nat) (xs : Nat → Int) (r : jV) (w' : jW) : Prop := jVR r ∧ jWR w' ∧ w' 98 0 = L ∧ ∀ j : Nat, j < L → w' 100 j = xs j
def jQc (D : va_G) (cs : ClassId × ClassId × ClassId) (ad : Nat → Nat) (sio : Value) (L : Nat) (xs : Nat → Int) (w : jW) (sz k : Nat) (r : jV) (w' : jW) : Array Value → State → Outcome → State → Prop := fun _ st oc t =>
  oc = .returned (jrv ad sio k r) ∧ va_P D vwCl (jws ad cs w') t.heap ∧ va_F (va_A (jws ad cs w) sz) st t ∧ jPo L xs r w'
def jAd (l : Launch) (f : jF) : Prop := ∀ (m pc : Nat) (ls st : List jV) (w : jW) (r : jV) (w' : jW), f m pc ls st w = some (r, w') →
  ∀ (p : Program) (e : Env) (R : Room) (s : State) (mm : MethodId) (args : Array Value) (below : List Frame) (meth : Method) (c : Code) (cells slots : Nat) (Q : State → Prop) (D : va_G) (cs : ClassId × ClassId × ClassId) (ad : Nat → Nat) (sio : Value) (L : Nat) (xs : Nat → Int) (A : Nat → Prop),
  jCx p R s mm args meth c D cs ad sio L xs A m → cells ≤ R.cells → slots ≤ R.slots →
  (∀ (i : Instr) (a b : Nat) (v : Int) (pc' : Nat) (st' : List jV) (lsC : Array Slot) (H : Heap) (locs : List Loc), jcd m pc' = some (i, a, b, v) → jend i (jrk m) st' w' = some (r, w') → jVR r → jRp D cs ad L xs A s.heap w' H locs → W p l e R s mm args below meth c H locs cells slots Q (F0 mm pc' lsC (st'.map (jcv ad sio)))) →
  jG p l e R s mm args below meth c cells slots Q D cs ad sio L xs A m pc ls st w
theorem jend_w {i : Instr} {k : Nat} {st : List jV} {w w' : jW} {r : jV} (h : jend i k st w = some (r, w')) : w' = w := by
  unfold jend at h
  split at h
  · split at h
    · rename_i x
      cases hq : jretI k x with
      | false => rw [hq] at h; cases h
      | true => rw [hq] at h; cases h; rfl
    · cases h
  · split at h
    · cases hq : Nat.beq k 3 with
      | false => rw [hq] at h; cases h
      | true => rw [hq] at h; cases h; rfl
    · cases h
  · split at h
    · cases hq : Nat.beq k 0 with
      | false => rw [hq] at h; cases h
      | true => rw [hq] at h; cases h; rfl
    · cases h
  · cases h
theorem jpC_mem {a z : Nat} (h : jpC.any (fun t => Nat.beq t.1 a && Nat.beq t.2.2.2.2.2 z) = true) : ∃ t ∈ jpC, t.1 = a ∧ t.2.2.2.2.2 = z ∧ jcok t = true := by
  obtain ⟨t, ht, h1⟩ := List.any_eq_true.mp h
  simp only [Bool.and_eq_true] at h1
  exact ⟨t, ht, Nat.eq_of_beq_eq_true h1.1, Nat.eq_of_beq_eq_true h1.2, List.all_eq_true.mp jpC_ok t ht⟩
theorem jpC_lt0 : (jpC.all fun t => Nat.blt t.1 271) = true := by decide +kernel
/-- a callee's own words -/
theorem jcl_words {a : Nat} (h : jpC.any (fun t => Nat.beq t.1 a && Nat.beq t.2.2.2.2.2 0) = true ∨ jpC.any (fun t => Nat.beq t.1 a && Nat.beq t.2.2.2.2.2 1) = true) : jcw a ∈ tbG ∧ Cond.initialized (jmy a).cls ∈ tbG ∧ ((jmy a).cls ≠ "java/lang/invoke/MethodHandle" ∧ (jmy a).cls ≠ "java/lang/invoke/VarHandle") ∧ plainName (jmy a).cls = true ∧ (jmy a).cls = jown (jm a).1 ∧
    (jpC.any (fun t => Nat.beq t.1 a && Nat.beq t.2.2.2.2.2 0) = true → Cond.instanceMethod (jmy a) ∈ tbG ∧ Cond.selects (jmy a).cls (jmy a) (jmy a) ∈ tbG) ∧ (jpC.any (fun t => Nat.beq t.1 a && Nat.beq t.2.2.2.2.2 1) = true → Cond.static (jmy a) ∈ tbG) := by
  have key : ∀ z, jpC.any (fun t => Nat.beq t.1 a && Nat.beq t.2.2.2.2.2 z) = true → ∃ t ∈ jpC, t.1 = a ∧ t.2.2.2.2.2 = z ∧ jcok t = true := fun z hz => jpC_mem hz
  have base : ∀ t ∈ jpC, t.1 = a → jcok t = true → jcw a ∈ tbG ∧ Cond.initialized (jmy a).cls ∈ tbG ∧ ((jmy a).cls ≠ "java/lang/invoke/MethodHandle" ∧ (jmy a).cls ≠ "java/lang/invoke/VarHandle") ∧ plainName (jmy a).cls = true ∧ (jmy a).cls = jown (jm a).1 := by
    rintro ⟨t1, t2, t3, t4, t5, t6⟩ ht rfl hk
    have hlt : t1 < 271 := Nat.le_of_ble_eq_true (List.all_eq_true.mp jpC_lt0 _ ht)
    unfold jcok at hk
    simp only [Bool.and_eq_true] at hk
    obtain ⟨⟨⟨⟨⟨h1, h2⟩, h3⟩, h4⟩, h5⟩, h6⟩ := hk
    exact ⟨List.mem_filter.mpr ⟨jcw_tbl hlt, h1⟩, jis_in h2, of_decide_eq_true h4, h5, of_decide_eq_true h6⟩
  have hb : ∃ t ∈ jpC, t.1 = a ∧ jcok t = true := by
    rcases h with h | h
    · obtain ⟨t, h1, h2, h3, h4⟩ := key _ h; exact ⟨t, h1, h2, h4⟩
    · obtain ⟨t, h1, h2, h3, h4⟩ := key _ h; exact ⟨t, h1, h2, h4⟩
  obtain ⟨t, h1, h2, h3⟩ := hb
  obtain ⟨g1, g2, g3, g4, g5⟩ := base t h1 h2 h3
  refine ⟨g1, g2, g3, g4, g5, fun q => ?_, fun q => ?_⟩
  · obtain ⟨⟨t1, t2, t3, t4, t5, t6⟩, ht, rfl, e2, hk⟩ := key _ q
    dsimp only at e2
    subst e2
    unfold jcok at hk
    simp only [Bool.and_eq_true] at hk
    exact ⟨jis_in hk.1.1.1.2.1, jis_in hk.1.1.1.2.2⟩
  · obtain ⟨⟨t1, t2, t3, t4, t5, t6⟩, ht, rfl, e2, hk⟩ := key _ q
    dsimp only at e2
    subst e2
    unfold jcok at hk
    simp only [Bool.and_eq_true] at hk
    exact jis_in hk.1.1.1.2
theorem c_char {x : Int} (h : 0 ≤ x ∧ x < 65536) : (Int32.ofInt x).toUInt32.toUInt16.toUInt32.toInt32 = Int32.ofInt x := by
  apply Int32.toInt_inj.mp
  rw [c_toInt' (by unfold in32; omega)]
  show (((BitVec.ofInt 32 x).setWidth 16).setWidth 32).toInt = x
  rw [BitVec.toInt_eq_toNat_bmod, BitVec.toNat_setWidth, BitVec.toNat_setWidth, BitVec.toNat_ofInt]
  have h1 : ((x % ((2 ^ 32 : Nat) : Int)).toNat : Int) = x := by rw [Int.toNat_of_nonneg (by omega)]; omega
  have h2 : (x % ((2 ^ 32 : Nat) : Int)).toNat % 2 ^ 16 % 2 ^ 32 = (x % ((2 ^ 32 : Nat) : Int)).toNat := by omega
  rw [h2, h1, Int.bmod_def]
  split <;> omega
theorem lg_sl_len {ad : Nat → Nat} {sio : Value} (hsio : sio.category = 1) (as : List jV) : (lg_sl (as.map (jcv ad sio))).length = (as.map jcat).sum := by
  induction as with
  | nil => rfl
  | cons a as ih =>
    have hc := jcv_cat (ad := ad) hsio a
    unfold lg_sl at ih ⊢
    rw [List.map_cons, List.flatMap_cons, List.length_append, ih, List.map_cons, List.sum_cons, hc]
    rcases jcat_12 a with h | h <;> rw [h] <;> rfl
theorem lg_sl_le {ad : Nat → Nat} {sio : Value} (hsio : sio.category = 1) {as : List jV} {n : Nat} (h : (as.map jcat).sum ≤ n) : (lg_sl (as.map (jcv ad sio))).length ≤ n := by rw [lg_sl_len hsio]; exact h
theorem met_of {l : Launch} {f : jF} (hf : jAd l f) {a : Nat} {as : List jV} {w w' : jW} {r : jV} (hrun : f a 0 (jent (jml a) as) [] w = some (r, w')) (hpl : plainName (jmy a).cls = true) (hcls : (jmy a).cls = jown (jm a).1) (hlen : (as.map jcat).sum ≤ jml a) (has : ∀ v ∈ as, jVR v) {D : va_G} {cs : ClassId × ClassId × ClassId} {ad : Nat → Nat} {sio : Value} {L : Nat} {xs : Nat → Int} (hwr : jWR w) (h98 : w 98 0 = L) (h100 : ∀ j : Nat, j < L → w 100 j = xs j) (hsio : sio.category = 1) (hL31 : L < 2147483648) (hxs : ∀ j : Nat, j < L → in32 (xs j)) (sz : Nat) :
    Met l (jmy a) (jWs a) (jRm a) (jPc D cs ad sio L xs w sz as) (jQc D cs ad sio L xs w sz (jrk a) r w') 0 0 (va_A (jws ad cs w) sz) := by
  refine Met.ofW (cc := jmc a) (maxL := jml a) (ret := jrt (jrk a)) hpl rfl ?_
  intro p e s m args below meth c s₁ B hml hv
  obtain ⟨rfl, hsz, hP, hK, hD0, hE⟩ := hv
  have hts := atoms_spec (ws := jWs a) B.pre
  have hown : s.vm.findClass (jown (jm a).1) = some m.cls := hcls ▸ findClass_of_methodNamed B.named
  have hlocks := B.notSynchronized
  have hr := B.returns
  subst hsz
  have hD := hD0.self (sz := s.heap.size)
  have hC : jCx p (headSpec (jWs a) (jRm a)).room s m (as.map (jcv ad sio)).toArray meth c D cs ad sio L xs (va_A (jws ad cs w) s.heap.size) a :=
    ⟨B.exec, B.bytes, hml, hown, fun u hu => hts u (List.mem_cons_of_mem _ hu), hlocks, Nat.le_refl _, Nat.le_refl _, hK, hE, fun q hq => Or.inr hq, hsio, hL31, hxs⟩
  have hl := lv_entry (as.map (jcv ad sio)) (n := jml a) (lg_sl_le hsio hlen)
  rw [lg_entry_eq]
  refine hf a 0 _ _ w r w' hrun p e _ s m _ below meth c 0 0 _ D cs ad sio L xs _ hC (Nat.zero_le _) (Nat.zero_le _) ?_ s.heap [] _ ⟨hP, hD, va_S.rf, hwr, h98, h100⟩ ?_ ?_ (fun v hv => by cases hv)
  · intro i a1 b1 v1 pc' st' lsC H locs hcd hend hvr hR
    obtain ⟨⟨n, hd, hn⟩, -⟩ := jdec (jOk_all a) hcd
    have hQ : ∀ (t : State), t.heap = H → jQc D cs ad sio L xs w s.heap.size (jrk a) r w' (as.map (jcv ad sio)).toArray s (.returned (jrv ad sio (jrk a) r)) t := fun t ht => ⟨rfl, by rw [ht]; exact hR.1, hR.2.2.1.F ht, hvr, hR.2.2.2.1, hR.2.2.2.2.1, hR.2.2.2.2.2⟩
    have hfr : ∀ q ∈ locs, va_A (jws ad cs w) s.heap.size q.base := hR.2.2.1.2.2
    unfold jend at hend
    split at hend
    · obtain rfl := jn_of (k := 1) hn
      split at hend
      · rename_i x
        cases hq : jretI (jrk a) x with
        | false => rw [hq] at hend; cases hend
        | true =>
          rw [hq] at hend
          cases hend
          have hx : in32 x := hvr
          have fin : ∀ ty, jrt (jrk a) = some ty → narrow ty (.int (Int32.ofInt x)) = .int (Int32.ofInt x) → jrk a ≠ 0 → W p l e (headSpec (jWs a) (jRm a)).room s m (as.map (jcv ad sio)).toArray below meth c H locs 0 0 (MQ below (jQc D cs ad sio L xs w s.heap.size (jrk a) (jI x) w') (as.map (jcv ad sio)).toArray s 0 0 (va_A (jws ad cs w) s.heap.size)) (F0 m pc' lsC [.int (Int32.ofInt x)]) := by
            intro ty h1 h2 h3
            refine W.zret (ty := ty) B.exec B.bytes (hr.trans h1) h2 (fun t ht _ => ?_) hfr hd hlocks
            have := hQ t ht
            rw [show jrv ad sio (jrk a) (jI x) = some (.int (Int32.ofInt x)) from by unfold jrv; rw [nbeq_ne h3]; rfl] at this
            exact this
          unfold jretI at hq
          split at hq
          · rename_i hk
            exact fin .int (by rw [hk]; rfl) rfl (by omega)
          · rename_i hk
            refine fin .boolean (by rw [hk]; rfl) ?_ (by omega)
            rcases of_decide_eq_true hq with rfl | rfl <;> rfl
          · rename_i hk
            have hq := of_decide_eq_true hq
            refine fin .byte (by rw [hk]; rfl) ?_ (by omega)
            show Value.int ((Int32.ofInt x).toInt8.toInt32) = _
            rw [c_i2b hx, show n8 x = x from by unfold n8; omega]
          · rename_i hk
            have hq := of_decide_eq_true hq
            refine fin .char (by rw [hk]; rfl) ?_ (by omega)
            show Value.int ((Int32.ofInt x).toUInt32.toUInt16.toUInt32.toInt32) = _
            rw [c_char hq]
          · cases hq
      · cases hend
    · obtain rfl := jn_of (k := 1) hn
      split at hend
      · rename_i x
        cases hq : Nat.beq (jrk a) 3 with
        | false => rw [hq] at hend; cases hend
        | true =>
          rw [hq] at hend
          cases hend
          have hk := Nat.eq_of_beq_eq_true hq
          refine W.lret B.exec B.bytes (hr.trans (by rw [hk]; rfl)) (fun t ht _ => ?_) hfr hd hlocks
          have := hQ t ht
          rw [show jrv ad sio (jrk a) (jL x) = some (.long (Int64.ofInt x)) from by unfold jrv; rw [nbeq_ne (by omega)]; rfl] at this
          exact this
      · cases hend
    · obtain rfl := jn_of (k := 1) hn
      split at hend
      · cases hq : Nat.beq (jrk a) 0 with
        | false => rw [hq] at hend; cases hend
        | true =>
          rw [hq] at hend
          cases hend
          have hk := Nat.eq_of_beq_eq_true hq
          refine W.vret B.exec B.bytes (hr.trans (by rw [hk]; rfl)) (fun t ht _ => ?_) hfr hd hlocks
          have := hQ t ht
          rw [show jrv ad sio (jrk a) (jI 0) = none from by unfold jrv; rw [hk]; rfl] at this
          exact this
      · cases hend
    · cases hend
  · exact jLo.of (jent_len _ _ hlen) hl (fun i v h1 h2 => by have := jent_args (ad := ad) hsio as (jml a) 0 i v h1 h2.1; rwa [Nat.add_zero] at this)
  · intro v hv
    rcases jent_mem as _ v hv with rfl | h
    · exact trivial
    · exact has v h
