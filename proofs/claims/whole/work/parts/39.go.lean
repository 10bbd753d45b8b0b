theorem jpG_n : (jpG.all fun t => Nat.beq t.2.2.2.2 0 || Nat.beq t.2.2.2.1 0) = true := by decide +kernel
section AT
variable {p : Program} {l : Launch} {e : Env} {R : Room} {s : State} {mm : MethodId} {args : Array Value} {below : List Frame} {meth : Method} {c : Code} {cells slots : Nat} {Q : State → Prop}
variable {D : va_G} {cs : ClassId × ClassId × ClassId} {ad : Nat → Nat} {sio : Value} {L : Nat} {xs : Nat → Int} {A : Nat → Prop} {m : Nat}
variable {pc a b : Nat} {v : Int} {ls st : List jV} {w : jW} {s2 : jS}
theorem jtgt_of {pc t : Nat} {off : Int} (h : jtgt pc off = some t) : (pc : Int) + off = (t : Int) := by
  unfold jtgt at h
  split at h
  · rename_i z hz; cases h; exact hz
  · cases h
theorem jtsw_spec : ∀ (offs : List Int) (lo d x : Int), (lo ≤ x ∧ x < lo + offs.length → offs[(x - lo).toNat]? = some (jtsw offs lo d x)) ∧ (¬ (lo ≤ x ∧ x < lo + offs.length) → jtsw offs lo d x = d) := by
  intro offs
  induction offs with
  | nil => intro lo d x; exact ⟨fun h => by simp at h; omega, fun _ => rfl⟩
  | cons o r ih =>
    intro lo d x
    obtain ⟨h1, h2⟩ := ih (lo + 1) d x
    simp only [List.length_cons]
    by_cases hx : x = lo
    · subst hx
      refine ⟨fun _ => ?_, fun h => absurd (by omega) h⟩
      simp [jtsw]
    · refine ⟨fun h => ?_, fun h => ?_⟩
      · rw [show (x - lo).toNat = (x - (lo + 1)).toNat + 1 by omega, List.getElem?_cons_succ]
        simp only [jtsw, if_neg hx]
        exact h1 (by omega)
      · simp only [jtsw, if_neg hx]
        exact h2 (by omega)
theorem jlsw_spec : ∀ (ps : List (Int × Int)) (d x : Int), Op.lookupswitch.offset ps d x = jlsw ps d x := by
  intro ps
  induction ps with
  | nil => intro d x; rfl
  | cons q r ih =>
    obtain ⟨k, o⟩ := q
    intro d x
    rw [Op.lookupswitch.offset_cons, ih]
    by_cases h : x = k
    · simp only [jlsw]; rw [if_pos h, if_pos h.symm]
    · simp only [jlsw]; rw [if_neg h, if_neg (fun q => h q.symm)]
theorem ad_go {i : Instr} (hok : jOk m) (hC : jCx p R s mm args meth c D cs ad sio L xs A m) (hcr : cells ≤ R.cells) (hsr : slots ≤ R.slots) (hc : jcd m pc = some (i, a, b, v)) (hs : jstp i a b v pc ls st w = some s2)
    (k : jG p l e R s mm args below meth c cells slots Q D cs ad sio L xs A m s2.1 s2.2.1 s2.2.2.1 s2.2.2.2) : jG p l e R s mm args below meth c cells slots Q D cs ad sio L xs A m pc ls st w := by
  obtain ⟨hx, hb, hml, hown, hts, hlk, hrf, hrl, hK, hE, hA, hsc, hL31, hxs⟩ := id hC
  obtain ⟨⟨n, hd, hn⟩, hl⟩ := jdec hok hc
  cases i
  case iconst z =>
    obtain rfl := jn_of (k := 1) hn
    cases hs
    have hl : -1 ≤ z ∧ z ≤ 5 := of_decide_eq_true hl
    exact ad_push (v := jI z) (by show in32 z; unfold in32; omega) (fun H locs lsC rest _ _ kk => lv_iconst (v := Int32.ofInt z) hx hb hd rfl kk) k
  case bipush z =>
    obtain rfl := jn_of (k := 2) hn
    cases hs
    have hl : -128 ≤ z ∧ z < 128 := of_decide_eq_true hl
    exact ad_push (v := jI z) (by show in32 z; unfold in32; omega) (fun H locs lsC rest _ _ kk => lv_bipush (v := Int32.ofInt z) hx hb hd (c_bi hl) kk) k
  case sipush z =>
    obtain rfl := jn_of (k := 3) hn
    cases hs
    have hl : -32768 ≤ z ∧ z < 32768 := of_decide_eq_true hl
    exact ad_push (v := jI z) (by show in32 z; unfold in32; omega) (fun H locs lsC rest _ _ kk => lv_sipush (v := Int32.ofInt z) hx hb hd (c_si hl) kk) k
  case lconst z =>
    obtain rfl := jn_of (k := 1) hn
    cases hs
    exact ad_push (v := jL z.val) (by show in64 z.val; unfold in64; omega) (fun H locs lsC rest _ _ kk => lv_lconst (v := Int64.ofInt z.val) hx hb hd rfl kk) k
  case ldc z =>
    obtain rfl := jn_of (k := 2) hn
    cases a with
    | zero =>
      cases hs
      obtain ⟨h1, h2⟩ := jpI_word hl
      exact ad_push (v := jI v) h2 (fun H locs lsC rest _ _ kk => lv_ldc hx hb hown (hts _ h1) hd kk) k
    | succ a =>
      cases hs
      have hl : (Nat.beq (a + 1) 1 && jpS.any (fun t => Nat.beq t.1 (jm m).1 && Nat.beq t.2.1 z && Nat.beq t.2.2.2 b) && Nat.blt b 6) = true := hl
      simp only [Bool.and_eq_true] at hl
      obtain ⟨q, hq, e1, e2, e3⟩ := jpS_mem hl.1.2
      have hb6 : b < 6 := Nat.le_of_ble_eq_true hl.2
      obtain ⟨-, -, -, -, -, -, hE7, -⟩ := hE
      obtain ⟨tx, hZ⟩ := hE7 q hq
      rw [e1, e2, e3] at hZ
      refine ad_push (v := jR (110 + b)) trivial (fun H locs lsC rest _ _ kk => ?_) k
      rw [jrefk (by omega)] at kk
      exact va_ldcS hx hb hown hZ hd kk
  case ldc_w z =>
    obtain rfl := jn_of (k := 3) hn
    have hl : (Nat.beq a 0 && jpI.any (fun t => Nat.beq t.1 (jm m).1 && Nat.beq t.2.1 z && decide (t.2.2.2 = v))) = true := hl
    rw [Bool.and_eq_true] at hl
    cases Nat.eq_of_beq_eq_true hl.1
    cases hs
    obtain ⟨h1, h2⟩ := jpI_word hl.2
    exact ad_push (v := jI v) h2 (fun H locs lsC rest _ _ kk => lv_ldcw hx hb hown (hts _ h1) hd kk) k
  case ldc2_w z =>
    obtain rfl := jn_of (k := 3) hn
    cases hs
    obtain ⟨h1, h2⟩ := jpJ_word hl
    exact ad_push (v := jL v) h2 (fun H locs lsC rest _ _ kk => lv_ldc2 hx hb hown (hts _ h1) hd kk) k
  case iload_n z =>
    obtain rfl := jn_of (k := 1) hn
    exact ad_get hs (fun x H locs lsC rest hlx kk => lv_iload_n hx hb hd rfl hlx kk) k
  case iload z =>
    obtain rfl := jn_of (k := 2) hn
    exact ad_get hs (fun x H locs lsC rest hlx kk => lv_iload hx hb hd hlx kk) k
  case lload_n z =>
    obtain rfl := jn_of (k := 1) hn
    exact ad_getL hs (fun x H locs lsC rest hlx kk => lv_lload_n hx hb hd rfl hlx kk) k
  case lload z =>
    obtain rfl := jn_of (k := 2) hn
    exact ad_getL hs (fun x H locs lsC rest hlx kk => lv_lload hx hb hd hlx kk) k
  case aload_n z =>
    obtain rfl := jn_of (k := 1) hn
    exact ad_getR hs (fun x H locs lsC rest hlx kk => lv_aload_n hx hb hd rfl hlx kk) k
  case aload z =>
    obtain rfl := jn_of (k := 2) hn
    exact ad_getR hs (fun x H locs lsC rest hlx kk => lv_aload hx hb hd hlx kk) k
  case istore_n z =>
    obtain rfl := jn_of (k := 1) hn
    exact ad_put hsc hs (fun x H locs lsC rest lv lv' h hi hlv kk => lv_istore_n hx hb hd rfl h hi hlv kk) k
  case istore z =>
    obtain rfl := jn_of (k := 2) hn
    exact ad_put hsc hs (fun x H locs lsC rest lv lv' h hi hlv kk => lv_istore hx hb hd h hi hlv kk) k
  case lstore_n z =>
    obtain rfl := jn_of (k := 1) hn
    exact ad_putL hsc hs (fun x H locs lsC rest lv lv' h hi hlv kk => lv_lstore_n hx hb hd rfl h hi hlv kk) k
  case lstore z =>
    obtain rfl := jn_of (k := 2) hn
    exact ad_putL hsc hs (fun x H locs lsC rest lv lv' h hi hlv kk => lv_lstore hx hb hd h hi hlv kk) k
  case astore_n z =>
    obtain rfl := jn_of (k := 1) hn
    exact ad_putR hsc hs (fun x H locs lsC rest lv lv' h hi hlv kk => lv_astore_n hx hb hd rfl h hi hlv kk) k
  case astore z =>
    obtain rfl := jn_of (k := 2) hn
    exact ad_putR hsc hs (fun x H locs lsC rest lv lv' h hi hlv kk => lv_astore hx hb hd h hi hlv kk) k
  case iinc z t =>
    obtain rfl := jn_of (k := 3) hn
    simp only [jstp] at hs
    cases hbl : Nat.blt z ls.length with
    | false => rw [hbl] at hs; cases hs
    | true =>
      rw [hbl] at hs
      have hz : z < ls.length := Nat.le_of_ble_eq_true hbl
      simp only [cond_true] at hs
      split at hs
      · rename_i x hzx
        cases hs
        intro H locs lsC hR hL hlr hst
        have hz' : z < jml m := hL.1 ▸ hz
        have hmem : (z, Value.int (Int32.ofInt x)) ∈ jlvs ad sio ls := jlvs_mem.mpr ⟨jI x, hzx, ⟨fun q => (by cases q), fun q => (by cases q)⟩, rfl⟩
        obtain ⟨kk, hkk⟩ := List.getElem?_of_mem hmem
        refine lv_iinc (k := kk) (v := Int32.ofInt (n32 (x + t))) hx hb hd hL.2 hkk (by rw [c_add]) hz' rfl (fun lsC' h' => ?_)
        refine k H locs lsC' hR (hL.set1 hsc hz' (v := jI (n32 (x + t))) (fun q => by cases q) rfl h') (fun u hu => ?_) hst
        rcases List.mem_or_eq_of_mem_set hu with h | h
        · exact hlr u h
        · rw [h]; exact n32_in _
      · cases hs
  case iadd =>
    obtain rfl := jn_of (k := 1) hn
    exact ad_bini hs (fun x y _ _ => n32_in _) (fun x y H locs lsC rest _ _ kk => lv_iadd hx hb hd (by rw [c_add]; exact kk)) k
  case isub =>
    obtain rfl := jn_of (k := 1) hn
    exact ad_bini hs (fun x y _ _ => n32_in _) (fun x y H locs lsC rest _ _ kk => lv_isub hx hb hd (by rw [c_sub]; exact kk)) k
  case imul =>
    obtain rfl := jn_of (k := 1) hn
    exact ad_bini hs (fun x y _ _ => n32_in _) (fun x y H locs lsC rest _ _ kk => lv_imul hx hb hd (by rw [c_mul]; exact kk)) k
  case iand =>
    obtain rfl := jn_of (k := 1) hn
    exact ad_bini hs (fun x y _ _ => jI32 _) (fun x y H locs lsC rest _ _ kk => lv_iand hx hb hd (by rw [c_and]; exact kk)) k
  case ior =>
    obtain rfl := jn_of (k := 1) hn
    exact ad_bini hs (fun x y _ _ => jI32 _) (fun x y H locs lsC rest _ _ kk => lv_ior hx hb hd (by rw [c_or]; exact kk)) k
  case ixor =>
    obtain rfl := jn_of (k := 1) hn
    exact ad_bini hs (fun x y _ _ => jI32 _) (fun x y H locs lsC rest _ _ kk => lv_ixor hx hb hd (by rw [c_xor]; exact kk)) k
  case ishl =>
    obtain rfl := jn_of (k := 1) hn
    exact ad_bini hs (fun x y _ _ => jI32 _) (fun x y H locs lsC rest _ _ kk => lv_ishl hx hb hd (by rw [c_shl]; exact kk)) k
  case ishr =>
    obtain rfl := jn_of (k := 1) hn
    exact ad_bini hs (fun x y _ _ => jI32 _) (fun x y H locs lsC rest _ _ kk => lv_ishr hx hb hd (by rw [c_shr]; exact kk)) k
  case iushr =>
    obtain rfl := jn_of (k := 1) hn
    exact ad_bini hs (fun x y _ _ => jI32 _) (fun x y H locs lsC rest _ _ kk => lv_iushr hx hb hd (c_ushr x y) kk) k
  case idiv =>
    obtain rfl := jn_of (k := 1) hn
    simp only [jstp] at hs
    split at hs
    · rename_i y x r
      split at hs
      · cases hs
      · rename_i hy0
        cases hs
        refine ad_bin (x := jI x) (y := jI y) (z := jI (n32 (Int.tdiv x y))) (fun _ _ => n32_in _) (fun hx' hy' H locs lsC rest kk => lv_idiv hx hb hd ?_ ?_) k
        · rw [c_z0, c_eq hy' in32_0]; exact hy0
        · rw [c_div hx' hy']; exact kk
    · cases hs
  case irem =>
    obtain rfl := jn_of (k := 1) hn
    simp only [jstp] at hs
    split at hs
    · rename_i y x r
      split at hs
      · cases hs
      · rename_i hy0
        cases hs
        refine ad_bin (x := jI x) (y := jI y) (z := jI (Int.tmod x y)) (fun h _ => tmod_in32 h) (fun hx' hy' H locs lsC rest kk => lv_irem hx hb hd ?_ ?_) k
        · rw [c_z0, c_eq hy' in32_0]; exact hy0
        · rw [c_rem hx' hy']; exact kk
    · cases hs
  case ineg =>
    obtain rfl := jn_of (k := 1) hn
    exact ad_uni hs (fun x _ => n32_in _) (fun x H locs lsC rest _ kk => lv_ineg hx hb hd (by rw [c_neg]; exact kk)) k
  case i2b =>
    obtain rfl := jn_of (k := 1) hn
    exact ad_uni hs (fun x _ => by unfold n8 in32; omega) (fun x H locs lsC rest h kk => lv_i2b hx hb hd (c_i2b h) kk) k
  case i2s =>
    obtain rfl := jn_of (k := 1) hn
    exact ad_uni hs (fun x _ => by unfold n16 in32; omega) (fun x H locs lsC rest h kk => lv_i2s hx hb hd (c_i2s h) kk) k
  case i2c =>
    obtain rfl := jn_of (k := 1) hn
    exact ad_uni hs (fun x _ => by unfold in32; omega) (fun x H locs lsC rest h kk => lv_i2c hx hb hd (c_i2c h) kk) k
  case i2l =>
    obtain rfl := jn_of (k := 1) hn
    simp only [jstp] at hs
    split at hs
    · rename_i x r
      cases hs
      exact ad_un (x := jI x) (y := jL x) (fun (h : in32 x) => (by show in64 x; unfold in32 at h; unfold in64; omega)) (fun h H locs lsC rest kk => lv_i2l hx hb hd (c_i2l h) kk) k
    · cases hs
  case l2i =>
    obtain rfl := jn_of (k := 1) hn
    simp only [jstp] at hs
    split at hs
    · rename_i x r
      cases hs
      exact ad_un (x := jL x) (y := jI (n32 x)) (fun _ => n32_in x) (fun h H locs lsC rest kk => lv_l2i hx hb hd (c_l2i h) kk) k
    · cases hs
  case ladd =>
    obtain rfl := jn_of (k := 1) hn
    exact ad_binl hs (fun x y _ _ => n64_in _) (fun x y H locs lsC rest _ _ kk => lv_ladd hx hb hd (by rw [c_ladd]; exact kk)) k
  case land =>
    obtain rfl := jn_of (k := 1) hn
    exact ad_binl hs (fun x y _ _ => c_in64 _) (fun x y H locs lsC rest _ _ kk => lv_land hx hb hd (by rw [c_land]; exact kk)) k
  case lor =>
    obtain rfl := jn_of (k := 1) hn
    exact ad_binl hs (fun x y _ _ => c_in64 _) (fun x y H locs lsC rest _ _ kk => lv_lor hx hb hd (by rw [c_lor]; exact kk)) k
  case lshl =>
    obtain rfl := jn_of (k := 1) hn
    simp only [jstp] at hs
    split at hs
    · rename_i y x r
      cases hs
      exact ad_bin (x := jL x) (y := jI y) (z := jL (jlshl x y)) (fun _ _ => c_in64 _) (fun hx' hy' H locs lsC rest kk => lv_lshl hx hb hd (c_lshl x y) kk) k
    · cases hs
  case ldiv =>
    obtain rfl := jn_of (k := 1) hn
    simp only [jstp] at hs
    split at hs
    · rename_i y x r
      split at hs
      · cases hs
      · rename_i hy0
        cases hs
        refine ad_bin (x := jL x) (y := jL y) (z := jL (n64 (Int.tdiv x y))) (fun _ _ => n64_in _) (fun hx' hy' H locs lsC rest kk => lv_ldiv hx hb hd ?_ ?_) k
        · rw [c_l0, c_leq hy' (by unfold in64; omega)]; exact hy0
        · rw [c_ldiv hx' hy']; exact kk
    · cases hs
  case lrem =>
    obtain rfl := jn_of (k := 1) hn
    simp only [jstp] at hs
    split at hs
    · rename_i y x r
      split at hs
      · cases hs
      · rename_i hy0
        cases hs
        refine ad_bin (x := jL x) (y := jL y) (z := jL (Int.tmod x y)) (fun h _ => tmod_in64 h) (fun hx' hy' H locs lsC rest kk => lv_lrem hx hb hd ?_ ?_) k
        · rw [c_l0, c_leq hy' (by unfold in64; omega)]; exact hy0
        · rw [c_lrem hx' hy']; exact kk
    · cases hs
  case lcmp =>
    obtain rfl := jn_of (k := 1) hn
    simp only [jstp] at hs
    split at hs
    · rename_i y x r
      cases hs
      refine ad_bin (x := jL x) (y := jL y) (z := jI (if x < y then -1 else if x = y then 0 else 1)) (fun _ _ => ?_) (fun hx' hy' H locs lsC rest kk => W.lcmp hx hb hd ?_) k
      · show in32 (if x < y then -1 else if x = y then 0 else 1)
        unfold in32; split
        · omega
        · split <;> omega
      · rw [c_cmp hx' hy']; exact kk
    · cases hs
  case dup =>
    obtain rfl := jn_of (k := 1) hn
    simp only [jstp] at hs
    split at hs
    · rename_i u r
      cases hq : Nat.beq (jcat u) 1 with
      | false => rw [hq] at hs; cases hs
      | true =>
        rw [hq] at hs; cases hs
        exact ad_re (st2 := u :: u :: r) (fun h => List.forall_mem_cons.mpr ⟨h _ List.mem_cons_self, h⟩) (fun h H locs lsC kk => lv_dup hx hb hd (by rw [jcv_cat hsc]; exact Nat.eq_of_beq_eq_true hq) kk) k
    · cases hs
  case pop =>
    obtain rfl := jn_of (k := 1) hn
    simp only [jstp] at hs
    split at hs
    · rename_i u r
      cases hq : Nat.beq (jcat u) 1 with
      | false => rw [hq] at hs; cases hs
      | true =>
        rw [hq] at hs; cases hs
        exact ad_re (st2 := r) tail_in (fun h H locs lsC kk => lv_pop hx hb hd (by rw [jcv_cat hsc]; exact Nat.eq_of_beq_eq_true hq) kk) k
    · cases hs
  case dup_x1 =>
    obtain rfl := jn_of (k := 1) hn
    simp only [jstp] at hs
    split at hs
    · rename_i u u2 r
      cases hq : (Nat.beq (jcat u) 1 && Nat.beq (jcat u2) 1) with
      | false => rw [hq] at hs; cases hs
      | true =>
        rw [hq] at hs; cases hs
        rw [Bool.and_eq_true] at hq
        exact ad_re (st2 := u :: u2 :: u :: r) (fun h => List.forall_mem_cons.mpr ⟨h _ List.mem_cons_self, List.forall_mem_cons.mpr ⟨h _ (List.mem_cons_of_mem _ List.mem_cons_self), List.forall_mem_cons.mpr ⟨h _ List.mem_cons_self, tail_in (tail_in h)⟩⟩⟩) (fun h H locs lsC kk => lv_dup_x1 hx hb hd (by rw [jcv_cat hsc]; exact Nat.eq_of_beq_eq_true hq.1) (by rw [jcv_cat hsc]; exact Nat.eq_of_beq_eq_true hq.2) kk) k
    · cases hs
  case dup2 =>
    obtain rfl := jn_of (k := 1) hn
    simp only [jstp] at hs
    split at hs
    · rename_i u u2 r
      cases hq : (Nat.beq (jcat u) 1 && Nat.beq (jcat u2) 1) with
      | false => rw [hq] at hs; cases hs
      | true =>
        rw [hq] at hs; cases hs
        rw [Bool.and_eq_true] at hq
        exact ad_re (st2 := u :: u2 :: u :: u2 :: r) (fun h => List.forall_mem_cons.mpr ⟨h _ List.mem_cons_self, List.forall_mem_cons.mpr ⟨h _ (List.mem_cons_of_mem _ List.mem_cons_self), h⟩⟩) (fun h H locs lsC kk => lv_dup2_11 hx hb hd (by rw [jcv_cat hsc]; exact Nat.eq_of_beq_eq_true hq.1) (by rw [jcv_cat hsc]; exact Nat.eq_of_beq_eq_true hq.2) kk) k
    · cases hs
  case goto z =>
    obtain rfl := jn_of (k := 3) hn
    cases hs
    have hl : (pc : Int) + z = a := of_decide_eq_true hl
    exact ad_re (st2 := st) (fun h => h) (fun h H locs lsC kk => lv_goto hx hb hd hl kk) k
  case ifCond cc z =>
    obtain rfl := jn_of (k := 3) hn
    simp only [jstp] at hs
    split at hs
    · rename_i x r
      have hlt : (pc : Int) + z = a := by cases cc <;> exact of_decide_eq_true hl
      refine ad_br (x := x) (y := 0) (cond := jcond cc x 0) hs (jI x :: r) (fun u hu => List.mem_cons_of_mem _ hu) (fun hst H locs lsC kt kf => ?_) k
      have hxr : in32 x := hst _ List.mem_cons_self
      cases cc
      · exact lv_if_eq hx hb hd hlt (fun q => kt (by rw [c_z0, c_eq hxr in32_0] at q; exact decide_eq_true q)) (fun q => kf (by rw [c_z0, c_eq hxr in32_0] at q; exact decide_eq_false q))
      · exact lv_if_ne hx hb hd hlt (fun q => kt (by rw [c_z0, c_eq hxr in32_0] at q; show (!decide (x = 0)) = true; rw [decide_eq_false q]; rfl)) (fun q => kf (by rw [c_z0, c_eq hxr in32_0] at q; show (!decide (x = 0)) = false; rw [decide_eq_true q]; rfl))
      · exact lv_if_lt hx hb hd hlt (fun q => kt (by rw [c_z0, c_lt hxr in32_0] at q; exact decide_eq_true q)) (fun q => kf (by rw [c_z0, c_lt hxr in32_0] at q; exact decide_eq_false q))
      · exact lv_if_ge hx hb hd hlt (fun q => kt (by rw [c_z0, c_le in32_0 hxr] at q; show (!decide (x < 0)) = true; rw [decide_eq_false (by omega)]; rfl)) (fun q => kf (by rw [c_z0, c_le in32_0 hxr] at q; show (!decide (x < 0)) = false; rw [decide_eq_true (by omega)]; rfl))
      · exact lv_if_gt hx hb hd hlt (fun q => kt (by rw [c_z0, c_lt in32_0 hxr] at q; exact decide_eq_true q)) (fun q => kf (by rw [c_z0, c_lt in32_0 hxr] at q; exact decide_eq_false q))
      · exact lv_if_le hx hb hd hlt (fun q => kt (by rw [c_z0, c_le hxr in32_0] at q; show (!decide (0 < x)) = true; rw [decide_eq_false (by omega)]; rfl)) (fun q => kf (by rw [c_z0, c_le hxr in32_0] at q; show (!decide (0 < x)) = false; rw [decide_eq_true (by omega)]; rfl))
    · cases hs
  case if_icmp cc z =>
    obtain rfl := jn_of (k := 3) hn
    simp only [jstp] at hs
    split at hs
    · rename_i y x r
      have hlt : (pc : Int) + z = a := by cases cc <;> exact of_decide_eq_true hl
      refine ad_br (x := x) (y := y) (cond := jcond cc x y) hs (jI y :: jI x :: r) (fun u hu => List.mem_cons_of_mem _ (List.mem_cons_of_mem _ hu)) (fun hst H locs lsC kt kf => ?_) k
      have hyr : in32 y := hst _ List.mem_cons_self
      have hxr : in32 x := hst _ (List.mem_cons_of_mem _ List.mem_cons_self)
      cases cc
      · exact lv_icmp_eq hx hb hd hlt (fun q => kt (by rw [c_eq hxr hyr] at q; exact decide_eq_true q)) (fun q => kf (by rw [c_eq hxr hyr] at q; exact decide_eq_false q))
      · exact lv_icmp_ne hx hb hd hlt (fun q => kt (by rw [c_eq hxr hyr] at q; show (!decide (x = y)) = true; rw [decide_eq_false q]; rfl)) (fun q => kf (by rw [c_eq hxr hyr] at q; show (!decide (x = y)) = false; rw [decide_eq_true q]; rfl))
      · exact lv_icmp_lt hx hb hd hlt (fun q => kt (by rw [c_lt hxr hyr] at q; exact decide_eq_true q)) (fun q => kf (by rw [c_lt hxr hyr] at q; exact decide_eq_false q))
      · exact lv_icmp_ge hx hb hd hlt (fun q => kt (by rw [c_le hyr hxr] at q; show (!decide (x < y)) = true; rw [decide_eq_false (by omega)]; rfl)) (fun q => kf (by rw [c_le hyr hxr] at q; show (!decide (x < y)) = false; rw [decide_eq_true (by omega)]; rfl))
      · exact lv_icmp_gt hx hb hd hlt (fun q => kt (by rw [c_lt hyr hxr] at q; exact decide_eq_true q)) (fun q => kf (by rw [c_lt hyr hxr] at q; exact decide_eq_false q))
      · exact lv_icmp_le hx hb hd hlt (fun q => kt (by rw [c_le hxr hyr] at q; show (!decide (y < x)) = true; rw [decide_eq_false (by omega)]; rfl)) (fun q => kf (by rw [c_le hxr hyr] at q; show (!decide (y < x)) = false; rw [decide_eq_true (by omega)]; rfl))
    · cases hs
  case tableswitch d lo hi offs =>
    simp only [jstp] at hs
    have hl : (decide ((hi - lo + 1 : Int) = offs.size) && decide (lo ≤ hi)) = true := hl
    rw [Bool.and_eq_true] at hl
    have hl1 := of_decide_eq_true hl.1
    split at hs
    · rename_i x r
      split at hs
      · rename_i t ht
        cases hs
        have ht := jtgt_of ht
        obtain ⟨g1, g2⟩ := jtsw_spec offs.toList lo d x
        rw [Array.length_toList] at g1 g2
        refine ad_re (st := jI x :: r) (st2 := r) tail_in (fun h H locs lsC kk => ?_) k
        have hxr : in32 x := h _ List.mem_cons_self
        by_cases hin : lo ≤ x ∧ x < lo + offs.size
        · have g3 := g1 hin
          refine lv_tableIn hx hb hd (off := jtsw offs.toList lo d x) ?_ ?_ ?_ ht kk
          · rw [c_toInt' hxr]; omega
          · rw [c_toInt' hxr]; omega
          · rw [c_toInt' hxr, ← Array.getElem?_toList]; exact g3
        · rw [g2 hin] at ht
          refine lv_tableOut hx hb hd ?_ ht kk
          rw [c_toInt' hxr]; omega
      · cases hs
    · cases hs
  case lookupswitch d ps =>
    simp only [jstp] at hs
    split at hs
    · rename_i x r
      split at hs
      · rename_i t ht
        cases hs
        have ht := jtgt_of ht
        refine ad_re (st := jI x :: r) (st2 := r) tail_in (fun h H locs lsC kk => ?_) k
        have hxr : in32 x := h _ List.mem_cons_self
        refine lv_lookup hx hb hd hl (off := jlsw ps.toList d x) ?_ ht kk
        rw [c_toInt' hxr]; exact jlsw_spec _ _ _
      · cases hs
    · cases hs
  case getfield z =>
    obtain rfl := jn_of (k := 3) hn
    exact ad_getf hC hd hl hs k
  case putfield z =>
    obtain rfl := jn_of (k := 3) hn
    exact ad_putf hC hd hl hs k
  case getstatic z =>
    obtain rfl := jn_of (k := 3) hn
    obtain ⟨q, hq, e1, e2, e3, hw⟩ := jpG_mem hl
    simp only [jstp] at hs
    split at hs
    · cases hs
      refine ad_push (v := jR 101) trivial (fun H locs lsC rest hR _ kk => ?_) k
      rw [jrefk (by decide)] at kk
      rcases hw with ⟨h0, h1⟩ | h1
      · have hlink : (Cond.fieldLink (jown (jm m).1) z "PointAtWhoIsLost" "COMMAND_STEP" "[I").before args s = true := hts _ h1
        exact va_gets hx hb hE.2.1 hR.2.2.1 hown hlink (fun _ h => h) hd kk
      · obtain ⟨-, -, -, -, -, -, -, -, hE9⟩ := id hE
        have hz := hE9 q hq h1
        rw [e1, e2] at hz
        exact va_getsN hx hb hE.2.1 hR.2.2.1 hown (va_Nw.use rfl hz) (fun _ h => h) hd kk
    · cases hs
      refine ad_push (v := jI 1) (by show in32 1; unfold in32; omega) (fun H locs lsC rest hR _ kk => ?_) k
      have hlink : (Cond.fieldLink (jown (jm m).1) z "java/lang/String" "COMPACT_STRINGS" "Z").before args s = true := by
        rcases hw with ⟨h0, h1⟩ | h1
        · exact hts _ h1
        · exact absurd (List.all_eq_true.mp jpG_n q hq) (by rw [e3, h1]; decide)
      exact va_gets hx hb hE.2.2.2.1 hR.2.2.1 hown hlink (fun _ h => h) hd kk
    · cases hs
      refine ad_push (v := jR 102) trivial (fun H locs lsC rest hR _ kk => ?_) k
      have hlink : (Cond.fieldLink (jown (jm m).1) z "jdk/internal/util/Preconditions" "SIOOBE_FORMATTER" "Ljava/util/function/BiFunction;").before args s = true := by
        rcases hw with ⟨h0, h1⟩ | h1
        · exact hts _ h1
        · exact absurd (List.all_eq_true.mp jpG_n q hq) (by rw [e3, h1]; decide)
      exact va_gets hx hb hE.2.2.2.2.1 hR.2.2.1 hown hlink (fun _ h => h) hd kk
    · cases hs
  case arraylength =>
    obtain rfl := jn_of (k := 1) hn
    exact ad_alen hC hd hs k
  case iaload =>
    obtain rfl := jn_of (k := 1) hn
    exact ad_iald hC hd hs k
  case laload =>
    obtain rfl := jn_of (k := 1) hn
    exact ad_lald hC hd hs k
  case baload =>
    obtain rfl := jn_of (k := 1) hn
    exact ad_bald hC hd hs k
  case iastore =>
    obtain rfl := jn_of (k := 1) hn
    exact ad_iast hC hd hs k
  case bastore =>
    obtain rfl := jn_of (k := 1) hn
    exact ad_bast hC hd hs k
  case lastore =>
    obtain rfl := jn_of (k := 1) hn
    exact ad_last hC hd hs k
  case invokestatic z =>
    obtain rfl := jn_of (k := 3) hn
    exact ad_lib hC hcr hsr hd hl hs k
  all_goals exact absurd hs (fun h => by cases h)
end AT
