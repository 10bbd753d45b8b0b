/-! what holds at the law's entry of what nobody writes -/
def xG : List Cond := flatC (Jvm.Cond.and given_1 narrow_1)
def xtm (i : Nat) : Term := .string "PointAtWhoIsLost$Tape" ([36, 45, 50, 55, 60, 71].getD i 0)
def xval (i : Nat) : Term := .field (xtm i) "java/lang/String" "value" "[B"
def xcs : Term := .static "PointAtWhoIsLost" "COMMAND_STEP" "[I"
set_option maxRecDepth 100000 in
theorem x_hex : ((List.range 6).all fun i => decide (Cond.exactly (xtm i) "java/lang/String" ∈ xG)) = true := by decide +kernel
set_option maxRecDepth 100000 in
theorem x_hco : ((List.range 6).all fun i => decide (Cond.eq (.field (xtm i) "java/lang/String" "coder" "B") (.int 0) ∈ xG)) = true := by decide +kernel
set_option maxRecDepth 100000 in
theorem x_har : ((List.range 6).all fun i => decide (Cond.arrayOf (xval i) .byte ∈ xG)) = true := by decide +kernel
set_option maxRecDepth 100000 in
theorem x_hle : ((List.range 6).all fun i => decide (Cond.eq (.length (xval i)) (.int (Int32.ofNat (jlens.getD i 0))) ∈ xG)) = true := by decide +kernel
set_option maxRecDepth 100000 in
theorem x_hel : ((List.range 6).all fun i => (List.range (jlens.getD i 0)).all fun j => decide (Cond.eq (.elem (xval i) (.int (Int32.ofNat j))) (.int ((jbyt.getD i []).getD j 0)) ∈ xG)) = true := by decide +kernel
set_option maxRecDepth 100000 in
theorem x_hne : ((List.range 6).all fun i => (List.range 6).all fun j => decide (i = j) || decide (Cond.not (Cond.eq (xtm i) (xtm j)) ∈ xG) || decide (Cond.not (Cond.eq (xtm j) (xtm i)) ∈ xG)) = true := by decide +kernel
set_option maxRecDepth 100000 in
theorem x_cmd : ((List.range 5).all fun j => decide (Cond.eq (.elem xcs (.int (Int32.ofNat j))) (.int (Int32.ofInt (jcmd j))) ∈ xG)) = true := by decide +kernel
set_option maxRecDepth 100000 in
theorem x_eq : (jpS.all fun q => (decide (q.1 = 5) && decide ((Term.string (jown q.1) q.2.1) = xtm q.2.2.2) || decide (Cond.eq (xtm q.2.2.2) (.string (jown q.1) q.2.1) ∈ xG)) && Nat.blt q.2.2.2 6) = true := by decide +kernel
set_option maxRecDepth 100000 in
theorem x_rest : [Cond.arrayOf xcs .int, .eq (.length xcs) (.int 5), .eq (.static "java/lang/String" "COMPACT_STRINGS" "Z") (.int 1), .isRef (.static "jdk/internal/util/Preconditions" "SIOOBE_FORMATTER" "Ljava/util/function/BiFunction;")].all (fun w => decide (w ∈ xG)) = true := by decide +kernel
def xtx (i : Nat) : String := (["side", "bog", "dry", "home", "post", "walker"]).getD i ""
set_option maxRecDepth 100000 in
theorem x_str : (jpS.all fun q => decide (Cond.stringRef (jown q.1) q.2.1 (xtx q.2.2.2) ∈ lw_tbl)) = true := by decide +kernel
def xwL : List Cond := [Cond.laysStatic "PointAtWhoIsLost" "COMMAND_STEP" "[I", .laysStatic "java/lang/String" "COMPACT_STRINGS" "Z", .laysStatic "jdk/internal/util/Preconditions" "SIOOBE_FORMATTER" "Ljava/util/function/BiFunction;", .initialized "PointAtWhoIsLost", .initialized "java/lang/String", .initialized "jdk/internal/util/Preconditions",
  .methodLinkNest RX6 11 ky0 "PointAtWhoIsLost", .methodLinkNest RX6 31 ky5 "PointAtWhoIsLost", .methodLinkNest RX6 38 ky4 "PointAtWhoIsLost", .methodLinkNest RX6 45 ky1 "PointAtWhoIsLost", .methodLinkNest RX6 52 ky2 "PointAtWhoIsLost", .arrayClass .int, .arrayClass .boolean, .arrayClass .long]
set_option maxRecDepth 100000 in
theorem x_wL : (xwL.all fun w => decide (w ∈ lw_tbl)) = true := by decide +kernel
theorem x_nestM : (jpM.all fun t => Nat.beq t.2.2.2.2.2.2 0 || Nat.blt t.2.2.2.1 999) = true := by decide +kernel
theorem x_nestG : (jpG.all fun t => Nat.beq t.2.2.2.2 0 || (Nat.beq t.2.2.2.2 1 && Nat.beq t.2.2.2.1 0)) = true := by decide +kernel
theorem vk_S.cg {N : Nat} {len : List Nat} {byt : List (List Int32)} {adK adV f g : Nat → Nat} {A : Nat → Prop} {U : State} {H : Heap} (h : vk_S N len byt adK adV A U H) (h1 : ∀ i, i < N → f i = adK i) (h2 : ∀ i, i < N → g i = adV i) : vk_S N len byt f g A U H :=
  ⟨fun i hi => by rw [h1 i hi, h2 i hi]; exact h.1 i hi, fun i j hi hj e => h.2 i j hi hj (by rw [h1 i hi, h1 j hj] at e; exact e)⟩
section EX
variable {s : State} {b L : Nat} {xs : Nat → Int32} {A : Nat → Prop}
theorem x_arr {ty : FieldType} (h : (Cond.arrayClass ty).before #[Value.ref b] s = true) : ∃ (cA : ClassId) (kA : Class) (comp : ClassId), s.vm.findClass ("[" ++ ty.toString) = some cA ∧ s.vm.classes[cA]? = some kA ∧ kA.kind = .array comp ty := Cond.arrayClass_spec h
theorem x_K {D : va_G} (hts : ∀ w ∈ lw_tbl, w.before #[Value.ref b] s = true) (h0 : va_K D vwCl [] s) : ∃ cs : ClassId × ClassId × ClassId, va_K D vwCl (jtys cs) s := by
  have hw : ∀ w ∈ xwL, w.before #[Value.ref b] s = true := fun w hw => hts w (of_decide_eq_true (List.all_eq_true.mp x_wL w hw))
  obtain ⟨c1, k1, p1, a1, a2, a3⟩ := x_arr (ty := .int) (hw _ (List.mem_of_getElem? (i := 11) rfl))
  obtain ⟨c2, k2, p2, b1, b2, b3⟩ := x_arr (ty := .boolean) (hw _ (List.mem_of_getElem? (i := 12) rfl))
  obtain ⟨c3, k3, p3, d1, d2, d3⟩ := x_arr (ty := .long) (hw _ (List.mem_of_getElem? (i := 13) rfl))
  refine ⟨(c1, c2, c3), h0.1, fun k q hq => ?_⟩
  match k, hq with
  | 0, hq => cases hq; exact ⟨fun n z => ⟨fun k h => (by cases h), k1, a2, p1, a3⟩, a1⟩
  | 1, hq => cases hq; exact ⟨fun n z => ⟨fun k h => (by cases h), k2, b2, p2, b3⟩, b1⟩
  | 2, hq => cases hq; exact ⟨fun n z => ⟨fun k h => (by cases h), k3, d2, p3, d3⟩, d1⟩
  | k + 3, hq => cases hq
theorem x_N (hts : ∀ w ∈ lw_tbl, w.before #[Value.ref b] s = true) : kNs s := by
  have hw : ∀ w ∈ xwL, w.before #[Value.ref b] s = true := fun w hw => hts w (of_decide_eq_true (List.all_eq_true.mp x_wL w hw))
  exact ⟨va_Nw.of rfl (hw _ (List.mem_of_getElem? (i := 6) rfl)), va_Nw.of rfl (hw _ (List.mem_of_getElem? (i := 7) rfl)), va_Nw.of rfl (hw _ (List.mem_of_getElem? (i := 8) rfl)), va_Nw.of rfl (hw _ (List.mem_of_getElem? (i := 9) rfl)), va_Nw.of rfl (hw _ (List.mem_of_getElem? (i := 10) rfl))⟩
theorem x_all (hgv : (Jvm.Cond.and given_1 narrow_1).before #[Value.ref b] s = true) (hts : ∀ w ∈ lw_tbl, w.before #[Value.ref b] s = true) (hX : va_X b L xs s s.heap) (hL : L ≤ 3072) (hA : ∀ a : Nat, a < s.heap.size → ¬ A a) (hbl : b < s.heap.size) :
    ∃ (a1 : Nat) (adK adV : Nat → Nat) (sio : Value), sio.category = 1 ∧ ∀ ad : Nat → Nat, ad 100 = b → ad 101 = a1 → (∀ i, i < 6 → ad (110 + i) = adK i) → (∀ i, i < 6 → ad (130 + i) = adV i) → jEx ad sio L (fun j => (xs j).toInt) A s s.heap := by
  have hw : ∀ w ∈ xwL, w.before #[Value.ref b] s = true := fun w hw => hts w (of_decide_eq_true (List.all_eq_true.mp x_wL w hw))
  have hs : ∀ c ∈ xG, c.before #[Value.ref b] s = true := flat_of_before _ hgv
  have hr : ∀ i {w : Cond}, [Cond.arrayOf xcs .int, .eq (.length xcs) (.int 5), .eq (.static "java/lang/String" "COMPACT_STRINGS" "Z") (.int 1), .isRef (.static "jdk/internal/util/Preconditions" "SIOOBE_FORMATTER" "Ljava/util/function/BiFunction;")][i]? = some w → w.before #[Value.ref b] s = true := fun i w h => hs w (of_decide_eq_true (List.all_eq_true.mp x_rest w (List.mem_of_getElem? h)))
  have r6 : ∀ {i}, i < 6 → i ∈ List.range 6 := fun h => List.mem_range.mpr h
  obtain ⟨a1, ht1, hT1⟩ := va_Tof (N := 5) (f := fun j => .int (Int32.ofInt (jcmd j))) (A := A) (by decide) (hr 0 rfl) (va_eqt (hr 1 rfl)) (fun j hj => va_eqt (hs _ (of_decide_eq_true (List.all_eq_true.mp x_cmd j (List.mem_range.mpr hj))))) hA
  obtain ⟨adK, adV, hS, hev⟩ := vk_Sof (args := #[Value.ref b]) (s := s) (N := 6) (tm := xtm) (len := jlens) (byt := jbyt) (A := A)
    (fun i hi => by rcases (show i = 0 ∨ i = 1 ∨ i = 2 ∨ i = 3 ∨ i = 4 ∨ i = 5 by omega) with rfl | rfl | rfl | rfl | rfl | rfl <;> decide)
    (fun i hi => hs _ (of_decide_eq_true (List.all_eq_true.mp x_hex i (r6 hi)))) (fun i hi => hs _ (of_decide_eq_true (List.all_eq_true.mp x_hco i (r6 hi)))) (fun i hi => hs _ (of_decide_eq_true (List.all_eq_true.mp x_har i (r6 hi)))) (fun i hi => hs _ (of_decide_eq_true (List.all_eq_true.mp x_hle i (r6 hi))))
    (fun i hi j hj => hs _ (of_decide_eq_true (List.all_eq_true.mp (List.all_eq_true.mp x_hel i (r6 hi)) j (List.mem_range.mpr hj))))
    (fun i j hi hj hij => by
      have h := List.all_eq_true.mp (List.all_eq_true.mp x_hne i (r6 hi)) j (r6 hj)
      rw [Bool.or_eq_true, Bool.or_eq_true] at h
      rcases h with (h | h) | h
      · exact absurd (of_decide_eq_true h) hij
      · exact Or.inl (hs _ (of_decide_eq_true h))
      · exact Or.inr (hs _ (of_decide_eq_true h))) hA
  obtain ⟨sio, hsv, hsr⟩ := Cond.isRef_spec (hr 3 rfl)
  refine ⟨a1, adK, adV, sio, ?_, fun ad e0 e1 e2 e3 => ⟨?_, ?_, ?_, ?_, ?_, hS.cg e2 e3, ?_, ?_, ?_⟩⟩
  · cases sio <;> first | rfl | cases hsr
  · obtain ⟨scr, x1, x2, x3, x4, x5⟩ := hX
    rw [e0]
    refine ⟨scr, x1, x2, x3, Nat.le_of_eq x4.symm, by rw [x4], fun j hj => ?_, hA b hbl⟩
    rw [x5 j hj]
    simp only [Int32.ofInt_toInt]
  · rw [e1]; exact va_Zref (hw _ (List.mem_of_getElem? (i := 0) rfl)) (hw _ (List.mem_of_getElem? (i := 3) rfl)) ht1 hA
  · rw [e1]; exact hT1
  · exact va_Zof (hw _ (List.mem_of_getElem? (i := 1) rfl)) (hw _ (List.mem_of_getElem? (i := 4) rfl)) (va_eqt (hr 2 rfl)) hA
  · exact va_Zof (hw _ (List.mem_of_getElem? (i := 2) rfl)) (hw _ (List.mem_of_getElem? (i := 5) rfl)) hsv hA
  · intro q hq
    have h := List.all_eq_true.mp x_eq q hq
    rw [Bool.and_eq_true, Bool.or_eq_true] at h
    obtain ⟨h1, h2⟩ := h
    have h2 : q.2.2.2 < 6 := Nat.le_of_ble_eq_true h2
    refine ⟨xtx q.2.2.2, ?_⟩
    rw [e2 _ h2]
    refine vk_R.of (A := #[Value.ref b]) (hts _ (of_decide_eq_true (List.all_eq_true.mp x_str q hq))) ?_
    rcases h1 with h1 | h1
    · rw [Bool.and_eq_true] at h1
      rw [of_decide_eq_true h1.2]
      exact hev _ h2
    · exact va_eqR (hs _ (of_decide_eq_true h1)) (hev _ h2)
  · intro q hq hn
    have h := List.all_eq_true.mp jpM_ok q hq
    have h9 := List.all_eq_true.mp x_nestM q hq
    rw [hn] at h9 h
    have h9 : q.2.2.2.1 < 999 := by
      rw [Bool.or_eq_true] at h9
      rcases h9 with h9 | h9
      · cases h9
      · exact Nat.le_of_ble_eq_true h9
    rw [Bool.and_eq_true] at h
    have h := h.1
    have h : (decide (lw_tbl[q.2.2.1]? = some (jmcd q.1 q.2.1 q.2.2.2.1 1)) && (jmcd q.1 q.2.1 q.2.2.2.1 1).onTables) = true := h
    rw [Bool.and_eq_true] at h
    have e : jmcd q.1 q.2.1 q.2.2.2.1 1 = .methodLinkNest (jown q.1) q.2.1 (jmy q.2.2.2.1) "PointAtWhoIsLost" := by
      unfold jmcd
      rw [nbeq_ne (by omega), nbeq_ne (by omega), nbeq_ne (by omega), nbeq_ne (by omega)]
      rfl
    rw [e] at h
    exact va_Nw.of h.2 (hts _ (List.mem_of_getElem? (of_decide_eq_true h.1)))
  · intro q hq hn
    have h := List.all_eq_true.mp jpG_ok q hq
    have h9 := List.all_eq_true.mp x_nestG q hq
    rw [hn] at h9 h
    have h9 : q.2.2.2.1 = 0 := by
      rw [Bool.or_eq_true, Bool.and_eq_true] at h9
      rcases h9 with h9 | h9
      · cases h9
      · exact Nat.eq_of_beq_eq_true h9.2
    rw [h9] at h
    rw [Bool.and_eq_true, Bool.and_eq_true] at h
    have h := h.1.1
    have h : (decide (lw_tbl[q.2.2.1]? = some (jgc q.1 q.2.1 0 1)) && (jgc q.1 q.2.1 0 1).onTables) = true := h
    rw [Bool.and_eq_true] at h
    exact va_Nw.of h.2 (hts _ (List.mem_of_getElem? (of_decide_eq_true h.1)))
end EX
