/-! the constructors, by the rows of the machine -/
abbrev kc0 : ByteArray := prog_2_method_1_code
def ky0 : MethodName := ⟨RX0, "<init>", "()V"⟩
abbrev kc1 : ByteArray := prog_3_method_1_code
def ky1 : MethodName := ⟨RX1, "<init>", "()V"⟩
abbrev kc2 : ByteArray := prog_4_method_1_code
def ky2 : MethodName := ⟨RX2, "<init>", "()V"⟩
abbrev kc3 : ByteArray := prog_5_method_1_code
def ky3 : MethodName := ⟨RX3, "<init>", "()V"⟩
abbrev kc4 : ByteArray := prog_6_method_1_code
def ky4 : MethodName := ⟨RX4, "<init>", "()V"⟩
abbrev kc5 : ByteArray := prog_7_method_1_code
def ky5 : MethodName := ⟨RX5, "<init>", "()V"⟩
abbrev kc6 : ByteArray := prog_1_method_1_code
def ky6 : MethodName := ⟨RX6, "<init>", "()V"⟩
abbrev kc7 : ByteArray := prog_9_method_1_code
def ky7 : MethodName := ⟨RX7, "<init>", "()V"⟩
abbrev kcF : ByteArray := prog_16_method_103_code
def kyF : MethodName := ⟨"java/util/Arrays", "fill", "([II)V"⟩
def knL : List Cond := [Cond.methodLink RX0 3 objectInit,
  Cond.instanceMethod objectInit,
  Cond.code objectInit ⟨#[0xb1]⟩ 1 none,
  Cond.fieldLink RX0 9 "PointAtWhoIsLost$Land" "side" "I",
  Cond.fieldLink RX0 15 "PointAtWhoIsLost$Land" "seed" "I",
  Cond.arrayClass .int,
  Cond.fieldLink RX0 18 "PointAtWhoIsLost$Land" "bogs" "[I",
  Cond.fieldLink RX0 22 "PointAtWhoIsLost$Land" "postKind" "[I",
  Cond.fieldLink RX0 25 "PointAtWhoIsLost$Land" "postA" "[I",
  Cond.fieldLink RX0 28 "PointAtWhoIsLost$Land" "postCell" "[I",
  Cond.fieldLink RX0 31 "PointAtWhoIsLost$Land" "walkerCell" "[I",
  Cond.fieldLink RX0 34 "PointAtWhoIsLost$Land" "walkerSure" "[I",
  Cond.methodLink RX1 3 objectInit,
  Cond.fieldLink RX1 9 "PointAtWhoIsLost$Lookout" "cellAt" "[I",
  Cond.fieldLink RX1 15 "PointAtWhoIsLost$Lookout" "arms" "[I",
  Cond.fieldLink RX1 18 "PointAtWhoIsLost$Lookout" "groupAt" "[I",
  Cond.fieldLink RX1 21 "PointAtWhoIsLost$Lookout" "sizes" "[I",
  Cond.fieldLink RX1 24 "PointAtWhoIsLost$Lookout" "byArm" "[I",
  Cond.fieldLink RX1 27 "PointAtWhoIsLost$Lookout" "newGroup" "[I",
  Cond.fieldLink RX1 30 "PointAtWhoIsLost$Lookout" "marks" "[I",
  Cond.methodLink RX2 3 objectInit,
  Cond.fieldLink RX2 9 "PointAtWhoIsLost$Paths" "steps" "[I",
  Cond.fieldLink RX2 15 "PointAtWhoIsLost$Paths" "queue" "[I",
  Cond.methodLink RX3 3 objectInit,
  Cond.fieldLink RX3 9 "PointAtWhoIsLost$Shelves" "content" "[I",
  Cond.fieldLink RX3 15 "PointAtWhoIsLost$Shelves" "length" "[I",
  Cond.arrayClass .long,
  Cond.fieldLink RX3 18 "PointAtWhoIsLost$Shelves" "elements" "[J",
  Cond.code kyF kcF 4 none,
  Cond.initialized "java/util/Arrays",
  Cond.methodLink RX3 22 kyF,
  Cond.static kyF,
  Cond.methodLink RX4 3 objectInit,
  Cond.fieldLink RX4 9 "PointAtWhoIsLost$Sight" "lostCell" "[I",
  Cond.methodLink RX5 3 objectInit,
  Cond.fieldLink RX5 9 "PointAtWhoIsLost$Tape" "bytes" "[I",
  Cond.methodLink RX6 3 objectInit,
  Cond.classLink RX6 9 RX0,
  Cond.instantiable RX0 11,
  Cond.initialized RX0,
  Cond.instanceMethod ky0,
  Cond.code ky0 kc0 1 none,
  Cond.fieldLink RX6 12 "PointAtWhoIsLost" "land" "LPointAtWhoIsLost$Land;",
  Cond.fieldLink RX6 16 "PointAtWhoIsLost" "kept" "LPointAtWhoIsLost$Land;",
  Cond.fieldLink RX6 19 "PointAtWhoIsLost" "draft" "LPointAtWhoIsLost$Land;",
  Cond.classLink RX6 22 RX3,
  Cond.instantiable RX3 3,
  Cond.initialized RX3,
  Cond.instanceMethod ky3,
  Cond.code ky3 kc3 1 none,
  Cond.methodLink RX6 24 ky3,
  Cond.fieldLink RX6 25 "PointAtWhoIsLost" "shelves" "LPointAtWhoIsLost$Shelves;",
  Cond.classLink RX6 29 RX5,
  Cond.instantiable RX5 4,
  Cond.initialized RX5,
  Cond.instanceMethod ky5,
  Cond.code ky5 kc5 1 none,
  Cond.fieldLink RX6 32 "PointAtWhoIsLost" "tape" "LPointAtWhoIsLost$Tape;",
  Cond.classLink RX6 36 RX4,
  Cond.instantiable RX4 2,
  Cond.initialized RX4,
  Cond.instanceMethod ky4,
  Cond.code ky4 kc4 1 none,
  Cond.fieldLink RX6 39 "PointAtWhoIsLost" "sight" "LPointAtWhoIsLost$Sight;",
  Cond.classLink RX6 43 RX1,
  Cond.instantiable RX1 10,
  Cond.initialized RX1,
  Cond.instanceMethod ky1,
  Cond.code ky1 kc1 1 none,
  Cond.fieldLink RX6 46 "PointAtWhoIsLost" "lookout" "LPointAtWhoIsLost$Lookout;",
  Cond.classLink RX6 50 RX2,
  Cond.instantiable RX2 2,
  Cond.initialized RX2,
  Cond.instanceMethod ky2,
  Cond.code ky2 kc2 1 none,
  Cond.fieldLink RX6 53 "PointAtWhoIsLost" "paths" "LPointAtWhoIsLost$Paths;",
  Cond.fieldLink RX6 57 "PointAtWhoIsLost" "refusals" "[I",
  Cond.fieldLink RX6 61 "PointAtWhoIsLost" "fitting" "[I",
  Cond.fieldLink RX6 64 "PointAtWhoIsLost" "tally" "[I",
  Cond.fieldLink RX6 67 "PointAtWhoIsLost" "longest" "[I",
  Cond.methodLink RX7 1 objectInit,
  Cond.arrayClass .boolean,
  Cond.fieldLink RX7 7 "PointAtWhoIsLostModel" "bogs" "[Z",
  Cond.fieldLink RX7 13 "PointAtWhoIsLostModel" "kind" "[I",
  Cond.fieldLink RX7 17 "PointAtWhoIsLostModel" "own" "[I",
  Cond.fieldLink RX7 20 "PointAtWhoIsLostModel" "cell" "[I",
  Cond.fieldLink RX7 23 "PointAtWhoIsLostModel" "place" "[I",
  Cond.fieldLink RX7 26 "PointAtWhoIsLostModel" "certain" "[I",
  Cond.fieldLink RX7 29 "PointAtWhoIsLostModel" "tape" "[I",
  Cond.fieldLink RX7 32 "PointAtWhoIsLostModel" "holding" "[I",
  Cond.fieldLink RX7 35 "PointAtWhoIsLostModel" "rowLength" "[I",
  Cond.fieldLink RX7 38 "PointAtWhoIsLostModel" "rowOf" "[J",
  Cond.fieldLink RX7 42 "PointAtWhoIsLostModel" "refusals" "[I",
  Cond.fieldLink RX7 45 "PointAtWhoIsLostModel" "old" "[I",
  Cond.fieldLink RX7 48 "PointAtWhoIsLostModel" "ahead" "[I",
  Cond.fieldLink RX7 51 "PointAtWhoIsLostModel" "lostAt" "[I",
  Cond.fieldLink RX7 54 "PointAtWhoIsLostModel" "far" "[I",
  Cond.fieldLink RX7 57 "PointAtWhoIsLostModel" "group" "[I",
  Cond.fieldLink RX7 60 "PointAtWhoIsLostModel" "n" "I",
  Cond.fieldLink RX7 64 "PointAtWhoIsLostModel" "seed" "I",
  Cond.classLink "PointAtWhoIsLostLaw" 7 RX6,
  Cond.instantiable RX6 13,
  Cond.initialized RX6,
  Cond.methodLink "PointAtWhoIsLostLaw" 9 ky6,
  Cond.instanceMethod ky6,
  Cond.code ky6 kc6 1 none,
  Cond.classLink "PointAtWhoIsLostLaw" 10 RX7,
  Cond.instantiable RX7 28,
  Cond.initialized RX7,
  Cond.methodLink "PointAtWhoIsLostLaw" 12 ky7,
  Cond.instanceMethod ky7,
  Cond.code ky7 kc7 2 none]
set_option maxRecDepth 100000 in
theorem kn_ok : (knL.all fun w => decide (w ∈ lw_tbl) && goodWord w) = true := by decide +kernel
theorem kn_in (i : Nat) {w : Cond} (h : knL[i]? = some w) : w ∈ tbG := by
  have h1 := List.all_eq_true.mp kn_ok w (List.mem_of_getElem? h)
  rw [Bool.and_eq_true] at h1
  exact List.mem_filter.mpr ⟨of_decide_eq_true h1.1, h1.2⟩
theorem kgood {w : Cond} (h : w ∈ tbG) : GoodIn tbG (w :: tbG) := by
  intro u hu
  have hm : u ∈ tbG := by
    rcases List.mem_cons.mp hu with h1 | h1
    · rw [h1]; exact h
    · exact h1
  exact ⟨hm, good_of_word (List.mem_filter.mp hm).2⟩
section KA
variable {D : va_G} {cs : ClassId × ClassId × ClassId} {s : State} {cA : ClassId}
theorem k_int (h : va_K D vwCl (jtys cs ++ [(cA, .int)]) s) : cA = cs.1 := Option.some.inj ((h.2 3 _ rfl).2.symm.trans (h.2 0 _ rfl).2)
theorem k_boolean (h : va_K D vwCl (jtys cs ++ [(cA, .boolean)]) s) : cA = cs.2.1 := Option.some.inj ((h.2 3 _ rfl).2.symm.trans (h.2 1 _ rfl).2)
theorem k_long (h : va_K D vwCl (jtys cs ++ [(cA, .long)]) s) : cA = cs.2.2 := Option.some.inj ((h.2 3 _ rfl).2.symm.trans (h.2 2 _ rfl).2)
theorem va_P.eqA {cl : List vw_C} {A : Nat → Prop} {ws : va_W} {a n : Nat} {f g : Nat → Int32} {H : Heap} (hP : va_P D cl ws H) (hD : va_D A ws) (k : Nat) (h : ws[k]? = some (a, .inl (cA, n, .inl f))) (hg : ∀ j, j < n → f j = g j) : va_P D cl (ws.set k (a, .inl (cA, n, .inl g))) H := by
  refine hP.set hD h ?_ (fun _ _ => rfl)
  have h0 : H[a]? = some (vp_cell cA (n, .inl f)) := hP k _ h
  show H[a]? = some (vp_cell cA (n, .inl g))
  rw [h0]
  have e : (fun j : _root_.Fin n => Value.int (f j.val)) = fun j : _root_.Fin n => Value.int (g j.val) := funext fun j => by rw [hg j.val j.isLt]
  show some (arrV cA n (fun j => .int (f j))) = some (arrV cA n (fun j => .int (g j)))
  unfold arrV
  rw [e]
end KA
/-- the links of nest mates -/
def kNs (U : State) : Prop := va_Nw (.methodLinkNest RX6 11 ky0 "PointAtWhoIsLost") U ∧ va_Nw (.methodLinkNest RX6 31 ky5 "PointAtWhoIsLost") U ∧ va_Nw (.methodLinkNest RX6 38 ky4 "PointAtWhoIsLost") U ∧ va_Nw (.methodLinkNest RX6 45 ky1 "PointAtWhoIsLost") U ∧ va_Nw (.methodLinkNest RX6 52 ky2 "PointAtWhoIsLost") U
theorem kNs.n0 {U : State} (h : kNs U) : va_Nw (.methodLinkNest RX6 11 ky0 "PointAtWhoIsLost") U := h.1
theorem kNs.n5 {U : State} (h : kNs U) : va_Nw (.methodLinkNest RX6 31 ky5 "PointAtWhoIsLost") U := h.2.1
theorem kNs.n4 {U : State} (h : kNs U) : va_Nw (.methodLinkNest RX6 38 ky4 "PointAtWhoIsLost") U := h.2.2.1
theorem kNs.n1 {U : State} (h : kNs U) : va_Nw (.methodLinkNest RX6 45 ky1 "PointAtWhoIsLost") U := h.2.2.2.1
theorem kNs.n2 {U : State} (h : kNs U) : va_Nw (.methodLinkNest RX6 52 ky2 "PointAtWhoIsLost") U := h.2.2.2.2
theorem kNs.same {u U : State} (h : kNs u) (hv : U.vm = u.vm) : kNs U := ⟨va_Nw.same rfl hv.symm h.n0, va_Nw.same rfl hv.symm h.n5, va_Nw.same rfl hv.symm h.n4, va_Nw.same rfl hv.symm h.n1, va_Nw.same rfl hv.symm h.n2⟩
theorem kNs.warm {u U : State} (h : kNs u) (hW : u.WarmedH U.vm) : kNs U := ⟨va_Nw.warmM hW h.n0, va_Nw.warmM hW h.n5, va_Nw.warmM hW h.n4, va_Nw.warmM hW h.n1, va_Nw.warmM hW h.n2⟩
theorem kf0 : ∀ j, j < 11 → defaultValue (tyX0 j) = vp_V [.int 0, .int 0, .int 0, .int 0, .int 0, .null, .null, .null, .null, .null, .null] j := fun j hj => by
  rcases (show j = 0 ∨ j = 1 ∨ j = 2 ∨ j = 3 ∨ j = 4 ∨ j = 5 ∨ j = 6 ∨ j = 7 ∨ j = 8 ∨ j = 9 ∨ j = 10 by omega) with rfl | rfl | rfl | rfl | rfl | rfl | rfl | rfl | rfl | rfl | rfl <;> rfl
theorem kf1 : ∀ j, j < 10 → defaultValue (tyX1 j) = vp_V [.int 0, .null, .int 0, .null, .null, .null, .null, .null, .null, .int 0] j := fun j hj => by
  rcases (show j = 0 ∨ j = 1 ∨ j = 2 ∨ j = 3 ∨ j = 4 ∨ j = 5 ∨ j = 6 ∨ j = 7 ∨ j = 8 ∨ j = 9 by omega) with rfl | rfl | rfl | rfl | rfl | rfl | rfl | rfl | rfl | rfl <;> rfl
theorem kf2 : ∀ j, j < 2 → defaultValue (tyX2 j) = vp_V [.null, .null] j := fun j hj => by
  rcases (show j = 0 ∨ j = 1 by omega) with rfl | rfl <;> rfl
theorem kf3 : ∀ j, j < 3 → defaultValue (tyX3 j) = vp_V [.null, .null, .null] j := fun j hj => by
  rcases (show j = 0 ∨ j = 1 ∨ j = 2 by omega) with rfl | rfl | rfl <;> rfl
theorem kf4 : ∀ j, j < 2 → defaultValue (tyX4 j) = vp_V [.null, .int 0] j := fun j hj => by
  rcases (show j = 0 ∨ j = 1 by omega) with rfl | rfl <;> rfl
theorem kf5 : ∀ j, j < 4 → defaultValue (tyX5 j) = vp_V [.int 0, .int 0, .int 0, .null] j := fun j hj => by
  rcases (show j = 0 ∨ j = 1 ∨ j = 2 ∨ j = 3 by omega) with rfl | rfl | rfl | rfl <;> rfl
theorem kf6 : ∀ j, j < 13 → defaultValue (tyX6 j) = vp_V [.null, .null, .null, .int 0, .null, .null, .null, .null, .null, .null, .null, .null, .null] j := fun j hj => by
  rcases (show j = 0 ∨ j = 1 ∨ j = 2 ∨ j = 3 ∨ j = 4 ∨ j = 5 ∨ j = 6 ∨ j = 7 ∨ j = 8 ∨ j = 9 ∨ j = 10 ∨ j = 11 ∨ j = 12 by omega) with rfl | rfl | rfl | rfl | rfl | rfl | rfl | rfl | rfl | rfl | rfl | rfl | rfl <;> rfl
theorem kf7 : ∀ j, j < 28 → defaultValue (tyX7 j) = vp_V [.int 0, .null, .int 0, .int 0, .null, .null, .null, .int 0, .null, .null, .int 0, .int 0, .null, .int 0, .int 0, .int 0, .int 0, .null, .null, .null, .null, .int 0, .null, .null, .int 0, .null, .null, .null] j := fun j hj => by
  rcases (show j = 0 ∨ j = 1 ∨ j = 2 ∨ j = 3 ∨ j = 4 ∨ j = 5 ∨ j = 6 ∨ j = 7 ∨ j = 8 ∨ j = 9 ∨ j = 10 ∨ j = 11 ∨ j = 12 ∨ j = 13 ∨ j = 14 ∨ j = 15 ∨ j = 16 ∨ j = 17 ∨ j = 18 ∨ j = 19 ∨ j = 20 ∨ j = 21 ∨ j = 22 ∨ j = 23 ∨ j = 24 ∨ j = 25 ∨ j = 26 ∨ j = 27 by omega) with rfl | rfl | rfl | rfl | rfl | rfl | rfl | rfl | rfl | rfl | rfl | rfl | rfl | rfl | rfl | rfl | rfl | rfl | rfl | rfl | rfl | rfl | rfl | rfl | rfl | rfl | rfl | rfl <;> rfl
theorem kdF_0 : decode kcF 0 = .ok (.iconst 0, 1) := by decide +kernel
theorem kdF_1 : decode kcF 1 = .ok (.istore_n 2, 1) := by decide +kernel
theorem kdF_2 : decode kcF 2 = .ok (.aload_n 0, 1) := by decide +kernel
theorem kdF_3 : decode kcF 3 = .ok (.arraylength, 1) := by decide +kernel
theorem kdF_4 : decode kcF 4 = .ok (.istore_n 3, 1) := by decide +kernel
theorem kdF_5 : decode kcF 5 = .ok (.iload_n 2, 1) := by decide +kernel
theorem kdF_6 : decode kcF 6 = .ok (.iload_n 3, 1) := by decide +kernel
theorem kdF_7 : decode kcF 7 = .ok (.if_icmp .ge 13, 3) := by decide +kernel
theorem kdF_10 : decode kcF 10 = .ok (.aload_n 0, 1) := by decide +kernel
theorem kdF_11 : decode kcF 11 = .ok (.iload_n 2, 1) := by decide +kernel
theorem kdF_12 : decode kcF 12 = .ok (.iload_n 1, 1) := by decide +kernel
theorem kdF_13 : decode kcF 13 = .ok (.iastore, 1) := by decide +kernel
theorem kdF_14 : decode kcF 14 = .ok (.iinc 2 1, 3) := by decide +kernel
theorem kdF_17 : decode kcF 17 = .ok (.goto (-12), 3) := by decide +kernel
theorem kdF_20 : decode kcF 20 = .ok (.return_, 1) := by decide +kernel
theorem kd0_0 : decode kc0 0 = .ok (.aload_n 0, 1) := by decide +kernel
theorem kd0_1 : decode kc0 1 = .ok (.invokespecial 3, 3) := by decide +kernel
theorem kd0_4 : decode kc0 4 = .ok (.aload_n 0, 1) := by decide +kernel
theorem kd0_5 : decode kc0 5 = .ok (.iconst 5, 1) := by decide +kernel
theorem kd0_6 : decode kc0 6 = .ok (.putfield 9, 3) := by decide +kernel
theorem kd0_9 : decode kc0 9 = .ok (.aload_n 0, 1) := by decide +kernel
theorem kd0_10 : decode kc0 10 = .ok (.iconst 1, 1) := by decide +kernel
theorem kd0_11 : decode kc0 11 = .ok (.putfield 15, 3) := by decide +kernel
theorem kd0_14 : decode kc0 14 = .ok (.aload_n 0, 1) := by decide +kernel
theorem kd0_15 : decode kc0 15 = .ok (.bipush 67, 2) := by decide +kernel
theorem kd0_17 : decode kc0 17 = .ok (.newarray .int, 2) := by decide +kernel
theorem kd0_19 : decode kc0 19 = .ok (.putfield 18, 3) := by decide +kernel
theorem kd0_22 : decode kc0 22 = .ok (.aload_n 0, 1) := by decide +kernel
theorem kd0_23 : decode kc0 23 = .ok (.bipush 8, 2) := by decide +kernel
theorem kd0_25 : decode kc0 25 = .ok (.newarray .int, 2) := by decide +kernel
theorem kd0_27 : decode kc0 27 = .ok (.putfield 22, 3) := by decide +kernel
theorem kd0_30 : decode kc0 30 = .ok (.aload_n 0, 1) := by decide +kernel
theorem kd0_31 : decode kc0 31 = .ok (.bipush 8, 2) := by decide +kernel
theorem kd0_33 : decode kc0 33 = .ok (.newarray .int, 2) := by decide +kernel
theorem kd0_35 : decode kc0 35 = .ok (.putfield 25, 3) := by decide +kernel
theorem kd0_38 : decode kc0 38 = .ok (.aload_n 0, 1) := by decide +kernel
theorem kd0_39 : decode kc0 39 = .ok (.bipush 8, 2) := by decide +kernel
theorem kd0_41 : decode kc0 41 = .ok (.newarray .int, 2) := by decide +kernel
theorem kd0_43 : decode kc0 43 = .ok (.putfield 28, 3) := by decide +kernel
theorem kd0_46 : decode kc0 46 = .ok (.aload_n 0, 1) := by decide +kernel
theorem kd0_47 : decode kc0 47 = .ok (.iconst 4, 1) := by decide +kernel
theorem kd0_48 : decode kc0 48 = .ok (.newarray .int, 2) := by decide +kernel
theorem kd0_50 : decode kc0 50 = .ok (.putfield 31, 3) := by decide +kernel
theorem kd0_53 : decode kc0 53 = .ok (.aload_n 0, 1) := by decide +kernel
theorem kd0_54 : decode kc0 54 = .ok (.iconst 4, 1) := by decide +kernel
theorem kd0_55 : decode kc0 55 = .ok (.newarray .int, 2) := by decide +kernel
theorem kd0_57 : decode kc0 57 = .ok (.putfield 34, 3) := by decide +kernel
theorem kd0_60 : decode kc0 60 = .ok (.return_, 1) := by decide +kernel
theorem kd1_0 : decode kc1 0 = .ok (.aload_n 0, 1) := by decide +kernel
theorem kd1_1 : decode kc1 1 = .ok (.invokespecial 3, 3) := by decide +kernel
theorem kd1_4 : decode kc1 4 = .ok (.aload_n 0, 1) := by decide +kernel
theorem kd1_5 : decode kc1 5 = .ok (.bipush 49, 2) := by decide +kernel
theorem kd1_7 : decode kc1 7 = .ok (.newarray .int, 2) := by decide +kernel
theorem kd1_9 : decode kc1 9 = .ok (.putfield 9, 3) := by decide +kernel
theorem kd1_12 : decode kc1 12 = .ok (.aload_n 0, 1) := by decide +kernel
theorem kd1_13 : decode kc1 13 = .ok (.sipush 392, 3) := by decide +kernel
theorem kd1_16 : decode kc1 16 = .ok (.newarray .int, 2) := by decide +kernel
theorem kd1_18 : decode kc1 18 = .ok (.putfield 15, 3) := by decide +kernel
theorem kd1_21 : decode kc1 21 = .ok (.aload_n 0, 1) := by decide +kernel
theorem kd1_22 : decode kc1 22 = .ok (.bipush 49, 2) := by decide +kernel
theorem kd1_24 : decode kc1 24 = .ok (.newarray .int, 2) := by decide +kernel
theorem kd1_26 : decode kc1 26 = .ok (.putfield 18, 3) := by decide +kernel
theorem kd1_29 : decode kc1 29 = .ok (.aload_n 0, 1) := by decide +kernel
theorem kd1_30 : decode kc1 30 = .ok (.bipush 49, 2) := by decide +kernel
theorem kd1_32 : decode kc1 32 = .ok (.newarray .int, 2) := by decide +kernel
theorem kd1_34 : decode kc1 34 = .ok (.putfield 21, 3) := by decide +kernel
theorem kd1_37 : decode kc1 37 = .ok (.aload_n 0, 1) := by decide +kernel
theorem kd1_38 : decode kc1 38 = .ok (.bipush 10, 2) := by decide +kernel
theorem kd1_40 : decode kc1 40 = .ok (.newarray .int, 2) := by decide +kernel
theorem kd1_42 : decode kc1 42 = .ok (.putfield 24, 3) := by decide +kernel
theorem kd1_45 : decode kc1 45 = .ok (.aload_n 0, 1) := by decide +kernel
theorem kd1_46 : decode kc1 46 = .ok (.sipush 490, 3) := by decide +kernel
theorem kd1_49 : decode kc1 49 = .ok (.newarray .int, 2) := by decide +kernel
theorem kd1_51 : decode kc1 51 = .ok (.putfield 27, 3) := by decide +kernel
theorem kd1_54 : decode kc1 54 = .ok (.aload_n 0, 1) := by decide +kernel
theorem kd1_55 : decode kc1 55 = .ok (.sipush 490, 3) := by decide +kernel
theorem kd1_58 : decode kc1 58 = .ok (.newarray .int, 2) := by decide +kernel
theorem kd1_60 : decode kc1 60 = .ok (.putfield 30, 3) := by decide +kernel
theorem kd1_63 : decode kc1 63 = .ok (.return_, 1) := by decide +kernel
theorem kd2_0 : decode kc2 0 = .ok (.aload_n 0, 1) := by decide +kernel
theorem kd2_1 : decode kc2 1 = .ok (.invokespecial 3, 3) := by decide +kernel
theorem kd2_4 : decode kc2 4 = .ok (.aload_n 0, 1) := by decide +kernel
theorem kd2_5 : decode kc2 5 = .ok (.bipush 67, 2) := by decide +kernel
theorem kd2_7 : decode kc2 7 = .ok (.newarray .int, 2) := by decide +kernel
theorem kd2_9 : decode kc2 9 = .ok (.putfield 9, 3) := by decide +kernel
theorem kd2_12 : decode kc2 12 = .ok (.aload_n 0, 1) := by decide +kernel
theorem kd2_13 : decode kc2 13 = .ok (.bipush 67, 2) := by decide +kernel
theorem kd2_15 : decode kc2 15 = .ok (.newarray .int, 2) := by decide +kernel
theorem kd2_17 : decode kc2 17 = .ok (.putfield 15, 3) := by decide +kernel
theorem kd2_20 : decode kc2 20 = .ok (.return_, 1) := by decide +kernel
theorem kd3_0 : decode kc3 0 = .ok (.aload_n 0, 1) := by decide +kernel
theorem kd3_1 : decode kc3 1 = .ok (.invokespecial 3, 3) := by decide +kernel
theorem kd3_4 : decode kc3 4 = .ok (.aload_n 0, 1) := by decide +kernel
theorem kd3_5 : decode kc3 5 = .ok (.bipush 8, 2) := by decide +kernel
theorem kd3_7 : decode kc3 7 = .ok (.newarray .int, 2) := by decide +kernel
theorem kd3_9 : decode kc3 9 = .ok (.putfield 9, 3) := by decide +kernel
theorem kd3_12 : decode kc3 12 = .ok (.aload_n 0, 1) := by decide +kernel
theorem kd3_13 : decode kc3 13 = .ok (.bipush 8, 2) := by decide +kernel
theorem kd3_15 : decode kc3 15 = .ok (.newarray .int, 2) := by decide +kernel
theorem kd3_17 : decode kc3 17 = .ok (.putfield 15, 3) := by decide +kernel
theorem kd3_20 : decode kc3 20 = .ok (.aload_n 0, 1) := by decide +kernel
theorem kd3_21 : decode kc3 21 = .ok (.sipush 320, 3) := by decide +kernel
theorem kd3_24 : decode kc3 24 = .ok (.newarray .long, 2) := by decide +kernel
theorem kd3_26 : decode kc3 26 = .ok (.putfield 18, 3) := by decide +kernel
theorem kd3_29 : decode kc3 29 = .ok (.aload_n 0, 1) := by decide +kernel
theorem kd3_30 : decode kc3 30 = .ok (.getfield 9, 3) := by decide +kernel
theorem kd3_33 : decode kc3 33 = .ok (.iconst (-1), 1) := by decide +kernel
theorem kd3_34 : decode kc3 34 = .ok (.invokestatic 22, 3) := by decide +kernel
theorem kd3_37 : decode kc3 37 = .ok (.return_, 1) := by decide +kernel
theorem kd4_0 : decode kc4 0 = .ok (.aload_n 0, 1) := by decide +kernel
theorem kd4_1 : decode kc4 1 = .ok (.invokespecial 3, 3) := by decide +kernel
theorem kd4_4 : decode kc4 4 = .ok (.aload_n 0, 1) := by decide +kernel
theorem kd4_5 : decode kc4 5 = .ok (.iconst 4, 1) := by decide +kernel
theorem kd4_6 : decode kc4 6 = .ok (.newarray .int, 2) := by decide +kernel
theorem kd4_8 : decode kc4 8 = .ok (.putfield 9, 3) := by decide +kernel
theorem kd4_11 : decode kc4 11 = .ok (.return_, 1) := by decide +kernel
theorem kd5_0 : decode kc5 0 = .ok (.aload_n 0, 1) := by decide +kernel
theorem kd5_1 : decode kc5 1 = .ok (.invokespecial 3, 3) := by decide +kernel
theorem kd5_4 : decode kc5 4 = .ok (.aload_n 0, 1) := by decide +kernel
theorem kd5_5 : decode kc5 5 = .ok (.sipush 250, 3) := by decide +kernel
theorem kd5_8 : decode kc5 8 = .ok (.newarray .int, 2) := by decide +kernel
theorem kd5_10 : decode kc5 10 = .ok (.putfield 9, 3) := by decide +kernel
theorem kd5_13 : decode kc5 13 = .ok (.return_, 1) := by decide +kernel
theorem kd6_0 : decode kc6 0 = .ok (.aload_n 0, 1) := by decide +kernel
theorem kd6_1 : decode kc6 1 = .ok (.invokespecial 3, 3) := by decide +kernel
theorem kd6_4 : decode kc6 4 = .ok (.aload_n 0, 1) := by decide +kernel
theorem kd6_5 : decode kc6 5 = .ok (.new 9, 3) := by decide +kernel
theorem kd6_8 : decode kc6 8 = .ok (.dup, 1) := by decide +kernel
theorem kd6_9 : decode kc6 9 = .ok (.invokespecial 11, 3) := by decide +kernel
theorem kd6_12 : decode kc6 12 = .ok (.putfield 12, 3) := by decide +kernel
theorem kd6_15 : decode kc6 15 = .ok (.aload_n 0, 1) := by decide +kernel
theorem kd6_16 : decode kc6 16 = .ok (.new 9, 3) := by decide +kernel
theorem kd6_19 : decode kc6 19 = .ok (.dup, 1) := by decide +kernel
theorem kd6_20 : decode kc6 20 = .ok (.invokespecial 11, 3) := by decide +kernel
theorem kd6_23 : decode kc6 23 = .ok (.putfield 16, 3) := by decide +kernel
theorem kd6_26 : decode kc6 26 = .ok (.aload_n 0, 1) := by decide +kernel
theorem kd6_27 : decode kc6 27 = .ok (.new 9, 3) := by decide +kernel
theorem kd6_30 : decode kc6 30 = .ok (.dup, 1) := by decide +kernel
theorem kd6_31 : decode kc6 31 = .ok (.invokespecial 11, 3) := by decide +kernel
theorem kd6_34 : decode kc6 34 = .ok (.putfield 19, 3) := by decide +kernel
theorem kd6_37 : decode kc6 37 = .ok (.aload_n 0, 1) := by decide +kernel
theorem kd6_38 : decode kc6 38 = .ok (.new 22, 3) := by decide +kernel
theorem kd6_41 : decode kc6 41 = .ok (.dup, 1) := by decide +kernel
theorem kd6_42 : decode kc6 42 = .ok (.invokespecial 24, 3) := by decide +kernel
theorem kd6_45 : decode kc6 45 = .ok (.putfield 25, 3) := by decide +kernel
theorem kd6_48 : decode kc6 48 = .ok (.aload_n 0, 1) := by decide +kernel
theorem kd6_49 : decode kc6 49 = .ok (.new 29, 3) := by decide +kernel
theorem kd6_52 : decode kc6 52 = .ok (.dup, 1) := by decide +kernel
theorem kd6_53 : decode kc6 53 = .ok (.invokespecial 31, 3) := by decide +kernel
theorem kd6_56 : decode kc6 56 = .ok (.putfield 32, 3) := by decide +kernel
theorem kd6_59 : decode kc6 59 = .ok (.aload_n 0, 1) := by decide +kernel
theorem kd6_60 : decode kc6 60 = .ok (.new 36, 3) := by decide +kernel
theorem kd6_63 : decode kc6 63 = .ok (.dup, 1) := by decide +kernel
theorem kd6_64 : decode kc6 64 = .ok (.invokespecial 38, 3) := by decide +kernel
theorem kd6_67 : decode kc6 67 = .ok (.putfield 39, 3) := by decide +kernel
theorem kd6_70 : decode kc6 70 = .ok (.aload_n 0, 1) := by decide +kernel
theorem kd6_71 : decode kc6 71 = .ok (.new 43, 3) := by decide +kernel
theorem kd6_74 : decode kc6 74 = .ok (.dup, 1) := by decide +kernel
theorem kd6_75 : decode kc6 75 = .ok (.invokespecial 45, 3) := by decide +kernel
theorem kd6_78 : decode kc6 78 = .ok (.putfield 46, 3) := by decide +kernel
theorem kd6_81 : decode kc6 81 = .ok (.aload_n 0, 1) := by decide +kernel
theorem kd6_82 : decode kc6 82 = .ok (.new 50, 3) := by decide +kernel
theorem kd6_85 : decode kc6 85 = .ok (.dup, 1) := by decide +kernel
theorem kd6_86 : decode kc6 86 = .ok (.invokespecial 52, 3) := by decide +kernel
theorem kd6_89 : decode kc6 89 = .ok (.putfield 53, 3) := by decide +kernel
theorem kd6_92 : decode kc6 92 = .ok (.aload_n 0, 1) := by decide +kernel
theorem kd6_93 : decode kc6 93 = .ok (.iconst 5, 1) := by decide +kernel
theorem kd6_94 : decode kc6 94 = .ok (.newarray .int, 2) := by decide +kernel
theorem kd6_96 : decode kc6 96 = .ok (.putfield 57, 3) := by decide +kernel
theorem kd6_99 : decode kc6 99 = .ok (.aload_n 0, 1) := by decide +kernel
theorem kd6_100 : decode kc6 100 = .ok (.bipush 49, 2) := by decide +kernel
theorem kd6_102 : decode kc6 102 = .ok (.newarray .int, 2) := by decide +kernel
theorem kd6_104 : decode kc6 104 = .ok (.putfield 61, 3) := by decide +kernel
theorem kd6_107 : decode kc6 107 = .ok (.aload_n 0, 1) := by decide +kernel
theorem kd6_108 : decode kc6 108 = .ok (.bipush 20, 2) := by decide +kernel
theorem kd6_110 : decode kc6 110 = .ok (.newarray .int, 2) := by decide +kernel
theorem kd6_112 : decode kc6 112 = .ok (.putfield 64, 3) := by decide +kernel
theorem kd6_115 : decode kc6 115 = .ok (.aload_n 0, 1) := by decide +kernel
theorem kd6_116 : decode kc6 116 = .ok (.bipush 67, 2) := by decide +kernel
theorem kd6_118 : decode kc6 118 = .ok (.newarray .int, 2) := by decide +kernel
theorem kd6_120 : decode kc6 120 = .ok (.putfield 67, 3) := by decide +kernel
theorem kd6_123 : decode kc6 123 = .ok (.return_, 1) := by decide +kernel
theorem kd7_0 : decode kc7 0 = .ok (.aload_n 0, 1) := by decide +kernel
theorem kd7_1 : decode kc7 1 = .ok (.invokespecial 1, 3) := by decide +kernel
theorem kd7_4 : decode kc7 4 = .ok (.aload_n 0, 1) := by decide +kernel
theorem kd7_5 : decode kc7 5 = .ok (.bipush 67, 2) := by decide +kernel
theorem kd7_7 : decode kc7 7 = .ok (.newarray .boolean, 2) := by decide +kernel
theorem kd7_9 : decode kc7 9 = .ok (.putfield 7, 3) := by decide +kernel
theorem kd7_12 : decode kc7 12 = .ok (.aload_n 0, 1) := by decide +kernel
theorem kd7_13 : decode kc7 13 = .ok (.bipush 9, 2) := by decide +kernel
theorem kd7_15 : decode kc7 15 = .ok (.newarray .int, 2) := by decide +kernel
theorem kd7_17 : decode kc7 17 = .ok (.putfield 13, 3) := by decide +kernel
theorem kd7_20 : decode kc7 20 = .ok (.aload_n 0, 1) := by decide +kernel
theorem kd7_21 : decode kc7 21 = .ok (.bipush 9, 2) := by decide +kernel
theorem kd7_23 : decode kc7 23 = .ok (.newarray .int, 2) := by decide +kernel
theorem kd7_25 : decode kc7 25 = .ok (.putfield 17, 3) := by decide +kernel
theorem kd7_28 : decode kc7 28 = .ok (.aload_n 0, 1) := by decide +kernel
theorem kd7_29 : decode kc7 29 = .ok (.bipush 9, 2) := by decide +kernel
theorem kd7_31 : decode kc7 31 = .ok (.newarray .int, 2) := by decide +kernel
theorem kd7_33 : decode kc7 33 = .ok (.putfield 20, 3) := by decide +kernel
theorem kd7_36 : decode kc7 36 = .ok (.aload_n 0, 1) := by decide +kernel
theorem kd7_37 : decode kc7 37 = .ok (.iconst 4, 1) := by decide +kernel
theorem kd7_38 : decode kc7 38 = .ok (.newarray .int, 2) := by decide +kernel
theorem kd7_40 : decode kc7 40 = .ok (.putfield 23, 3) := by decide +kernel
theorem kd7_43 : decode kc7 43 = .ok (.aload_n 0, 1) := by decide +kernel
theorem kd7_44 : decode kc7 44 = .ok (.iconst 4, 1) := by decide +kernel
theorem kd7_45 : decode kc7 45 = .ok (.newarray .int, 2) := by decide +kernel
theorem kd7_47 : decode kc7 47 = .ok (.putfield 26, 3) := by decide +kernel
theorem kd7_50 : decode kc7 50 = .ok (.aload_n 0, 1) := by decide +kernel
theorem kd7_51 : decode kc7 51 = .ok (.sipush 250, 3) := by decide +kernel
theorem kd7_54 : decode kc7 54 = .ok (.newarray .int, 2) := by decide +kernel
theorem kd7_56 : decode kc7 56 = .ok (.putfield 29, 3) := by decide +kernel
theorem kd7_59 : decode kc7 59 = .ok (.aload_n 0, 1) := by decide +kernel
theorem kd7_60 : decode kc7 60 = .ok (.bipush 8, 2) := by decide +kernel
theorem kd7_62 : decode kc7 62 = .ok (.newarray .int, 2) := by decide +kernel
theorem kd7_64 : decode kc7 64 = .ok (.putfield 32, 3) := by decide +kernel
theorem kd7_67 : decode kc7 67 = .ok (.aload_n 0, 1) := by decide +kernel
theorem kd7_68 : decode kc7 68 = .ok (.bipush 8, 2) := by decide +kernel
theorem kd7_70 : decode kc7 70 = .ok (.newarray .int, 2) := by decide +kernel
theorem kd7_72 : decode kc7 72 = .ok (.putfield 35, 3) := by decide +kernel
theorem kd7_75 : decode kc7 75 = .ok (.aload_n 0, 1) := by decide +kernel
theorem kd7_76 : decode kc7 76 = .ok (.sipush 320, 3) := by decide +kernel
theorem kd7_79 : decode kc7 79 = .ok (.newarray .long, 2) := by decide +kernel
theorem kd7_81 : decode kc7 81 = .ok (.putfield 38, 3) := by decide +kernel
theorem kd7_84 : decode kc7 84 = .ok (.aload_n 0, 1) := by decide +kernel
theorem kd7_85 : decode kc7 85 = .ok (.bipush 7, 2) := by decide +kernel
theorem kd7_87 : decode kc7 87 = .ok (.newarray .int, 2) := by decide +kernel
theorem kd7_89 : decode kc7 89 = .ok (.putfield 42, 3) := by decide +kernel
theorem kd7_92 : decode kc7 92 = .ok (.aload_n 0, 1) := by decide +kernel
theorem kd7_93 : decode kc7 93 = .ok (.bipush 104, 2) := by decide +kernel
theorem kd7_95 : decode kc7 95 = .ok (.newarray .int, 2) := by decide +kernel
theorem kd7_97 : decode kc7 97 = .ok (.putfield 45, 3) := by decide +kernel
theorem kd7_100 : decode kc7 100 = .ok (.aload_n 0, 1) := by decide +kernel
theorem kd7_101 : decode kc7 101 = .ok (.bipush 104, 2) := by decide +kernel
theorem kd7_103 : decode kc7 103 = .ok (.newarray .int, 2) := by decide +kernel
theorem kd7_105 : decode kc7 105 = .ok (.putfield 48, 3) := by decide +kernel
theorem kd7_108 : decode kc7 108 = .ok (.aload_n 0, 1) := by decide +kernel
theorem kd7_109 : decode kc7 109 = .ok (.iconst 4, 1) := by decide +kernel
theorem kd7_110 : decode kc7 110 = .ok (.newarray .int, 2) := by decide +kernel
theorem kd7_112 : decode kc7 112 = .ok (.putfield 51, 3) := by decide +kernel
theorem kd7_115 : decode kc7 115 = .ok (.aload_n 0, 1) := by decide +kernel
theorem kd7_116 : decode kc7 116 = .ok (.bipush 67, 2) := by decide +kernel
theorem kd7_118 : decode kc7 118 = .ok (.newarray .int, 2) := by decide +kernel
theorem kd7_120 : decode kc7 120 = .ok (.putfield 54, 3) := by decide +kernel
theorem kd7_123 : decode kc7 123 = .ok (.aload_n 0, 1) := by decide +kernel
theorem kd7_124 : decode kc7 124 = .ok (.bipush 67, 2) := by decide +kernel
theorem kd7_126 : decode kc7 126 = .ok (.newarray .int, 2) := by decide +kernel
theorem kd7_128 : decode kc7 128 = .ok (.putfield 57, 3) := by decide +kernel
theorem kd7_131 : decode kc7 131 = .ok (.aload_n 0, 1) := by decide +kernel
theorem kd7_132 : decode kc7 132 = .ok (.iconst 5, 1) := by decide +kernel
theorem kd7_133 : decode kc7 133 = .ok (.putfield 60, 3) := by decide +kernel
theorem kd7_136 : decode kc7 136 = .ok (.aload_n 0, 1) := by decide +kernel
theorem kd7_137 : decode kc7 137 = .ok (.iconst 1, 1) := by decide +kernel
theorem kd7_138 : decode kc7 138 = .ok (.putfield 64, 3) := by decide +kernel
theorem kd7_141 : decode kc7 141 = .ok (.iconst 0, 1) := by decide +kernel
theorem kd7_142 : decode kc7 142 = .ok (.istore_n 1, 1) := by decide +kernel
theorem kd7_143 : decode kc7 143 = .ok (.iload_n 1, 1) := by decide +kernel
theorem kd7_144 : decode kc7 144 = .ok (.bipush 8, 2) := by decide +kernel
theorem kd7_146 : decode kc7 146 = .ok (.if_icmp .ge 16, 3) := by decide +kernel
theorem kd7_149 : decode kc7 149 = .ok (.aload_n 0, 1) := by decide +kernel
theorem kd7_150 : decode kc7 150 = .ok (.getfield 32, 3) := by decide +kernel
theorem kd7_153 : decode kc7 153 = .ok (.iload_n 1, 1) := by decide +kernel
theorem kd7_154 : decode kc7 154 = .ok (.iconst (-1), 1) := by decide +kernel
theorem kd7_155 : decode kc7 155 = .ok (.iastore, 1) := by decide +kernel
theorem kd7_156 : decode kc7 156 = .ok (.iinc 1 1, 3) := by decide +kernel
theorem kd7_159 : decode kc7 159 = .ok (.goto (-16), 3) := by decide +kernel
theorem kd7_162 : decode kc7 162 = .ok (.return_, 1) := by decide +kernel
