/-! what the tables of 02.code are held against: the bytes and the words of the claim -/
def tbG : List Cond := lw_tbl.filter goodWord
theorem tbG_in {i : Nat} {w : Cond} (h : lw_tbl[i]? = some w) (hg : goodWord w = true) : w ∈ tbG := List.mem_filter.mpr ⟨List.mem_of_getElem? h, hg⟩
theorem tbG_all : tbG.all goodWord = true := List.all_eq_true.mpr fun w h => (List.mem_filter.mp h).2
def jTT (k : Nat) : u_T := match k with | 0 => TX0 | 1 => TX1 | 2 => TX2 | 3 => TX3 | 4 => TX4 | 5 => TX5 | 6 => TX6 | _ => TX7
def jfc (oc idx a b : Nat) : Cond := bif Nat.beq a 20 then .fieldLink (jown oc) idx "java/lang/String" (bif Nat.beq b 0 then "value" else "coder") (bif Nat.beq b 0 then "[B" else "B") else .fieldLink (jown oc) idx (jTT a b).1 (jTT a b).2.1 (jTT a b).2.2.1
def jrt (k : Nat) : Option FieldType := match k with | 1 => some .int | 2 => some .boolean | 3 => some .long | 4 => some .byte | 5 => some .char | _ => none
def jmy (m : Nat) : MethodName := (jm m).2.1
def jmc (m : Nat) : ByteArray := (jm m).2.2.1
def jrf (m : Nat) : Nat := (jm m).2.2.2.2.2.1
def jrl (m : Nat) : Nat := (jm m).2.2.2.2.2.2
def jcw (m : Nat) : Cond := .code (jmy m) (jmc m) (jml m) (jrt (jrk m))
def jgc (oc idx a nest : Nat) : Cond := match a, nest with
  | 0, 0 => .fieldLink (jown oc) idx "PointAtWhoIsLost" "COMMAND_STEP" "[I"
  | 0, _ => .fieldLinkNest (jown oc) idx "PointAtWhoIsLost" "COMMAND_STEP" "[I" "PointAtWhoIsLost"
  | 1, _ => .fieldLink (jown oc) idx "java/lang/String" "COMPACT_STRINGS" "Z"
  | _, _ => .fieldLink (jown oc) idx "jdk/internal/util/Preconditions" "SIOOBE_FORMATTER" "Ljava/util/function/BiFunction;"
def jmcd (oc idx a nest : Nat) : Cond := bif Nat.beq a 1000 then .methodLink (jown oc) idx arraycopyName else bif Nat.beq a 1001 then .methodLink (jown oc) idx Lib.Math.max.name else bif Nat.beq a 1002 then .methodLink (jown oc) idx Lib.Math.min.name else bif Nat.beq a 1003 then .methodLink (jown oc) idx Lib.Math.abs.name else (match nest with | 0 => .methodLink (jown oc) idx (jmy a) | _ => .methodLinkNest (jown oc) idx (jmy a) "PointAtWhoIsLost")
def jis (i : Nat) (w : Cond) : Bool := decide (lw_tbl[i]? = some w) && goodWord w
/-- the words of nest mates aren't kept as the others are -/
def jnw (i : Nat) (w : Cond) : Bool := decide (lw_tbl[i]? = some w) && w.onTables
set_option maxRecDepth 100000 in
theorem jpF_ok : jpF.all (fun t => jis t.2.2.1 (jfc t.1 t.2.1 t.2.2.2.1 t.2.2.2.2)) = true := by decide +kernel
set_option maxRecDepth 100000 in
theorem jpM_ok : jpM.all (fun t => (match t.2.2.2.2.2.2 with | 0 => jis t.2.2.1 (jmcd t.1 t.2.1 t.2.2.2.1 0) | _ => jnw t.2.2.1 (jmcd t.1 t.2.1 t.2.2.2.1 1)) && Nat.ble t.2.2.2.2.2.2 1) = true := by decide +kernel
set_option maxRecDepth 100000 in
theorem jpI_ok : jpI.all (fun t => jis t.2.2.1 (.constant (jown t.1) t.2.1 (Int32.ofInt t.2.2.2)) && decide (-2147483648 ≤ t.2.2.2 ∧ t.2.2.2 < 2147483648)) = true := by decide +kernel
set_option maxRecDepth 100000 in
theorem jpJ_ok : jpJ.all (fun t => jis t.2.2.1 (.constantLong (jown t.1) t.2.1 (Int64.ofInt t.2.2.2)) && decide (-9223372036854775808 ≤ t.2.2.2 ∧ t.2.2.2 < 9223372036854775808)) = true := by decide +kernel
set_option maxRecDepth 100000 in
theorem jpG_ok : jpG.all (fun t => (match t.2.2.2.2 with | 0 => jis t.2.2.1 (jgc t.1 t.2.1 t.2.2.2.1 0) | _ => jnw t.2.2.1 (jgc t.1 t.2.1 t.2.2.2.1 1)) && Nat.ble t.2.2.2.1 2 && Nat.ble t.2.2.2.2 1) = true := by decide +kernel
/-- a callee's own words: its code, static or of an object, which method is taken, its class -/
def jcok (t : Nat × Nat × Nat × Nat × Nat × Nat) : Bool := goodWord (jcw t.1) && jis t.2.2.2.2.1 (.initialized (jmy t.1).cls) && (match t.2.2.2.2.2 with
  | 1 => jis t.2.2.1 (.static (jmy t.1))
  | _ => jis t.2.2.1 (.instanceMethod (jmy t.1)) && jis t.2.2.2.1 (.selects (jmy t.1).cls (jmy t.1) (jmy t.1))) && decide ((jmy t.1).cls ≠ "java/lang/invoke/MethodHandle" ∧ (jmy t.1).cls ≠ "java/lang/invoke/VarHandle") && plainName (jmy t.1).cls && decide ((jmy t.1).cls = jown (jm t.1).1)
set_option maxRecDepth 100000 in
theorem jlib_ok : [Cond.native arraycopyName, .static arraycopyName, .initialized "java/lang/System", .static Lib.Math.max.name, .static Lib.Math.min.name, .static Lib.Math.abs.name, .initialized "java/lang/Math", .code Lib.Math.max.name Lib.Math.max.code 2 (some .int), .code Lib.Math.min.name Lib.Math.min.code 2 (some .int), .code Lib.Math.abs.name Lib.Math.abs.code 1 (some .int)].all (fun w => decide (w ∈ lw_tbl) && goodWord w) = true := by decide +kernel
set_option maxRecDepth 100000 in
theorem jpC_ok : jpC.all jcok = true := by decide +kernel
def jmem {α : Type} [DecidableEq α] (x : α) (l : List α) : Bool := l.any (fun y => decide (y = x))
def jlen (i : Instr) (n : Nat) : Bool := match i with
  | .tableswitch _ _ _ _ => true | .lookupswitch _ _ => true
  | .bipush _ => Nat.beq n 2 | .sipush _ => Nat.beq n 3 | .ldc _ => Nat.beq n 2 | .ldc_w _ => Nat.beq n 3 | .ldc2_w _ => Nat.beq n 3
  | .iload _ => Nat.beq n 2 | .lload _ => Nat.beq n 2 | .aload _ => Nat.beq n 2 | .istore _ => Nat.beq n 2 | .lstore _ => Nat.beq n 2 | .astore _ => Nat.beq n 2 | .iinc _ _ => Nat.beq n 3
  | .goto _ => Nat.beq n 3 | .ifCond _ _ => Nat.beq n 3 | .if_icmp _ _ => Nat.beq n 3 | .getfield _ => Nat.beq n 3 | .putfield _ => Nat.beq n 3 | .getstatic _ => Nat.beq n 3 | .invokevirtual _ => Nat.beq n 3 | .invokestatic _ => Nat.beq n 3
  | _ => Nat.beq n 1
/-- the pairs of a lookup grow -/
def jinc (ps : List (Int × Int)) : Bool := (ps.zip (ps.drop 1)).all (fun (a, next) => a.1 < next.1)
def jlnk (m : Nat) (q : jA) : Bool := match q with
  | (pc, i, a, b, v) => (match i with
    | .getfield idx => jpF.any (fun t => Nat.beq t.1 (jm m).1 && Nat.beq t.2.1 idx && Nat.beq t.2.2.2.1 a && Nat.beq t.2.2.2.2 b) && (Nat.beq a 20 || Nat.blt a 8)
    | .putfield idx => jpF.any (fun t => Nat.beq t.1 (jm m).1 && Nat.beq t.2.1 idx && Nat.beq t.2.2.2.1 a && Nat.beq t.2.2.2.2 b) && Nat.blt a 8 && !(jTT a b).2.2.2
    | .invokevirtual idx => jpM.any (fun t => Nat.beq t.1 (jm m).1 && Nat.beq t.2.1 idx && Nat.beq t.2.2.2.1 a) && jpC.any (fun t => Nat.beq t.1 a && Nat.beq t.2.2.2.2.2 0) && Nat.ble (jrf a + 1) (jrf m) && Nat.ble (19 + jml a + jrl a) (jrl m) && Nat.blt 0 b && decide ((parseMethodDescriptor (jmy a).desc).map (fun d => d.parameters.length) = some (b - 1)) && !Nat.blt 999 a && decide (v = (if (jm a).1 = 11 then 20 else ((jm a).1 : Int))) && (Nat.blt (jm a).1 8 || Nat.beq (jm a).1 11)
    | .invokestatic idx => jpM.any (fun t => Nat.beq t.1 (jm m).1 && Nat.beq t.2.1 idx && Nat.beq t.2.2.2.1 a) && ((Nat.blt 999 a && Nat.blt a 1004 && Nat.ble 1 (jrf m) && Nat.ble (bif Nat.beq a 1000 then 60 else 24) (jrl m)) || (Nat.blt a 999 && jpC.any (fun t => Nat.beq t.1 a && Nat.beq t.2.2.2.2.2 1) && Nat.ble (jrf a + 1) (jrf m) && Nat.ble (19 + jml a + jrl a) (jrl m) && decide ((parseMethodDescriptor (jmy a).desc).map (fun d => d.parameters.length) = some b)))
    | .ldc idx => (match a with | 0 => jpI.any (fun t => Nat.beq t.1 (jm m).1 && Nat.beq t.2.1 idx && decide (t.2.2.2 = v)) | _ => Nat.beq a 1 && jpS.any (fun t => Nat.beq t.1 (jm m).1 && Nat.beq t.2.1 idx && Nat.beq t.2.2.2 b) && Nat.blt b 6)
    | .ldc_w idx => Nat.beq a 0 && jpI.any (fun t => Nat.beq t.1 (jm m).1 && Nat.beq t.2.1 idx && decide (t.2.2.2 = v))
    | .ldc2_w idx => jpJ.any (fun t => Nat.beq t.1 (jm m).1 && Nat.beq t.2.1 idx && decide (t.2.2.2 = v))
    | .getstatic idx => jpG.any (fun t => Nat.beq t.1 (jm m).1 && Nat.beq t.2.1 idx && Nat.beq t.2.2.2.1 a)
    | .goto off => decide ((pc : Int) + off = a)
    | .ifCond _ off => decide ((pc : Int) + off = a)
    | .if_icmp _ off => decide ((pc : Int) + off = a)
    | .tableswitch d lo hi offs => decide ((hi - lo + 1 : Int) = offs.size) && decide (lo ≤ hi)
    | .lookupswitch d ps => jinc ps.toList
    | .iconst n => decide (-1 ≤ n ∧ n ≤ 5)
    | .bipush n => decide (-128 ≤ n ∧ n < 128)
    | .sipush n => decide (-32768 ≤ n ∧ n < 32768)
    | .iinc _ n => decide (-128 ≤ n ∧ n < 128)
    | _ => true)
def jdk (m : Nat) (q : jA) : Bool := match decode (jmc m) q.1 with
  | .ok (i, n) => decide (i = q.2.1) && jlen i n
  | .error _ => false
def jokm (m : Nat) : Bool := (jcode m).all (fun q => jdk m q && jlnk m q) && decide ((parseMethodDescriptor (jmy m).desc).map (fun d => d.returnType) = some (jrt (jrk m)))

set_option maxRecDepth 1000000 in
theorem jok_0 : ((List.range 14).map (· + 0)).all jokm = true := by decide +kernel
set_option maxRecDepth 1000000 in
theorem jok_14 : ((List.range 14).map (· + 14)).all jokm = true := by decide +kernel
set_option maxRecDepth 1000000 in
theorem jok_28 : ((List.range 14).map (· + 28)).all jokm = true := by decide +kernel
set_option maxRecDepth 1000000 in
theorem jok_42 : ((List.range 14).map (· + 42)).all jokm = true := by decide +kernel
set_option maxRecDepth 1000000 in
theorem jok_56 : ((List.range 14).map (· + 56)).all jokm = true := by decide +kernel
set_option maxRecDepth 1000000 in
theorem jok_70 : ((List.range 14).map (· + 70)).all jokm = true := by decide +kernel
set_option maxRecDepth 1000000 in
theorem jok_84 : ((List.range 14).map (· + 84)).all jokm = true := by decide +kernel
set_option maxRecDepth 1000000 in
theorem jok_98 : ((List.range 14).map (· + 98)).all jokm = true := by decide +kernel
set_option maxRecDepth 1000000 in
theorem jok_112 : ((List.range 14).map (· + 112)).all jokm = true := by decide +kernel
set_option maxRecDepth 1000000 in
theorem jok_126 : ((List.range 14).map (· + 126)).all jokm = true := by decide +kernel
set_option maxRecDepth 1000000 in
theorem jok_140 : ((List.range 14).map (· + 140)).all jokm = true := by decide +kernel
set_option maxRecDepth 1000000 in
theorem jok_154 : ((List.range 14).map (· + 154)).all jokm = true := by decide +kernel
set_option maxRecDepth 1000000 in
theorem jok_168 : ((List.range 14).map (· + 168)).all jokm = true := by decide +kernel
set_option maxRecDepth 1000000 in
theorem jok_182 : ((List.range 14).map (· + 182)).all jokm = true := by decide +kernel
set_option maxRecDepth 1000000 in
theorem jok_196 : ((List.range 14).map (· + 196)).all jokm = true := by decide +kernel
set_option maxRecDepth 1000000 in
theorem jok_210 : ((List.range 14).map (· + 210)).all jokm = true := by decide +kernel
set_option maxRecDepth 1000000 in
theorem jok_224 : ((List.range 14).map (· + 224)).all jokm = true := by decide +kernel
set_option maxRecDepth 1000000 in
theorem jok_238 : ((List.range 14).map (· + 238)).all jokm = true := by decide +kernel
set_option maxRecDepth 1000000 in
theorem jok_252 : ((List.range 14).map (· + 252)).all jokm = true := by decide +kernel
set_option maxRecDepth 1000000 in
theorem jok_266 : ((List.range 5).map (· + 266)).all jokm = true := by decide +kernel
