/-! THE ABSTRACT MACHINE: the same bytecode over whole numbers; a world is a function of cell and place -/
abbrev jV : Type := Int ⊕ Int ⊕ Nat
abbrev jI (x : Int) : jV := .inl x
abbrev jL (x : Int) : jV := .inr (.inl x)
abbrev jR (o : Nat) : jV := .inr (.inr o)
abbrev jX : jV := .inr (.inr 999)
abbrev jW : Type := Nat → Int → Int
def n32 (x : Int) : Int := (x + 2147483648) % 4294967296 - 2147483648
def n64 (x : Int) : Int := (x + 9223372036854775808) % 18446744073709551616 - 9223372036854775808
def n8 (x : Int) : Int := (x + 128) % 256 - 128
def n16 (x : Int) : Int := (x + 32768) % 65536 - 32768
def jand (x y : Int) : Int := (Int32.ofInt x &&& Int32.ofInt y).toInt
def jor (x y : Int) : Int := (Int32.ofInt x ||| Int32.ofInt y).toInt
def jxor (x y : Int) : Int := (Int32.ofInt x ^^^ Int32.ofInt y).toInt
def jshl (x y : Int) : Int := (Int32.ofInt x <<< (Int32.ofInt y &&& 31)).toInt
def jshr (x y : Int) : Int := (Int32.ofInt x >>> (Int32.ofInt y &&& 31)).toInt
def jushr (x y : Int) : Int := (((Int32.ofInt x).toUInt32 >>> ((Int32.ofInt y).toUInt32 &&& Int32.toUInt32 31)).toInt32).toInt
def jlor (x y : Int) : Int := (Int64.ofInt x ||| Int64.ofInt y).toInt
def jland (x y : Int) : Int := (Int64.ofInt x &&& Int64.ofInt y).toInt
def jlshl (x y : Int) : Int := (Int64.ofInt x <<< ((Int32.ofInt y).toInt64 &&& 63)).toInt
/-- writing one place of one cell -/
def jup (w : jW) (o : Nat) (k v : Int) : jW := fun p j => bif Nat.beq p o then (if j = k then v else w p j) else w p j
/-- a run of places of one cell becomes those of another -/
def jmv (w : jW) (p : Nat) (i : Int) (q : Nat) (j n : Int) : jW := fun c k => bif Nat.beq c q then (if j ≤ k ∧ k < j + n then w p (i + (k - j)) else w c k) else w c k
/-- the cells that are: kind (0 .. 7 an object of that class; 10 ints, 11 booleans, 12 longs), length, fields (0 int, 1 boolean, else 2 more than the cell it refers to) -/
def jsh : List (Nat × Nat × List Nat) := [
 (6, 0, [3, 10, 17, 1, 24, 28, 30, 32, 40, 43, 44, 45, 46]),
 (0, 0, [0, 0, 0, 0, 0, 4, 5, 6, 7, 8, 9]), (10, 67, []), (10, 8, []), (10, 8, []), (10, 8, []), (10, 4, []), (10, 4, []),
 (0, 0, [0, 0, 0, 0, 0, 11, 12, 13, 14, 15, 16]), (10, 67, []), (10, 8, []), (10, 8, []), (10, 8, []), (10, 4, []), (10, 4, []),
 (0, 0, [0, 0, 0, 0, 0, 18, 19, 20, 21, 22, 23]), (10, 67, []), (10, 8, []), (10, 8, []), (10, 8, []), (10, 4, []), (10, 4, []),
 (3, 0, [25, 26, 27]), (10, 8, []), (10, 8, []), (12, 320, []),
 (5, 0, [0, 0, 0, 29]), (10, 250, []),
 (4, 0, [31, 0]), (10, 4, []),
 (1, 0, [0, 33, 0, 34, 35, 36, 37, 38, 39, 0]), (10, 49, []), (10, 392, []), (10, 49, []), (10, 49, []), (10, 10, []), (10, 490, []), (10, 490, []),
 (2, 0, [41, 42]), (10, 67, []), (10, 67, []),
 (10, 5, []), (10, 49, []), (10, 20, []), (10, 67, []),
 (7, 0, [0, 48, 0, 0, 49, 50, 51, 0, 52, 53, 0, 0, 54, 0, 0, 0, 0, 55, 56, 57, 58, 1, 59, 60, 0, 61, 62, 63]),
 (11, 67, []), (10, 9, []), (10, 9, []), (10, 9, []), (10, 4, []), (10, 4, []), (10, 250, []), (10, 8, []), (10, 8, []), (12, 320, []), (10, 7, []), (10, 104, []), (10, 104, []), (10, 4, []), (10, 67, []), (10, 67, [])]
/-- the strings that are constants: their bytes -/
def jstr : List (List Int) := [[115, 105, 100, 101], [98, 111, 103], [100, 114, 121], [104, 111, 109, 101], [112, 111, 115, 116], [119, 97, 108, 107, 101, 114]]
/-- cells that nobody writes: 98 place 0 the script's length, 100 the script, 101 the steps of the commands, 110 on strings, 130 on their bytes -/
def jkind (w : jW) (o : Nat) : Option (Nat × Nat) :=
  bif Nat.blt o 62 then (match jsh[o]? with | some s => some (s.1, s.2.1) | none => none)
  else bif Nat.beq o 100 then some (10, (w 98 0).toNat)
  else bif Nat.beq o 101 then some (10, 5)
  else bif Nat.blt o 110 then none
  else bif Nat.blt o 116 then some (20, 0)
  else bif Nat.blt o 130 then none
  else bif Nat.blt o 136 then some (13, ((jstr[o - 130]?).getD []).length)
  else none
def jcmd (k : Int) : Int := if k = 1 then -10 else if k = 2 then 10 else if k = 3 then -1 else if k = 4 then 1 else 0
def jel (w : jW) (o : Nat) (k : Int) : Int := bif Nat.beq o 101 then jcmd k else bif Nat.blt o 130 then w o k else (((jstr[o - 130]?).getD [])[k.toNat]?).getD 0
def jcat (v : jV) : Nat := match v with | .inr (.inl _) => 2 | _ => 1
def jfld (w : jW) (o ci k : Nat) : Option jV :=
  bif Nat.blt o 62 then (match jsh[o]? with
    | some (c, _, fs) => bif Nat.beq c ci then (match fs[k]? with | some 0 => some (jI (w o k)) | some 1 => some (jI (w o k)) | some (r + 2) => some (jR r) | none => none) else none
    | none => none)
  else bif Nat.beq ci 20 && (Nat.ble 110 o && Nat.blt o 116) then (match k with | 0 => some (jR (o + 20)) | 1 => some (jI 0) | _ => none)
  else none
/-- whether a number may stand in a field -/
def jfit (o ci k : Nat) (x : Int) : Bool :=
  bif Nat.blt o 62 then (match jsh[o]? with
    | some (c, _, fs) => bif Nat.beq c ci then (match fs[k]? with | some 0 => true | some 1 => decide (x = 0 ∨ x = 1) | _ => false) else false
    | none => false) else false
def jcond (c : ClassFile.Cond) (x y : Int) : Bool := match c with
  | .eq => decide (x = y) | .ne => !decide (x = y) | .lt => decide (x < y) | .ge => !decide (x < y) | .gt => decide (y < x) | .le => !decide (y < x)
def jlsw : List (Int × Int) → Int → Int → Int
  | [], d, _ => d
  | (k, o) :: r, d, x => if x = k then o else jlsw r d x
abbrev jS : Type := Nat × List jV × List jV × jW
def jtgt (pc : Nat) (off : Int) : Option Nat := match (pc : Int) + off with | .ofNat t => some t | .negSucc _ => none
def jtsw : List Int → Int → Int → Int → Int
  | [], _, d, _ => d
  | o :: r, lo, d, x => if x = lo then o else jtsw r (lo + 1) d x
def jro (o : Nat) : Bool := Nat.beq o 999 || Nat.beq o 102
def jget (ls : List jV) (st : List jV) (pc : Nat) (w : jW) (i n : Nat) : Option jS := match ls[i]? with
  | some (.inl x) => some (pc + n, ls, jI x :: st, w)
  | _ => none
def jgetL (ls : List jV) (st : List jV) (pc : Nat) (w : jW) (i n : Nat) : Option jS := match ls[i]? with
  | some (.inr (.inl x)) => (match ls[i + 1]? with | some (.inr (.inr 999)) => some (pc + n, ls, jL x :: st, w) | _ => none)
  | _ => none
def jgetR (ls : List jV) (st : List jV) (pc : Nat) (w : jW) (i n : Nat) : Option jS := match ls[i]? with
  | some (.inr (.inr o)) => bif jro o then none else some (pc + n, ls, jR o :: st, w)
  | _ => none
def jput (ls : List jV) (st : List jV) (pc : Nat) (w : jW) (i n : Nat) : Option jS := bif Nat.blt i ls.length then (match st with
  | .inl x :: r => some (pc + n, ls.set i (jI x), r, w)
  | _ => none) else none
def jputL (ls : List jV) (st : List jV) (pc : Nat) (w : jW) (i n : Nat) : Option jS := bif Nat.blt (i + 1) ls.length then (match st with
  | .inr (.inl x) :: r => some (pc + n, (ls.set i (jL x)).set (i + 1) jX, r, w)
  | _ => none) else none
def jputR (ls : List jV) (st : List jV) (pc : Nat) (w : jW) (i n : Nat) : Option jS := bif Nat.blt i ls.length then (match st with
  | .inr (.inr o) :: r => bif jro o then none else some (pc + n, ls.set i (jR o), r, w)
  | _ => none) else none
def jbin (f : Int → Int → Int) (ls : List jV) (st : List jV) (pc : Nat) (w : jW) : Option jS := match st with
  | .inl y :: .inl x :: r => some (pc + 1, ls, jI (f x y) :: r, w)
  | _ => none
def jbinL (f : Int → Int → Int) (ls : List jV) (st : List jV) (pc : Nat) (w : jW) : Option jS := match st with
  | .inr (.inl y) :: .inr (.inl x) :: r => some (pc + 1, ls, jL (f x y) :: r, w)
  | _ => none
def jun (f : Int → Int) (ls : List jV) (st : List jV) (pc : Nat) (w : jW) : Option jS := match st with
  | .inl x :: r => some (pc + 1, ls, jI (f x) :: r, w)
  | _ => none
def jld (kd : Nat) (ls : List jV) (st : List jV) (pc : Nat) (w : jW) : Option jS := match st with
  | .inl i :: .inr (.inr o) :: r => (match jkind w o with
    | some (k, n) => bif Nat.beq k kd then (if 0 ≤ i ∧ i < n then some (pc + 1, ls, (bif Nat.beq kd 12 then jL (jel w o i) else jI (jel w o i)) :: r, w) else none) else none
    | none => none)
  | _ => none
def jldB (ls : List jV) (st : List jV) (pc : Nat) (w : jW) : Option jS := match st with
  | .inl i :: .inr (.inr o) :: r => (match jkind w o with
    | some (k, n) => bif Nat.beq k 11 || Nat.beq k 13 then (if 0 ≤ i ∧ i < n then some (pc + 1, ls, jI (jel w o i) :: r, w) else none) else none
    | none => none)
  | _ => none
def jst (kd : Nat) (ls : List jV) (st : List jV) (pc : Nat) (w : jW) : Option jS := match st with
  | .inl x :: .inl i :: .inr (.inr o) :: r => bif Nat.blt o 62 then (match jkind w o with
    | some (k, n) => bif Nat.beq k kd then (if 0 ≤ i ∧ i < n then (if kd = 11 → x = 0 ∨ x = 1 then some (pc + 1, ls, r, jup w o i x) else none) else none) else none
    | none => none) else none
  | _ => none
def jstL (ls : List jV) (st : List jV) (pc : Nat) (w : jW) : Option jS := match st with
  | .inr (.inl x) :: .inl i :: .inr (.inr o) :: r => bif Nat.blt o 62 then (match jkind w o with
    | some (k, n) => bif Nat.beq k 12 then (if 0 ≤ i ∧ i < n then some (pc + 1, ls, r, jup w o i x) else none) else none
    | none => none) else none
  | _ => none
def jcopy (ls : List jV) (st : List jV) (pc : Nat) (w : jW) : Option jS := match st with
  | .inl n :: .inl j :: .inr (.inr q) :: .inl i :: .inr (.inr p) :: r => bif Nat.blt p 62 && Nat.blt q 62 && Nat.ble (r.map jcat).sum 8 then (match jkind w p, jkind w q with
    | some (k, np), some (k2, nq) => bif Nat.beq k k2 && (Nat.beq k 10 || Nat.beq k 12) then (if 0 ≤ i ∧ 0 ≤ j ∧ 0 ≤ n ∧ i + n ≤ np ∧ j + n ≤ nq then some (pc + 3, ls, r, jmv w p i q j n) else none) else none
    | _, _ => none) else none
  | _ => none
def jmax (x y : Int) : Int := if x < y then y else x
def jmin (x y : Int) : Int := if y < x then y else x
def jabs (x : Int) : Int := if 0 ≤ x then x else n32 (0 - x)
def jlib (f : Int → Int → Int) (ls : List jV) (st : List jV) (pc : Nat) (w : jW) : Option jS := match st with
  | .inl y :: .inl x :: r => bif Nat.ble (r.map jcat).sum 8 then some (pc + 3, ls, jI (f x y) :: r, w) else none
  | _ => none
def jlibA (ls : List jV) (st : List jV) (pc : Nat) (w : jW) : Option jS := match st with
  | .inl x :: r => bif Nat.ble (r.map jcat).sum 8 then some (pc + 3, ls, jI (jabs x) :: r, w) else none
  | _ => none
/-- one instruction that is no call and no end -/
def jstp (i : Instr) (a b : Nat) (v : Int) (pc : Nat) (ls st : List jV) (w : jW) : Option jS := match i with
  | .iconst n => some (pc + 1, ls, jI n :: st, w)
  | .bipush n => some (pc + 2, ls, jI n :: st, w)
  | .sipush n => some (pc + 3, ls, jI n :: st, w)
  | .lconst k => some (pc + 1, ls, jL k.val :: st, w)
  | .ldc _ => bif Nat.beq a 0 then some (pc + 2, ls, jI v :: st, w) else some (pc + 2, ls, jR (110 + b) :: st, w)
  | .ldc_w _ => bif Nat.beq a 0 then some (pc + 3, ls, jI v :: st, w) else none
  | .ldc2_w _ => some (pc + 3, ls, jL v :: st, w)
  | .iload_n k => jget ls st pc w k.val 1
  | .iload k => jget ls st pc w k 2
  | .lload_n k => jgetL ls st pc w k.val 1
  | .lload k => jgetL ls st pc w k 2
  | .aload_n k => jgetR ls st pc w k.val 1
  | .aload k => jgetR ls st pc w k 2
  | .istore_n k => jput ls st pc w k.val 1
  | .istore k => jput ls st pc w k 2
  | .lstore_n k => jputL ls st pc w k.val 1
  | .lstore k => jputL ls st pc w k 2
  | .astore_n k => jputR ls st pc w k.val 1
  | .astore k => jputR ls st pc w k 2
  | .iinc k n => bif Nat.blt k ls.length then (match ls[k]? with | some (.inl x) => some (pc + 3, ls.set k (jI (n32 (x + n))), st, w) | _ => none) else none
  | .iadd => jbin (fun x y => n32 (x + y)) ls st pc w
  | .isub => jbin (fun x y => n32 (x - y)) ls st pc w
  | .imul => jbin (fun x y => n32 (x * y)) ls st pc w
  | .iand => jbin jand ls st pc w
  | .ior => jbin jor ls st pc w
  | .ixor => jbin jxor ls st pc w
  | .ishl => jbin jshl ls st pc w
  | .ishr => jbin jshr ls st pc w
  | .iushr => jbin jushr ls st pc w
  | .idiv => (match st with | .inl y :: .inl x :: r => if y = 0 then none else some (pc + 1, ls, jI (n32 (Int.tdiv x y)) :: r, w) | _ => none)
  | .irem => (match st with | .inl y :: .inl x :: r => if y = 0 then none else some (pc + 1, ls, jI (Int.tmod x y) :: r, w) | _ => none)
  | .ineg => jun (fun x => n32 (-x)) ls st pc w
  | .i2b => jun n8 ls st pc w
  | .i2s => jun n16 ls st pc w
  | .i2c => jun (fun x => x % 65536) ls st pc w
  | .i2l => (match st with | .inl x :: r => some (pc + 1, ls, jL x :: r, w) | _ => none)
  | .l2i => (match st with | .inr (.inl x) :: r => some (pc + 1, ls, jI (n32 x) :: r, w) | _ => none)
  | .ladd => jbinL (fun x y => n64 (x + y)) ls st pc w
  | .land => jbinL jland ls st pc w
  | .lor => jbinL jlor ls st pc w
  | .lshl => (match st with | .inl y :: .inr (.inl x) :: r => some (pc + 1, ls, jL (jlshl x y) :: r, w) | _ => none)
  | .ldiv => (match st with | .inr (.inl y) :: .inr (.inl x) :: r => if y = 0 then none else some (pc + 1, ls, jL (n64 (Int.tdiv x y)) :: r, w) | _ => none)
  | .lrem => (match st with | .inr (.inl y) :: .inr (.inl x) :: r => if y = 0 then none else some (pc + 1, ls, jL (Int.tmod x y) :: r, w) | _ => none)
  | .lcmp => (match st with | .inr (.inl y) :: .inr (.inl x) :: r => some (pc + 1, ls, jI (if x < y then -1 else if x = y then 0 else 1) :: r, w) | _ => none)
  | .dup => (match st with | v :: r => bif Nat.beq (jcat v) 1 then some (pc + 1, ls, v :: v :: r, w) else none | _ => none)
  | .pop => (match st with | v :: r => bif Nat.beq (jcat v) 1 then some (pc + 1, ls, r, w) else none | _ => none)
  | .dup_x1 => (match st with | v :: u :: r => bif Nat.beq (jcat v) 1 && Nat.beq (jcat u) 1 then some (pc + 1, ls, v :: u :: v :: r, w) else none | _ => none)
  | .dup2 => (match st with | v :: u :: r => bif Nat.beq (jcat v) 1 && Nat.beq (jcat u) 1 then some (pc + 1, ls, v :: u :: v :: u :: r, w) else none | _ => none)
  | .goto _ => some (a, ls, st, w)
  | .ifCond c _ => (match st with | .inl x :: r => bif jcond c x 0 then some (a, ls, r, w) else some (pc + 3, ls, r, w) | _ => none)
  | .if_icmp c _ => (match st with | .inl y :: .inl x :: r => bif jcond c x y then some (a, ls, r, w) else some (pc + 3, ls, r, w) | _ => none)
  | .tableswitch d lo hi offs => (match st with | .inl x :: r => (match jtgt pc (jtsw offs.toList lo d x) with | some t => some (t, ls, r, w) | none => none) | _ => none)
  | .lookupswitch d ps => (match st with | .inl x :: r => (match jtgt pc (jlsw ps.toList d x) with | some t => some (t, ls, r, w) | none => none) | _ => none)
  | .getfield _ => (match st with | .inr (.inr o) :: r => (match jfld w o a b with | some u => some (pc + 3, ls, u :: r, w) | none => none) | _ => none)
  | .putfield _ => (match st with | .inl x :: .inr (.inr o) :: r => bif jfit o a b x then some (pc + 3, ls, r, jup w o b x) else none | _ => none)
  | .getstatic _ => (match a with | 0 => some (pc + 3, ls, jR 101 :: st, w) | 1 => some (pc + 3, ls, jI 1 :: st, w) | 2 => some (pc + 3, ls, jR 102 :: st, w) | _ => none)
  | .arraylength => (match st with | .inr (.inr o) :: r => (match jkind w o with | some (k, n) => bif Nat.ble 10 k && !Nat.beq k 20 then some (pc + 1, ls, jI n :: r, w) else none | none => none) | _ => none)
  | .iaload => jld 10 ls st pc w
  | .laload => jld 12 ls st pc w
  | .baload => jldB ls st pc w
  | .iastore => jst 10 ls st pc w
  | .bastore => jst 11 ls st pc w
  | .lastore => jstL ls st pc w
  | .invokestatic _ => bif Nat.beq a 1000 then jcopy ls st pc w else bif Nat.beq a 1001 then jlib jmax ls st pc w else bif Nat.beq a 1002 then jlib jmin ls st pc w else bif Nat.beq a 1003 then jlibA ls st pc w else none
  | _ => none
def jlk {α : Type} (pc : Nat) : List (Nat × α) → Option α
  | [] => none
  | (k, x) :: r => bif Nat.beq pc k then some x else jlk pc r
def jcd (m pc : Nat) : Option (Instr × Nat × Nat × Int) := jlk pc (jcode m)
/-- a method's locals at its entry -/
def jent : Nat → List jV → List jV
  | n, [] => List.replicate n jX
  | n, v :: r => v :: (bif Nat.beq (jcat v) 2 then jX :: jent (n - 2) r else jent (n - 1) r)
/-- whether a method may answer a number -/
def jretI (k : Nat) (x : Int) : Bool := match k with | 1 => true | 2 => decide (x = 0 ∨ x = 1) | 4 => decide (-128 ≤ x ∧ x < 128) | 5 => decide (0 ≤ x ∧ x < 65536) | _ => false
/-- the receiver of a call is of the kind -/
def jrcv (w : jW) (v : Int) (as : List jV) : Bool := match v with
  | .negSucc _ => true
  | .ofNat k => (match as with | .inr (.inr o) :: _ => (match jkind w o with | some (c, _) => Nat.beq c k | none => false) | _ => false)
abbrev jF : Type := Nat → Nat → List jV → List jV → jW → Option (jV × jW)
/-- a call: the callee's run, then what follows it -/
def jcal (f : jF) (m a b pc : Nat) (ls st : List jV) (w : jW) : Option (jV × jW) :=
  bif Nat.ble b st.length && Nat.ble ((st.drop b).map jcat).sum 8 && Nat.ble ((st.take b).map jcat).sum (jml a) then (match f a 0 (jent (jml a) (st.take b).reverse) [] w with
    | some (r, w') => f m (pc + 3) ls (bif Nat.beq (jrk a) 0 then st.drop b else r :: st.drop b) w'
    | none => none) else none
/-- a method's end -/
def jend (i : Instr) (k : Nat) (st : List jV) (w : jW) : Option (jV × jW) := match i with
  | .ireturn => (match st with | [.inl x] => bif jretI k x then some (jI x, w) else none | _ => none)
  | .lreturn => (match st with | [.inr (.inl x)] => bif Nat.beq k 3 then some (jL x, w) else none | _ => none)
  | .return_ => (match st with | [] => bif Nat.beq k 0 then some (jI 0, w) else none | _ => none)
  | _ => none
def jbody (f : jF) (m pc : Nat) (ls st : List jV) (w : jW) : Option (jV × jW) := match jcd m pc with
  | none => none
  | some (i, a, b, v) => match jstp i a b v pc ls st w with
    | some s => f m s.1 s.2.1 s.2.2.1 s.2.2.2
    | none => match i with
      | .invokevirtual _ => bif jrcv w v (st.take b).reverse then jcal f m a b pc ls st w else none
      | .invokestatic _ => bif Nat.blt 999 a then none else jcal f m a b pc ls st w
      | i => jend i (jrk m) st w
def jex : Nat → jF
  | 0 => fun _ _ _ _ _ => none
  | n + 1 => jbody (jex n)
