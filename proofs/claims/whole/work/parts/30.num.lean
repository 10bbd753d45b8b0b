/-! the machine's numbers and the whole ones -/
def in32 (x : Int) : Prop := -2147483648 ≤ x ∧ x < 2147483648
def in64 (x : Int) : Prop := -9223372036854775808 ≤ x ∧ x < 9223372036854775808
theorem n32_id {x : Int} (h : in32 x) : n32 x = x := by unfold in32 at h; unfold n32; omega
theorem n32_in (x : Int) : in32 (n32 x) := by unfold in32 n32; omega
theorem n64_id {x : Int} (h : in64 x) : n64 x = x := by unfold in64 at h; unfold n64; omega
theorem n64_in (x : Int) : in64 (n64 x) := by unfold in64 n64; omega
theorem c_toInt (x : Int) : (Int32.ofInt x).toInt = n32 x := by
  rw [Int32.toInt_ofInt]; unfold n32
  simp only [Int.bmod, Int32.size]; split <;> omega
theorem c_toInt' {x : Int} (h : in32 x) : (Int32.ofInt x).toInt = x := by rw [c_toInt, n32_id h]
theorem c_toLong (x : Int) : (Int64.ofInt x).toInt = n64 x := by
  rw [Int64.toInt_ofInt]; unfold n64
  simp only [Int.bmod, Int64.size]; split <;> omega
theorem c_toLong' {x : Int} (h : in64 x) : (Int64.ofInt x).toInt = x := by rw [c_toLong, n64_id h]
theorem c_n32 (x : Int) : Int32.ofInt (n32 x) = Int32.ofInt x := by
  apply Int32.toInt_inj.mp; rw [c_toInt, c_toInt, n32_id (n32_in x)]
theorem c_n64 (x : Int) : Int64.ofInt (n64 x) = Int64.ofInt x := by
  apply Int64.toInt_inj.mp; rw [c_toLong, c_toLong, n64_id (n64_in x)]
theorem c_of32 (x : Int32) : Int32.ofInt x.toInt = x := Int32.ofInt_toInt x
theorem c_of64 (x : Int64) : Int64.ofInt x.toInt = x := Int64.ofInt_toInt x
theorem c_in32 (x : Int32) : in32 x.toInt := by
  have h1 := Int32.le_toInt x; have h2 := Int32.toInt_lt x
  unfold in32; omega
theorem c_in64 (x : Int64) : in64 x.toInt := by
  have h1 := Int64.le_toInt x; have h2 := Int64.toInt_lt x
  unfold in64; omega
theorem c_add (x y : Int) : Int32.ofInt x + Int32.ofInt y = Int32.ofInt (n32 (x + y)) := by rw [c_n32, Int32.ofInt_add]
theorem c_sub (x y : Int) : Int32.ofInt x - Int32.ofInt y = Int32.ofInt (n32 (x - y)) := by rw [c_n32, Int32.ofInt_sub]
theorem c_mul (x y : Int) : Int32.ofInt x * Int32.ofInt y = Int32.ofInt (n32 (x * y)) := by rw [c_n32, Int32.ofInt_mul]
theorem c_neg (x : Int) : -Int32.ofInt x = Int32.ofInt (n32 (-x)) := by rw [c_n32, Int32.ofInt_neg]
theorem c_ladd (x y : Int) : Int64.ofInt x + Int64.ofInt y = Int64.ofInt (n64 (x + y)) := by rw [c_n64, Int64.ofInt_add]
theorem c_lt {x y : Int} (hx : in32 x) (hy : in32 y) : (Int32.ofInt x < Int32.ofInt y) = (x < y) := by
  rw [Int32.lt_iff_toInt_lt, c_toInt' hx, c_toInt' hy]
theorem c_le {x y : Int} (hx : in32 x) (hy : in32 y) : (Int32.ofInt x ≤ Int32.ofInt y) = (x ≤ y) := by
  rw [Int32.le_iff_toInt_le, c_toInt' hx, c_toInt' hy]
theorem c_eq {x y : Int} (hx : in32 x) (hy : in32 y) : (Int32.ofInt x = Int32.ofInt y) = (x = y) := by
  rw [← Int32.toInt_inj, c_toInt' hx, c_toInt' hy]
theorem c_llt {x y : Int} (hx : in64 x) (hy : in64 y) : (Int64.ofInt x < Int64.ofInt y) = (x < y) := by
  rw [Int64.lt_iff_toInt_lt, c_toLong' hx, c_toLong' hy]
theorem c_leq {x y : Int} (hx : in64 x) (hy : in64 y) : (Int64.ofInt x = Int64.ofInt y) = (x = y) := by
  rw [← Int64.toInt_inj, c_toLong' hx, c_toLong' hy]
theorem c_z0 : (0 : Int32) = Int32.ofInt 0 := by decide
theorem c_l0 : (0 : Int64) = Int64.ofInt 0 := by decide
theorem in32_0 : in32 0 := by unfold in32; omega
theorem c_div {x y : Int} (hx : in32 x) (hy : in32 y) : Int32.ofInt x / Int32.ofInt y = Int32.ofInt (n32 (Int.tdiv x y)) := by
  apply Int32.toInt_inj.mp
  rw [Int32.toInt_div, c_toInt' hx, c_toInt' hy, c_toInt, n32_id (n32_in _)]
  unfold n32; simp only [Int.bmod]; split <;> omega
theorem c_rem {x y : Int} (hx : in32 x) (hy : in32 y) : Int32.ofInt x - Int32.ofInt x / Int32.ofInt y * Int32.ofInt y = Int32.ofInt (Int.tmod x y) := by
  rw [c_div hx hy, c_n32, ← Int32.ofInt_mul, ← Int32.ofInt_sub, Int.tmod_def, Int.mul_comm]
theorem c_ldiv {x y : Int} (hx : in64 x) (hy : in64 y) : Int64.ofInt x / Int64.ofInt y = Int64.ofInt (n64 (Int.tdiv x y)) := by
  apply Int64.toInt_inj.mp
  rw [Int64.toInt_div, c_toLong' hx, c_toLong' hy, c_toLong, n64_id (n64_in _)]
  unfold n64; simp only [Int.bmod]; split <;> omega
theorem c_lrem {x y : Int} (hx : in64 x) (hy : in64 y) : Int64.ofInt x - Int64.ofInt x / Int64.ofInt y * Int64.ofInt y = Int64.ofInt (Int.tmod x y) := by
  rw [c_ldiv hx hy, c_n64, ← Int64.ofInt_mul, ← Int64.ofInt_sub, Int.tmod_def, Int.mul_comm]
theorem tmod_in32 {x y : Int} (hx : in32 x) : in32 (Int.tmod x y) := by
  unfold in32 at hx ⊢
  have h1 : (Int.tmod x y).natAbs ≤ x.natAbs := by rw [Int.natAbs_tmod]; exact Nat.mod_le _ _
  have h2 : 0 ≤ x → 0 ≤ Int.tmod x y := Int.tmod_nonneg y
  have h3 : x ≤ 0 → Int.tmod x y ≤ 0 := fun h => by
    have := Int.tmod_nonneg y (a := -x) (by omega)
    rw [Int.neg_tmod] at this; omega
  omega
theorem tmod_in64 {x y : Int} (hx : in64 x) : in64 (Int.tmod x y) := by
  unfold in64 at hx ⊢
  have h1 : (Int.tmod x y).natAbs ≤ x.natAbs := by rw [Int.natAbs_tmod]; exact Nat.mod_le _ _
  have h2 : 0 ≤ x → 0 ≤ Int.tmod x y := Int.tmod_nonneg y
  have h3 : x ≤ 0 → Int.tmod x y ≤ 0 := fun h => by
    have := Int.tmod_nonneg y (a := -x) (by omega)
    rw [Int.neg_tmod] at this; omega
  omega
theorem c_clamp {i : Int} (h0 : 0 ≤ i) (h : in32 i) : (Int32.ofInt i).toNatClampNeg = i.toNat := by
  show (Int32.ofInt i).toInt.toNat = i.toNat
  rw [c_toInt' h]
theorem c_vpin {i : Int} {n : Nat} (h0 : 0 ≤ i) (h1 : i < n) (h : in32 i) : vp_in (Int32.ofInt i) n := by
  rw [vp_in_iff, c_toInt' h]; exact ⟨h0, h1⟩
theorem c_i2l {x : Int} (h : in32 x) : (Int32.ofInt x).toInt64 = Int64.ofInt x := by
  apply Int64.toInt_inj.mp
  rw [Int32.toInt_toInt64, c_toInt' h, c_toLong']
  unfold in32 at h; unfold in64; omega
theorem c_l2i {x : Int} (h : in64 x) : (Int64.ofInt x).toInt32 = Int32.ofInt (n32 x) := by
  apply Int32.toInt_inj.mp
  rw [Int64.toInt_toInt32, c_toLong' h, c_toInt, n32_id (n32_in _)]
  unfold n32; simp only [Int.bmod]; split <;> omega
theorem c_i2b {x : Int} (h : in32 x) : (Int32.ofInt x).toInt8.toInt32 = Int32.ofInt (n8 x) := by
  apply Int32.toInt_inj.mp
  rw [Int8.toInt_toInt32, Int32.toInt_toInt8, c_toInt' h, c_toInt']
  · unfold n8; simp only [Int.bmod]; split <;> omega
  · unfold n8 in32; omega
theorem c_i2s {x : Int} (h : in32 x) : (Int32.ofInt x).toInt16.toInt32 = Int32.ofInt (n16 x) := by
  apply Int32.toInt_inj.mp
  rw [Int16.toInt_toInt32, Int32.toInt_toInt16, c_toInt' h, c_toInt']
  · unfold n16; simp only [Int.bmod]; split <;> omega
  · unfold n16 in32; omega
theorem c_cmd (k : Int) : in32 (jcmd k) := by unfold jcmd in32; split <;> (try split) <;> (try split) <;> (try split) <;> omega
