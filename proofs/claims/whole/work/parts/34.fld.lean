/-! fields and rows of the world -/
theorem jis_in {i : Nat} {w : Cond} (h : jis i w = true) : w ∈ tbG := by
  unfold jis at h
  rw [Bool.and_eq_true] at h
  exact tbG_in (of_decide_eq_true h.1) h.2
def jRR (a : Nat) : String := match a with | 0 => RX0 | 1 => RX1 | 2 => RX2 | 3 => RX3 | 4 => RX4 | 5 => RX5 | 6 => RX6 | _ => RX7
def jNN (a : Nat) : Nat := match a with | 0 => 11 | 1 => 10 | 2 => 2 | 3 => 3 | 4 => 2 | 5 => 4 | 6 => 13 | _ => 28
def jTy (a : Nat) : Nat → FieldType := match a with | 0 => tyX0 | 1 => tyX1 | 2 => tyX2 | 3 => tyX3 | 4 => tyX4 | 5 => tyX5 | 6 => tyX6 | _ => tyX7
theorem j8 {a : Nat} (h : a < 8) : a = 0 ∨ a = 1 ∨ a = 2 ∨ a = 3 ∨ a = 4 ∨ a = 5 ∨ a = 6 ∨ a = 7 := by omega
theorem jcl_cl {a : Nat} (h : a < 8) : vwCl[a]? = some (jRR a, jTT a, jNN a) := by
  rcases j8 h with rfl | rfl | rfl | rfl | rfl | rfl | rfl | rfl <;> rfl
set_option maxRecDepth 100000 in
theorem jcl_ws0 : ((List.range 8).all fun a => (u_ws (jRR a) (jTT a) (jNN a)).all fun w => decide (w ∈ lw_tbl) && goodWord w) = true := by decide +kernel
theorem jcl_ws {a : Nat} (h : a < 8) : ∀ w ∈ u_ws (jRR a) (jTT a) (jNN a), w ∈ tbG := by
  intro w hw
  have h1 := List.all_eq_true.mp (List.all_eq_true.mp jcl_ws0 a (List.mem_range.mpr h)) w hw
  rw [Bool.and_eq_true] at h1
  exact List.mem_filter.mpr ⟨of_decide_eq_true h1.1, h1.2⟩
theorem jcl_ty {a : Nat} (h : a < 8) : ∀ k, k < jNN a → parseFieldDescriptor (jTT a k).2.2.1 = some (jTy a k) := by
  rcases j8 h with rfl | rfl | rfl | rfl | rfl | rfl | rfl | rfl
  · exact tyX0_ok
  · exact tyX1_ok
  · exact tyX2_ok
  · exact tyX3_ok
  · exact tyX4_ok
  · exact tyX5_ok
  · exact tyX6_ok
  · exact tyX7_ok
theorem jcl_nm {a : Nat} (h : a < 8) : ∀ x, x < jNN a → ∀ y, y < jNN a → x ≠ y → (jTT a x).2.1 ≠ (jTT a y).2.1 := by
  rcases j8 h with rfl | rfl | rfl | rfl | rfl | rfl | rfl | rfl
  · exact nmX0
  · exact nmX1
  · exact nmX2
  · exact nmX3
  · exact nmX4
  · exact nmX5
  · exact nmX6
  · exact nmX7
theorem jsh_ok0 : (jsh.all fun s => decide (s.1 = 10 ∨ s.1 = 11 ∨ s.1 = 12 ∨ (s.1 < 8 ∧ s.2.2.length = jNN s.1 ∧ ((List.range s.2.2.length).all fun k => decide ((s.2.2[k]? = some 0 → jTy s.1 k = .int) ∧ (s.2.2[k]? = some 1 → jTy s.1 k = .boolean))) = true)) && decide (s.2.1 ≤ 490)) = true := by decide +kernel
theorem jsh_ok {o : Nat} {s : Nat × Nat × List Nat} (h : jsh[o]? = some s) : (s.1 = 10 ∨ s.1 = 11 ∨ s.1 = 12 ∨ (s.1 < 8 ∧ s.2.2.length = jNN s.1 ∧ ∀ k, (s.2.2[k]? = some 0 → jTy s.1 k = .int) ∧ (s.2.2[k]? = some 1 → jTy s.1 k = .boolean))) ∧ s.2.1 ≤ 490 := by
  have h1 := List.all_eq_true.mp jsh_ok0 s (List.mem_of_getElem? h)
  rw [Bool.and_eq_true] at h1
  refine ⟨?_, of_decide_eq_true h1.2⟩
  rcases of_decide_eq_true h1.1 with q | q | q | ⟨q1, q2, q3⟩
  · exact Or.inl q
  · exact Or.inr (Or.inl q)
  · exact Or.inr (Or.inr (Or.inl q))
  · refine Or.inr (Or.inr (Or.inr ⟨q1, q2, fun k => ?_⟩))
    by_cases hk : k < s.2.2.length
    · exact of_decide_eq_true (List.all_eq_true.mp q3 k (List.mem_range.mpr hk))
    · have : s.2.2[k]? = none := List.getElem?_eq_none (by omega)
      rw [this]; exact ⟨fun q => (by cases q), fun q => (by cases q)⟩
section AF
variable {ad : Nat → Nat} {cs : ClassId × ClassId × ClassId} {w : jW} {o : Nat} {s : Nat × Nat × List Nat}
theorem jcel_obj (h : s.1 < 8) : jcel ad cs w o s = .inr (s.1, s.2.2.mapIdx (fun k c => jfv ad w o k c)) := by
  unfold jcel; rw [if_neg (by omega), if_neg (by omega), if_neg (by omega)]
theorem jcel_i (h : s.1 = 10) : jcel ad cs w o s = .inl (cs.1, s.2.1, .inl (fun j => Int32.ofInt (w o j))) := by
  unfold jcel; rw [if_pos h]
theorem jcel_z (h : s.1 = 11) : jcel ad cs w o s = .inl (cs.2.1, s.2.1, .inl (fun j => Int32.ofInt (w o j))) := by
  unfold jcel; rw [if_neg (by omega), if_pos h]
theorem jcel_l (h : s.1 = 12) : jcel ad cs w o s = .inl (cs.2.2, s.2.1, .inr (.inl (fun j => Int64.ofInt (w o j)))) := by
  unfold jcel; rw [if_neg (by omega), if_neg (by omega), if_pos h]
theorem jup_arr {k x : Int} (h0 : 0 ≤ k) : (fun j : Nat => Int32.ofInt (jup w o k x o j)) = upd (fun j : Nat => Int32.ofInt (w o j)) k.toNat (Int32.ofInt x) := by
  funext j
  unfold upd
  rw [jup_self]
  by_cases hj : (j : Int) = k
  · rw [if_pos hj, if_pos (by omega)]
  · rw [if_neg hj, if_neg (by omega)]
theorem jup_arrL {k x : Int} (h0 : 0 ≤ k) : (fun j : Nat => Int64.ofInt (jup w o k x o j)) = vp_updL (fun j : Nat => Int64.ofInt (w o j)) k.toNat (Int64.ofInt x) := by
  funext j
  unfold vp_updL
  rw [jup_self]
  by_cases hj : (j : Int) = k
  · rw [if_pos hj, if_pos (by omega)]
  · rw [if_neg hj, if_neg (by omega)]
theorem jup_obj {b : Nat} {x : Int} {f : Nat} (hf : s.2.2[b]? = some f) (h01 : f = 0 ∨ f = 1) : (s.2.2.mapIdx (fun k c => jfv ad w o k c)).set b (.int (Int32.ofInt x)) = s.2.2.mapIdx (fun k c => jfv ad (jup w o b x) o k c) := by
  apply List.ext_getElem?
  intro i
  have hlt : b < s.2.2.length := (List.getElem?_eq_some_iff.mp hf).1
  by_cases hi : i = b
  · subst hi
    rw [List.getElem?_set_self (by rw [List.length_mapIdx]; exact hlt), List.getElem?_mapIdx, hf]
    simp only [Option.map_some]
    congr 1
    rcases h01 with rfl | rfl <;> simp [jfv, jup_self]
  · rw [List.getElem?_set_ne (Ne.symm hi), List.getElem?_mapIdx, List.getElem?_mapIdx]
    cases s.2.2[i]? with
    | none => rfl
    | some c =>
      simp only [Option.map_some]
      congr 1
      rcases c with _ | _ | c
      · simp only [jfv, jup_self]; rw [if_neg (by omega)]
      · simp only [jfv, jup_self]; rw [if_neg (by omega)]
      · simp only [jfv]
theorem jmv_arr {q0 p0 : Nat} {i j n : Int} (h0 : 0 ≤ i) (h1 : 0 ≤ j) (h2 : 0 ≤ n) : (fun k : Nat => Int32.ofInt (jmv w p0 i q0 j n q0 k)) = va_cpy (fun k : Nat => Int32.ofInt (w p0 k)) (fun k : Nat => Int32.ofInt (w q0 k)) i.toNat j.toNat n.toNat := by
  funext k
  unfold va_cpy
  rw [jmv_self]
  by_cases hk : j ≤ (k : Int) ∧ (k : Int) < j + n
  · rw [if_pos hk, if_pos (by omega)]
    congr 2; omega
  · rw [if_neg hk, if_neg (by omega)]
theorem jmv_arrL {q0 p0 : Nat} {i j n : Int} (h0 : 0 ≤ i) (h1 : 0 ≤ j) (h2 : 0 ≤ n) : (fun k : Nat => Int64.ofInt (jmv w p0 i q0 j n q0 k)) = va_cpy (fun k : Nat => Int64.ofInt (w p0 k)) (fun k : Nat => Int64.ofInt (w q0 k)) i.toNat j.toNat n.toNat := by
  funext k
  unfold va_cpy
  rw [jmv_self]
  by_cases hk : j ≤ (k : Int) ∧ (k : Int) < j + n
  · rw [if_pos hk, if_pos (by omega)]
    congr 2; omega
  · rw [if_neg hk, if_neg (by omega)]
end AF
