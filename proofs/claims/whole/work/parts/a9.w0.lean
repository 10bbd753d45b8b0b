/-! the first world: behind the constructors -/
def jini (k : Int) : Int := if k = 0 then 5 else if k = 2 then 1 else 0
def jw0 (L : Nat) (xs : Nat → Int) : jW := fun o k => if o = 1 ∨ o = 8 ∨ o = 15 then jini k else if o = 23 ∨ o = 53 then -1 else if o = 45 then (if k = 0 then 5 else if k = 10 then 1 else 0) else if o = 98 then (L : Int) else if o = 100 then xs k.toNat else 0
def jad (l : List Nat) (b a1 : Nat) (adK adV : Nat → Nat) (o : Nat) : Nat := match l[o]? with
  | some a => a
  | none => if o = 100 then b else if o = 101 then a1 else if o < 130 then adK (o - 110) else adV (o - 130)
section W0
variable {L : Nat} {xs : Nat → Int}
theorem w0_0 : jw0 L xs 0 = fun _ => 0 := rfl
theorem w0_1 : jw0 L xs 1 = jini := rfl
theorem w0_2 : jw0 L xs 2 = fun _ => 0 := rfl
theorem w0_3 : jw0 L xs 3 = fun _ => 0 := rfl
theorem w0_4 : jw0 L xs 4 = fun _ => 0 := rfl
theorem w0_5 : jw0 L xs 5 = fun _ => 0 := rfl
theorem w0_6 : jw0 L xs 6 = fun _ => 0 := rfl
theorem w0_7 : jw0 L xs 7 = fun _ => 0 := rfl
theorem w0_8 : jw0 L xs 8 = jini := rfl
theorem w0_9 : jw0 L xs 9 = fun _ => 0 := rfl
theorem w0_10 : jw0 L xs 10 = fun _ => 0 := rfl
theorem w0_11 : jw0 L xs 11 = fun _ => 0 := rfl
theorem w0_12 : jw0 L xs 12 = fun _ => 0 := rfl
theorem w0_13 : jw0 L xs 13 = fun _ => 0 := rfl
theorem w0_14 : jw0 L xs 14 = fun _ => 0 := rfl
theorem w0_15 : jw0 L xs 15 = jini := rfl
theorem w0_16 : jw0 L xs 16 = fun _ => 0 := rfl
theorem w0_17 : jw0 L xs 17 = fun _ => 0 := rfl
theorem w0_18 : jw0 L xs 18 = fun _ => 0 := rfl
theorem w0_19 : jw0 L xs 19 = fun _ => 0 := rfl
theorem w0_20 : jw0 L xs 20 = fun _ => 0 := rfl
theorem w0_21 : jw0 L xs 21 = fun _ => 0 := rfl
theorem w0_22 : jw0 L xs 22 = fun _ => 0 := rfl
theorem w0_23 : jw0 L xs 23 = fun _ => -1 := rfl
theorem w0_24 : jw0 L xs 24 = fun _ => 0 := rfl
theorem w0_25 : jw0 L xs 25 = fun _ => 0 := rfl
theorem w0_26 : jw0 L xs 26 = fun _ => 0 := rfl
theorem w0_27 : jw0 L xs 27 = fun _ => 0 := rfl
theorem w0_28 : jw0 L xs 28 = fun _ => 0 := rfl
theorem w0_29 : jw0 L xs 29 = fun _ => 0 := rfl
theorem w0_30 : jw0 L xs 30 = fun _ => 0 := rfl
theorem w0_31 : jw0 L xs 31 = fun _ => 0 := rfl
theorem w0_32 : jw0 L xs 32 = fun _ => 0 := rfl
theorem w0_33 : jw0 L xs 33 = fun _ => 0 := rfl
theorem w0_34 : jw0 L xs 34 = fun _ => 0 := rfl
theorem w0_35 : jw0 L xs 35 = fun _ => 0 := rfl
theorem w0_36 : jw0 L xs 36 = fun _ => 0 := rfl
theorem w0_37 : jw0 L xs 37 = fun _ => 0 := rfl
theorem w0_38 : jw0 L xs 38 = fun _ => 0 := rfl
theorem w0_39 : jw0 L xs 39 = fun _ => 0 := rfl
theorem w0_40 : jw0 L xs 40 = fun _ => 0 := rfl
theorem w0_41 : jw0 L xs 41 = fun _ => 0 := rfl
theorem w0_42 : jw0 L xs 42 = fun _ => 0 := rfl
theorem w0_43 : jw0 L xs 43 = fun _ => 0 := rfl
theorem w0_44 : jw0 L xs 44 = fun _ => 0 := rfl
theorem w0_45 : jw0 L xs 45 = fun k => if k = 0 then 5 else if k = 10 then 1 else 0 := rfl
theorem w0_46 : jw0 L xs 46 = fun _ => 0 := rfl
theorem w0_47 : jw0 L xs 47 = fun _ => 0 := rfl
theorem w0_48 : jw0 L xs 48 = fun _ => 0 := rfl
theorem w0_49 : jw0 L xs 49 = fun _ => 0 := rfl
theorem w0_50 : jw0 L xs 50 = fun _ => 0 := rfl
theorem w0_51 : jw0 L xs 51 = fun _ => 0 := rfl
theorem w0_52 : jw0 L xs 52 = fun _ => 0 := rfl
theorem w0_53 : jw0 L xs 53 = fun _ => -1 := rfl
theorem w0_54 : jw0 L xs 54 = fun _ => 0 := rfl
theorem w0_55 : jw0 L xs 55 = fun _ => 0 := rfl
theorem w0_56 : jw0 L xs 56 = fun _ => 0 := rfl
theorem w0_57 : jw0 L xs 57 = fun _ => 0 := rfl
theorem w0_58 : jw0 L xs 58 = fun _ => 0 := rfl
theorem w0_59 : jw0 L xs 59 = fun _ => 0 := rfl
theorem w0_60 : jw0 L xs 60 = fun _ => 0 := rfl
theorem w0_61 : jw0 L xs 61 = fun _ => 0 := rfl
theorem w0_inv : INV 0 (jw0 L xs) := by
  refine ⟨⟨?_, ?_, ?_, Or.inl ?_⟩, ⟨?_, ?_⟩, ?_⟩
  · rw [w0_1, w0_2, w0_3, w0_4, w0_5, w0_6, w0_7]
    refine ⟨by decide, ⟨by decide, rfl⟩, by decide, by decide, fun _ _ _ => Or.inl rfl, fun p h1 h2 => ?_, fun p h1 h2 => ?_⟩
    · exfalso
      have : jini 3 = 0 := by decide
      omega
    · exfalso
      have : jini 4 = 0 := by decide
      omega
  · rw [w0_26, w0_27]
    exact ⟨by decide, by decide, fun _ _ _ => (show (0 : Int) ≤ 0 ∧ (0 : Int) ≤ 255 by decide)⟩
  · rw [w0_1, w0_23, w0_24, w0_25]
    exact ⟨fun s _ _ => ⟨Or.inl rfl, (show (0 : Int) ≤ 0 by decide), (show (0 : Int) ≤ 40 by decide)⟩, fun _ _ _ => (show in64 0 by unfold in64; omega)⟩
  · rw [w0_0]
  · rw [w0_45, w0_0, w0_1, w0_26]
    exact ⟨by decide, by decide, by decide, by decide, by decide, by decide, by decide⟩
  · rw [w0_46, w0_47, w0_48, w0_49, w0_50, w0_51, w0_52, w0_53, w0_54, w0_55, w0_56, w0_2, w0_3, w0_4, w0_5, w0_6, w0_7, w0_27, w0_23, w0_24, w0_25, w0_41]
    refine ⟨?_, ?_, ?_, ?_, ?_, ?_, ?_, ?_, ?_, ?_, ?_, fun h => ?_⟩
    any_goals exact fun _ _ _ => rfl
    rw [w0_0] at h
    exact absurd h (by decide)
  · unfold LK
    rw [w0_30, w0_37]
    exact ⟨by decide, by decide, fun _ _ _ => (show (0 : Int) ≤ 0 by decide)⟩
theorem w0_rng {o : Nat} (h : o < 62) (k : Int) : -1 ≤ jw0 L xs o k ∧ jw0 L xs o k ≤ 5 := by
  unfold jw0 jini
  by_cases h1 : o = 1 ∨ o = 8 ∨ o = 15
  · rw [if_pos h1]; split
    · omega
    · split <;> omega
  · rw [if_neg h1]
    by_cases h2 : o = 23 ∨ o = 53
    · rw [if_pos h2]; omega
    · rw [if_neg h2]
      by_cases h3 : o = 45
      · rw [if_pos h3]; split
        · omega
        · split <;> omega
      · rw [if_neg h3, if_neg (by omega), if_neg (by omega)]; omega
theorem w0_wr : jWR (jw0 L xs) := by
  intro o s hs k
  have h := w0_rng (L := L) (xs := xs) (List.getElem?_eq_some_iff.mp hs).1 k
  split
  · unfold in64; omega
  · unfold in32; omega
/-- the cells one by one -/
def jfF (ad : Nat → Nat) (w : jW) (o : Nat) : Nat → List Nat → List Value
  | _, [] => []
  | k, c :: r => jfv ad w o k c :: jfF ad w o (k + 1) r
theorem jfF_eq {ad : Nat → Nat} {w : jW} {o : Nat} : ∀ (l : List Nat) (k : Nat), l.mapIdx (fun i c => jfv ad w o (k + i) c) = jfF ad w o k l
  | [], _ => rfl
  | c :: r, k => by
    rw [List.mapIdx_cons, jfF, ← jfF_eq r (k + 1)]
    simp only [Nat.add_zero, Nat.add_assoc, Nat.add_comm 1]
def jwF (ad : Nat → Nat) (cs : ClassId × ClassId × ClassId) (w : jW) : Nat → List (Nat × Nat × List Nat) → va_W
  | _, [] => []
  | k, a :: r => (ad k, jcel ad cs w k a) :: jwF ad cs w (k + 1) r
theorem jwF_eq {ad : Nat → Nat} {cs : ClassId × ClassId × ClassId} {w : jW} : ∀ (l : List (Nat × Nat × List Nat)) (k : Nat), l.mapIdx (fun i a => (ad (k + i), jcel ad cs w (k + i) a)) = jwF ad cs w k l
  | [], _ => rfl
  | c :: r, k => by
    rw [List.mapIdx_cons, jwF, ← jwF_eq r (k + 1)]
    simp only [Nat.add_zero, Nat.add_assoc, Nat.add_comm 1]
theorem jws_F {ad : Nat → Nat} {cs : ClassId × ClassId × ClassId} {w : jW} : jws ad cs w = jwF ad cs w 0 jsh := by
  rw [← jwF_eq]
  unfold jws
  simp only [Nat.zero_add]
theorem jwF_st {ad : Nat → Nat} {cs : ClassId × ClassId × ClassId} {w : jW} {k q : Nat} {a : Nat × Nat × List Nat} {l : List (Nat × Nat × List Nat)} {e : va_E} {r : va_W} (h1 : ad k = q) (h2 : jcel ad cs w k a = e) (h3 : jwF ad cs w (k + 1) l = r) : jwF ad cs w k (a :: l) = (q, e) :: r := by rw [jwF, h1, h2, h3]
theorem jcel_F {ad : Nat → Nat} {cs : ClassId × ClassId × ClassId} {w : jW} {o : Nat} {s : Nat × Nat × List Nat} {f : Int → Int} {v : List Value} (h : s.1 < 8) (hw : w o = f) (hv : jfF ad (fun _ => f) o 0 s.2.2 = v) : jcel ad cs w o s = .inr (s.1, v) := by
  rw [jcel_obj h, ← hv, ← jfF_eq]
  simp only [Nat.zero_add]
  have e : (fun k c => jfv ad w o k c) = (fun k c => jfv ad (fun _ => f) o k c) := by
    funext k c
    unfold jfv
    rw [hw]
  exact congrArg (fun g => (Sum.inr (s.1, List.mapIdx g s.2.2) : va_E)) e
theorem jcel_I {ad : Nat → Nat} {cs : ClassId × ClassId × ClassId} {w : jW} {o n : Nat} {l : List Nat} {f : Int → Int} (hw : w o = f) : jcel ad cs w o (10, n, l) = .inl (cs.1, n, .inl (fun j => Int32.ofInt (f j))) := by rw [jcel_i rfl, hw]
theorem jcel_Z {ad : Nat → Nat} {cs : ClassId × ClassId × ClassId} {w : jW} {o n : Nat} {l : List Nat} {f : Int → Int} (hw : w o = f) : jcel ad cs w o (11, n, l) = .inl (cs.2.1, n, .inl (fun j => Int32.ofInt (f j))) := by rw [jcel_z rfl, hw]
theorem jcel_L {ad : Nat → Nat} {cs : ClassId × ClassId × ClassId} {w : jW} {o n : Nat} {l : List Nat} {f : Int → Int} (hw : w o = f) : jcel ad cs w o (12, n, l) = .inl (cs.2.2, n, .inr (.inl (fun j => Int64.ofInt (f j)))) := by rw [jcel_l rfl, hw]

theorem w0_o0 {ad : Nat → Nat} {g1 g8 g15 g22 g26 g28 g30 g38 g41 g42 g43 g44 : Nat} (e1 : ad 1 = g1) (e8 : ad 8 = g8) (e15 : ad 15 = g15) (e22 : ad 22 = g22) (e26 : ad 26 = g26) (e28 : ad 28 = g28) (e30 : ad 30 = g30) (e38 : ad 38 = g38) (e41 : ad 41 = g41) (e42 : ad 42 = g42) (e43 : ad 43 = g43) (e44 : ad 44 = g44) {cs : ClassId × ClassId × ClassId} : jcel ad cs (jw0 L xs) 0 (6, 0, [3, 10, 17, 1, 24, 28, 30, 32, 40, 43, 44, 45, 46]) = .inr (6, [.ref g1, .ref g8, .ref g15, .int 0, .ref g22, .ref g26, .ref g28, .ref g30, .ref g38, .ref g41, .ref g42, .ref g43, .ref g44]) := by
  subst e1 e8 e15 e22 e26 e28 e30 e38 e41 e42 e43 e44
  exact jcel_F (by decide) w0_0 rfl
theorem w0_o1 {ad : Nat → Nat} {g2 g3 g4 g5 g6 g7 : Nat} (e2 : ad 2 = g2) (e3 : ad 3 = g3) (e4 : ad 4 = g4) (e5 : ad 5 = g5) (e6 : ad 6 = g6) (e7 : ad 7 = g7) {cs : ClassId × ClassId × ClassId} : jcel ad cs (jw0 L xs) 1 (0, 0, [0, 0, 0, 0, 0, 4, 5, 6, 7, 8, 9]) = .inr (0, [.int 5, .int 0, .int 1, .int 0, .int 0, .ref g2, .ref g3, .ref g4, .ref g5, .ref g6, .ref g7]) := by
  subst e2 e3 e4 e5 e6 e7
  exact jcel_F (by decide) w0_1 rfl
theorem w0_o8 {ad : Nat → Nat} {g9 g10 g11 g12 g13 g14 : Nat} (e9 : ad 9 = g9) (e10 : ad 10 = g10) (e11 : ad 11 = g11) (e12 : ad 12 = g12) (e13 : ad 13 = g13) (e14 : ad 14 = g14) {cs : ClassId × ClassId × ClassId} : jcel ad cs (jw0 L xs) 8 (0, 0, [0, 0, 0, 0, 0, 11, 12, 13, 14, 15, 16]) = .inr (0, [.int 5, .int 0, .int 1, .int 0, .int 0, .ref g9, .ref g10, .ref g11, .ref g12, .ref g13, .ref g14]) := by
  subst e9 e10 e11 e12 e13 e14
  exact jcel_F (by decide) w0_8 rfl
theorem w0_o15 {ad : Nat → Nat} {g16 g17 g18 g19 g20 g21 : Nat} (e16 : ad 16 = g16) (e17 : ad 17 = g17) (e18 : ad 18 = g18) (e19 : ad 19 = g19) (e20 : ad 20 = g20) (e21 : ad 21 = g21) {cs : ClassId × ClassId × ClassId} : jcel ad cs (jw0 L xs) 15 (0, 0, [0, 0, 0, 0, 0, 18, 19, 20, 21, 22, 23]) = .inr (0, [.int 5, .int 0, .int 1, .int 0, .int 0, .ref g16, .ref g17, .ref g18, .ref g19, .ref g20, .ref g21]) := by
  subst e16 e17 e18 e19 e20 e21
  exact jcel_F (by decide) w0_15 rfl
theorem w0_o22 {ad : Nat → Nat} {g23 g24 g25 : Nat} (e23 : ad 23 = g23) (e24 : ad 24 = g24) (e25 : ad 25 = g25) {cs : ClassId × ClassId × ClassId} : jcel ad cs (jw0 L xs) 22 (3, 0, [25, 26, 27]) = .inr (3, [.ref g23, .ref g24, .ref g25]) := by
  subst e23 e24 e25
  exact jcel_F (by decide) w0_22 rfl
theorem w0_o26 {ad : Nat → Nat} {g27 : Nat} (e27 : ad 27 = g27) {cs : ClassId × ClassId × ClassId} : jcel ad cs (jw0 L xs) 26 (5, 0, [0, 0, 0, 29]) = .inr (5, [.int 0, .int 0, .int 0, .ref g27]) := by
  subst e27
  exact jcel_F (by decide) w0_26 rfl
theorem w0_o28 {ad : Nat → Nat} {g29 : Nat} (e29 : ad 29 = g29) {cs : ClassId × ClassId × ClassId} : jcel ad cs (jw0 L xs) 28 (4, 0, [31, 0]) = .inr (4, [.ref g29, .int 0]) := by
  subst e29
  exact jcel_F (by decide) w0_28 rfl
theorem w0_o30 {ad : Nat → Nat} {g31 g32 g33 g34 g35 g36 g37 : Nat} (e31 : ad 31 = g31) (e32 : ad 32 = g32) (e33 : ad 33 = g33) (e34 : ad 34 = g34) (e35 : ad 35 = g35) (e36 : ad 36 = g36) (e37 : ad 37 = g37) {cs : ClassId × ClassId × ClassId} : jcel ad cs (jw0 L xs) 30 (1, 0, [0, 33, 0, 34, 35, 36, 37, 38, 39, 0]) = .inr (1, [.int 0, .ref g31, .int 0, .ref g32, .ref g33, .ref g34, .ref g35, .ref g36, .ref g37, .int 0]) := by
  subst e31 e32 e33 e34 e35 e36 e37
  exact jcel_F (by decide) w0_30 rfl
theorem w0_o38 {ad : Nat → Nat} {g39 g40 : Nat} (e39 : ad 39 = g39) (e40 : ad 40 = g40) {cs : ClassId × ClassId × ClassId} : jcel ad cs (jw0 L xs) 38 (2, 0, [41, 42]) = .inr (2, [.ref g39, .ref g40]) := by
  subst e39 e40
  exact jcel_F (by decide) w0_38 rfl
theorem w0_o45 {ad : Nat → Nat} {g46 g47 g48 g49 g50 g51 g52 g53 g54 g55 g56 g57 g58 g59 g60 g61 : Nat} (e46 : ad 46 = g46) (e47 : ad 47 = g47) (e48 : ad 48 = g48) (e49 : ad 49 = g49) (e50 : ad 50 = g50) (e51 : ad 51 = g51) (e52 : ad 52 = g52) (e53 : ad 53 = g53) (e54 : ad 54 = g54) (e55 : ad 55 = g55) (e56 : ad 56 = g56) (e57 : ad 57 = g57) (e58 : ad 58 = g58) (e59 : ad 59 = g59) (e60 : ad 60 = g60) (e61 : ad 61 = g61) {cs : ClassId × ClassId × ClassId} : jcel ad cs (jw0 L xs) 45 (7, 0, [0, 48, 0, 0, 49, 50, 51, 0, 52, 53, 0, 0, 54, 0, 0, 0, 0, 55, 56, 57, 58, 1, 59, 60, 0, 61, 62, 63]) = .inr (7, [.int 5, .ref g46, .int 0, .int 0, .ref g47, .ref g48, .ref g49, .int 0, .ref g50, .ref g51, .int 1, .int 0, .ref g52, .int 0, .int 0, .int 0, .int 0, .ref g53, .ref g54, .ref g55, .ref g56, .int 0, .ref g57, .ref g58, .int 0, .ref g59, .ref g60, .ref g61]) := by
  subst e46 e47 e48 e49 e50 e51 e52 e53 e54 e55 e56 e57 e58 e59 e60 e61
  exact jcel_F (by decide) w0_45 rfl
set_option maxRecDepth 100000 in
set_option maxHeartbeats 4000000 in
theorem w0_list {ad : Nat → Nat} {g0 g1 g2 g3 g4 g5 g6 g7 g8 g9 g10 g11 g12 g13 g14 g15 g16 g17 g18 g19 g20 g21 g22 g23 g24 g25 g26 g27 g28 g29 g30 g31 g32 g33 g34 g35 g36 g37 g38 g39 g40 g41 g42 g43 g44 g45 g46 g47 g48 g49 g50 g51 g52 g53 g54 g55 g56 g57 g58 g59 g60 g61 : Nat} (e0 : ad 0 = g0) (e1 : ad 1 = g1) (e2 : ad 2 = g2) (e3 : ad 3 = g3) (e4 : ad 4 = g4) (e5 : ad 5 = g5) (e6 : ad 6 = g6) (e7 : ad 7 = g7) (e8 : ad 8 = g8) (e9 : ad 9 = g9) (e10 : ad 10 = g10) (e11 : ad 11 = g11) (e12 : ad 12 = g12) (e13 : ad 13 = g13) (e14 : ad 14 = g14) (e15 : ad 15 = g15) (e16 : ad 16 = g16) (e17 : ad 17 = g17) (e18 : ad 18 = g18) (e19 : ad 19 = g19) (e20 : ad 20 = g20) (e21 : ad 21 = g21) (e22 : ad 22 = g22) (e23 : ad 23 = g23) (e24 : ad 24 = g24) (e25 : ad 25 = g25) (e26 : ad 26 = g26) (e27 : ad 27 = g27) (e28 : ad 28 = g28) (e29 : ad 29 = g29) (e30 : ad 30 = g30) (e31 : ad 31 = g31) (e32 : ad 32 = g32) (e33 : ad 33 = g33) (e34 : ad 34 = g34) (e35 : ad 35 = g35) (e36 : ad 36 = g36) (e37 : ad 37 = g37) (e38 : ad 38 = g38) (e39 : ad 39 = g39) (e40 : ad 40 = g40) (e41 : ad 41 = g41) (e42 : ad 42 = g42) (e43 : ad 43 = g43) (e44 : ad 44 = g44) (e45 : ad 45 = g45) (e46 : ad 46 = g46) (e47 : ad 47 = g47) (e48 : ad 48 = g48) (e49 : ad 49 = g49) (e50 : ad 50 = g50) (e51 : ad 51 = g51) (e52 : ad 52 = g52) (e53 : ad 53 = g53) (e54 : ad 54 = g54) (e55 : ad 55 = g55) (e56 : ad 56 = g56) (e57 : ad 57 = g57) (e58 : ad 58 = g58) (e59 : ad 59 = g59) (e60 : ad 60 = g60) (e61 : ad 61 = g61) (cs : ClassId × ClassId × ClassId) : jws ad cs (jw0 L xs) = [(g0, .inr (6, [.ref g1, .ref g8, .ref g15, .int 0, .ref g22, .ref g26, .ref g28, .ref g30, .ref g38, .ref g41, .ref g42, .ref g43, .ref g44])), (g1, .inr (0, [.int 5, .int 0, .int 1, .int 0, .int 0, .ref g2, .ref g3, .ref g4, .ref g5, .ref g6, .ref g7])), (g2, .inl (cs.1, 67, .inl (fun _ => 0))), (g3, .inl (cs.1, 8, .inl (fun _ => 0))), (g4, .inl (cs.1, 8, .inl (fun _ => 0))), (g5, .inl (cs.1, 8, .inl (fun _ => 0))), (g6, .inl (cs.1, 4, .inl (fun _ => 0))), (g7, .inl (cs.1, 4, .inl (fun _ => 0))), (g8, .inr (0, [.int 5, .int 0, .int 1, .int 0, .int 0, .ref g9, .ref g10, .ref g11, .ref g12, .ref g13, .ref g14])), (g9, .inl (cs.1, 67, .inl (fun _ => 0))), (g10, .inl (cs.1, 8, .inl (fun _ => 0))), (g11, .inl (cs.1, 8, .inl (fun _ => 0))), (g12, .inl (cs.1, 8, .inl (fun _ => 0))), (g13, .inl (cs.1, 4, .inl (fun _ => 0))), (g14, .inl (cs.1, 4, .inl (fun _ => 0))), (g15, .inr (0, [.int 5, .int 0, .int 1, .int 0, .int 0, .ref g16, .ref g17, .ref g18, .ref g19, .ref g20, .ref g21])), (g16, .inl (cs.1, 67, .inl (fun _ => 0))), (g17, .inl (cs.1, 8, .inl (fun _ => 0))), (g18, .inl (cs.1, 8, .inl (fun _ => 0))), (g19, .inl (cs.1, 8, .inl (fun _ => 0))), (g20, .inl (cs.1, 4, .inl (fun _ => 0))), (g21, .inl (cs.1, 4, .inl (fun _ => 0))), (g22, .inr (3, [.ref g23, .ref g24, .ref g25])), (g23, .inl (cs.1, 8, .inl (fun _ => -1))), (g24, .inl (cs.1, 8, .inl (fun _ => 0))), (g25, .inl (cs.2.2, 320, .inr (.inl (fun _ => 0)))), (g26, .inr (5, [.int 0, .int 0, .int 0, .ref g27])), (g27, .inl (cs.1, 250, .inl (fun _ => 0))), (g28, .inr (4, [.ref g29, .int 0])), (g29, .inl (cs.1, 4, .inl (fun _ => 0))), (g30, .inr (1, [.int 0, .ref g31, .int 0, .ref g32, .ref g33, .ref g34, .ref g35, .ref g36, .ref g37, .int 0])), (g31, .inl (cs.1, 49, .inl (fun _ => 0))), (g32, .inl (cs.1, 392, .inl (fun _ => 0))), (g33, .inl (cs.1, 49, .inl (fun _ => 0))), (g34, .inl (cs.1, 49, .inl (fun _ => 0))), (g35, .inl (cs.1, 10, .inl (fun _ => 0))), (g36, .inl (cs.1, 490, .inl (fun _ => 0))), (g37, .inl (cs.1, 490, .inl (fun _ => 0))), (g38, .inr (2, [.ref g39, .ref g40])), (g39, .inl (cs.1, 67, .inl (fun _ => 0))), (g40, .inl (cs.1, 67, .inl (fun _ => 0))), (g41, .inl (cs.1, 5, .inl (fun _ => 0))), (g42, .inl (cs.1, 49, .inl (fun _ => 0))), (g43, .inl (cs.1, 20, .inl (fun _ => 0))), (g44, .inl (cs.1, 67, .inl (fun _ => 0))), (g45, .inr (7, [.int 5, .ref g46, .int 0, .int 0, .ref g47, .ref g48, .ref g49, .int 0, .ref g50, .ref g51, .int 1, .int 0, .ref g52, .int 0, .int 0, .int 0, .int 0, .ref g53, .ref g54, .ref g55, .ref g56, .int 0, .ref g57, .ref g58, .int 0, .ref g59, .ref g60, .ref g61])), (g46, .inl (cs.2.1, 67, .inl (fun _ => 0))), (g47, .inl (cs.1, 9, .inl (fun _ => 0))), (g48, .inl (cs.1, 9, .inl (fun _ => 0))), (g49, .inl (cs.1, 9, .inl (fun _ => 0))), (g50, .inl (cs.1, 4, .inl (fun _ => 0))), (g51, .inl (cs.1, 4, .inl (fun _ => 0))), (g52, .inl (cs.1, 250, .inl (fun _ => 0))), (g53, .inl (cs.1, 8, .inl (fun _ => -1))), (g54, .inl (cs.1, 8, .inl (fun _ => 0))), (g55, .inl (cs.2.2, 320, .inr (.inl (fun _ => 0)))), (g56, .inl (cs.1, 7, .inl (fun _ => 0))), (g57, .inl (cs.1, 104, .inl (fun _ => 0))), (g58, .inl (cs.1, 104, .inl (fun _ => 0))), (g59, .inl (cs.1, 4, .inl (fun _ => 0))), (g60, .inl (cs.1, 67, .inl (fun _ => 0))), (g61, .inl (cs.1, 67, .inl (fun _ => 0)))] :=
  jws_F.trans (jwF_st e0 (w0_o0 e1 e8 e15 e22 e26 e28 e30 e38 e41 e42 e43 e44) (jwF_st e1 (w0_o1 e2 e3 e4 e5 e6 e7) (jwF_st e2 (jcel_I w0_2) (jwF_st e3 (jcel_I w0_3) (jwF_st e4 (jcel_I w0_4) (jwF_st e5 (jcel_I w0_5) (jwF_st e6 (jcel_I w0_6) (jwF_st e7 (jcel_I w0_7) (jwF_st e8 (w0_o8 e9 e10 e11 e12 e13 e14) (jwF_st e9 (jcel_I w0_9) (jwF_st e10 (jcel_I w0_10) (jwF_st e11 (jcel_I w0_11) (jwF_st e12 (jcel_I w0_12) (jwF_st e13 (jcel_I w0_13) (jwF_st e14 (jcel_I w0_14) (jwF_st e15 (w0_o15 e16 e17 e18 e19 e20 e21) (jwF_st e16 (jcel_I w0_16) (jwF_st e17 (jcel_I w0_17) (jwF_st e18 (jcel_I w0_18) (jwF_st e19 (jcel_I w0_19) (jwF_st e20 (jcel_I w0_20) (jwF_st e21 (jcel_I w0_21) (jwF_st e22 (w0_o22 e23 e24 e25) (jwF_st e23 (jcel_I w0_23) (jwF_st e24 (jcel_I w0_24) (jwF_st e25 (jcel_L w0_25) (jwF_st e26 (w0_o26 e27) (jwF_st e27 (jcel_I w0_27) (jwF_st e28 (w0_o28 e29) (jwF_st e29 (jcel_I w0_29) (jwF_st e30 (w0_o30 e31 e32 e33 e34 e35 e36 e37) (jwF_st e31 (jcel_I w0_31) (jwF_st e32 (jcel_I w0_32) (jwF_st e33 (jcel_I w0_33) (jwF_st e34 (jcel_I w0_34) (jwF_st e35 (jcel_I w0_35) (jwF_st e36 (jcel_I w0_36) (jwF_st e37 (jcel_I w0_37) (jwF_st e38 (w0_o38 e39 e40) (jwF_st e39 (jcel_I w0_39) (jwF_st e40 (jcel_I w0_40) (jwF_st e41 (jcel_I w0_41) (jwF_st e42 (jcel_I w0_42) (jwF_st e43 (jcel_I w0_43) (jwF_st e44 (jcel_I w0_44) (jwF_st e45 (w0_o45 e46 e47 e48 e49 e50 e51 e52 e53 e54 e55 e56 e57 e58 e59 e60 e61) (jwF_st e46 (jcel_Z w0_46) (jwF_st e47 (jcel_I w0_47) (jwF_st e48 (jcel_I w0_48) (jwF_st e49 (jcel_I w0_49) (jwF_st e50 (jcel_I w0_50) (jwF_st e51 (jcel_I w0_51) (jwF_st e52 (jcel_I w0_52) (jwF_st e53 (jcel_I w0_53) (jwF_st e54 (jcel_I w0_54) (jwF_st e55 (jcel_L w0_55) (jwF_st e56 (jcel_I w0_56) (jwF_st e57 (jcel_I w0_57) (jwF_st e58 (jcel_I w0_58) (jwF_st e59 (jcel_I w0_59) (jwF_st e60 (jcel_I w0_60) (jwF_st e61 (jcel_I w0_61) rfl))))))))))))))))))))))))))))))))))))))))))))))))))))))))))))))
end W0
