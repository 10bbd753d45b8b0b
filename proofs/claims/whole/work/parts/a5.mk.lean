set_option maxHeartbeats 4000000 in
set_option maxRecDepth 100000 in
theorem k_fill (l : Launch) (D : va_G) (cs : ClassId × ClassId × ClassId) (h0 : Nat) (sz : Nat) : Met l kyF (.code kyF kcF 4 none :: tbG) ({ frames := 0, cells := 0, slots := 0, locals := 0 }) (va_Pc [.ref h0, .int (-1)] (fun U => U.heap.size = sz ∧ va_P D vwCl [(h0, .inl (cs.1, 8, .inl (fun _ => 0)))] U.heap ∧ va_K D vwCl (jtys cs) U ∧ va_D (fun _ => True) [(h0, .inl (cs.1, 8, .inl (fun _ => 0)))])) (va_Qv (fun _ : Unit => True) (fun _ t => va_P D vwCl [(h0, .inl (cs.1, 8, .inl (fun _ => -1)))] t.heap ∧ va_D (va_A [(h0, .inl (cs.1, 8, .inl (fun _ => 0)))] sz) [(h0, .inl (cs.1, 8, .inl (fun _ => -1)))]) (va_A [(h0, .inl (cs.1, 8, .inl (fun _ => 0)))] sz)) 0 0 (va_A [(h0, .inl (cs.1, 8, .inl (fun _ => 0)))] sz) := by
  refine Met.ofW (cc := kcF) (maxL := 4) (ret := none) (by decide) rfl ?_
  intro p e s m args below meth c s₁ B hml hv
  obtain ⟨rfl, hsz, hP, hK, hD0⟩ := hv
  have hx := B.exec
  have hb := B.bytes
  have hr := B.returns
  have hlocks := B.notSynchronized
  subst hsz
  have hD := hD0.self (sz := s.heap.size)
  generalize hAe : va_A [(h0, .inl (cs.1, 8, .inl (fun _ => 0)))] s.heap.size = A at hD ⊢
  have hA : ∀ q : Nat, s.heap.size ≤ q → A q := fun q h => by rw [← hAe]; exact Or.inr h
  have hS : va_S A s.heap s.heap [] := va_S.rf
  have hl := lv_entry ([.ref h0, .int (-1)]) (n := 4) (Nat.le_of_ble_eq_true rfl)
  rw [lg_entry_eq]
  generalize (lg_sl ([.ref h0, .int (-1)]) ++ List.replicate (4 - (lg_sl ([.ref h0, .int (-1)])).length) Slot.unset).toArray = ls at hl ⊢
  have hl : lv_has ls 4 [(0, .ref h0), (1, .int (-1))] := hl
  refine lv_iconst (v := 0) hx hb kdF_0 (by decide) ?_
  refine lv_istore_n (lv' := [(2, .int 0), (0, .ref h0), (1, .int (-1))]) hx hb kdF_1 rfl hl (by decide) rfl (fun ls hl => ?_)
  refine lv_aload_n hx hb kdF_2 rfl (lv_at hl 1 rfl) ?_
  refine va_alen (v := 8) hx hb hK hP 0 0 rfl rfl (by decide) kdF_3 ?_
  refine lv_istore_n (lv' := [(3, .int 8), (2, .int 0), (0, .ref h0), (1, .int (-1))]) hx hb kdF_4 rfl hl (by decide) rfl (fun ls hl => ?_)
  refine lv_iload_n hx hb kdF_5 rfl (lv_at hl 1 rfl) ?_
  refine lv_iload_n hx hb kdF_6 rfl (lv_at hl 0 rfl) ?_
  refine lv_icmp_ge (tgt := 20) hx hb kdF_7 (by decide) (fun hz => absurd hz (by decide)) (fun _ => ?_)
  refine lv_aload_n hx hb kdF_10 rfl (lv_at hl 2 rfl) ?_
  refine lv_iload_n hx hb kdF_11 rfl (lv_at hl 1 rfl) ?_
  refine lv_iload_n hx hb kdF_12 rfl (lv_at hl 3 rfl) ?_
  refine va_iast (i := 0) (x := (-1)) hx hb hK hP hD hS 0 0 rfl rfl (by unfold vp_in; decide) kdF_13 (fun H locs hP hD hS => ?_)
  have hP : va_P D vwCl [(h0, .inl (cs.1, 8, .inl (upd (fun _ => 0) 0 (-1))))] H := hP
  have hD : va_D A [(h0, .inl (cs.1, 8, .inl (upd (fun _ => 0) 0 (-1))))] := hD
  refine lv_iinc (v := 1) (lv' := [(2, .int 1), (3, .int 8), (0, .ref h0), (1, .int (-1))]) hx hb kdF_14 hl (k := 1) rfl (by decide) (by decide) rfl (fun ls hl => ?_)
  refine lv_goto (tgt := 5) hx hb kdF_17 (by decide) ?_
  refine lv_iload_n hx hb kdF_5 rfl (lv_at hl 0 rfl) ?_
  refine lv_iload_n hx hb kdF_6 rfl (lv_at hl 1 rfl) ?_
  refine lv_icmp_ge (tgt := 20) hx hb kdF_7 (by decide) (fun hz => absurd hz (by decide)) (fun _ => ?_)
  refine lv_aload_n hx hb kdF_10 rfl (lv_at hl 2 rfl) ?_
  refine lv_iload_n hx hb kdF_11 rfl (lv_at hl 0 rfl) ?_
  refine lv_iload_n hx hb kdF_12 rfl (lv_at hl 3 rfl) ?_
  refine va_iast (i := 1) (x := (-1)) hx hb hK hP hD hS 0 0 rfl rfl (by unfold vp_in; decide) kdF_13 (fun H locs hP hD hS => ?_)
  have hP : va_P D vwCl [(h0, .inl (cs.1, 8, .inl (upd (upd (fun _ => 0) 0 (-1)) 1 (-1))))] H := hP
  have hD : va_D A [(h0, .inl (cs.1, 8, .inl (upd (upd (fun _ => 0) 0 (-1)) 1 (-1))))] := hD
  refine lv_iinc (v := 2) (lv' := [(2, .int 2), (3, .int 8), (0, .ref h0), (1, .int (-1))]) hx hb kdF_14 hl (k := 0) rfl (by decide) (by decide) rfl (fun ls hl => ?_)
  refine lv_goto (tgt := 5) hx hb kdF_17 (by decide) ?_
  refine lv_iload_n hx hb kdF_5 rfl (lv_at hl 0 rfl) ?_
  refine lv_iload_n hx hb kdF_6 rfl (lv_at hl 1 rfl) ?_
  refine lv_icmp_ge (tgt := 20) hx hb kdF_7 (by decide) (fun hz => absurd hz (by decide)) (fun _ => ?_)
  refine lv_aload_n hx hb kdF_10 rfl (lv_at hl 2 rfl) ?_
  refine lv_iload_n hx hb kdF_11 rfl (lv_at hl 0 rfl) ?_
  refine lv_iload_n hx hb kdF_12 rfl (lv_at hl 3 rfl) ?_
  refine va_iast (i := 2) (x := (-1)) hx hb hK hP hD hS 0 0 rfl rfl (by unfold vp_in; decide) kdF_13 (fun H locs hP hD hS => ?_)
  have hP : va_P D vwCl [(h0, .inl (cs.1, 8, .inl (upd (upd (upd (fun _ => 0) 0 (-1)) 1 (-1)) 2 (-1))))] H := hP
  have hD : va_D A [(h0, .inl (cs.1, 8, .inl (upd (upd (upd (fun _ => 0) 0 (-1)) 1 (-1)) 2 (-1))))] := hD
  refine lv_iinc (v := 3) (lv' := [(2, .int 3), (3, .int 8), (0, .ref h0), (1, .int (-1))]) hx hb kdF_14 hl (k := 0) rfl (by decide) (by decide) rfl (fun ls hl => ?_)
  refine lv_goto (tgt := 5) hx hb kdF_17 (by decide) ?_
  refine lv_iload_n hx hb kdF_5 rfl (lv_at hl 0 rfl) ?_
  refine lv_iload_n hx hb kdF_6 rfl (lv_at hl 1 rfl) ?_
  refine lv_icmp_ge (tgt := 20) hx hb kdF_7 (by decide) (fun hz => absurd hz (by decide)) (fun _ => ?_)
  refine lv_aload_n hx hb kdF_10 rfl (lv_at hl 2 rfl) ?_
  refine lv_iload_n hx hb kdF_11 rfl (lv_at hl 0 rfl) ?_
  refine lv_iload_n hx hb kdF_12 rfl (lv_at hl 3 rfl) ?_
  refine va_iast (i := 3) (x := (-1)) hx hb hK hP hD hS 0 0 rfl rfl (by unfold vp_in; decide) kdF_13 (fun H locs hP hD hS => ?_)
  have hP : va_P D vwCl [(h0, .inl (cs.1, 8, .inl (upd (upd (upd (upd (fun _ => 0) 0 (-1)) 1 (-1)) 2 (-1)) 3 (-1))))] H := hP
  have hD : va_D A [(h0, .inl (cs.1, 8, .inl (upd (upd (upd (upd (fun _ => 0) 0 (-1)) 1 (-1)) 2 (-1)) 3 (-1))))] := hD
  refine lv_iinc (v := 4) (lv' := [(2, .int 4), (3, .int 8), (0, .ref h0), (1, .int (-1))]) hx hb kdF_14 hl (k := 0) rfl (by decide) (by decide) rfl (fun ls hl => ?_)
  refine lv_goto (tgt := 5) hx hb kdF_17 (by decide) ?_
  refine lv_iload_n hx hb kdF_5 rfl (lv_at hl 0 rfl) ?_
  refine lv_iload_n hx hb kdF_6 rfl (lv_at hl 1 rfl) ?_
  refine lv_icmp_ge (tgt := 20) hx hb kdF_7 (by decide) (fun hz => absurd hz (by decide)) (fun _ => ?_)
  refine lv_aload_n hx hb kdF_10 rfl (lv_at hl 2 rfl) ?_
  refine lv_iload_n hx hb kdF_11 rfl (lv_at hl 0 rfl) ?_
  refine lv_iload_n hx hb kdF_12 rfl (lv_at hl 3 rfl) ?_
  refine va_iast (i := 4) (x := (-1)) hx hb hK hP hD hS 0 0 rfl rfl (by unfold vp_in; decide) kdF_13 (fun H locs hP hD hS => ?_)
  have hP : va_P D vwCl [(h0, .inl (cs.1, 8, .inl (upd (upd (upd (upd (upd (fun _ => 0) 0 (-1)) 1 (-1)) 2 (-1)) 3 (-1)) 4 (-1))))] H := hP
  have hD : va_D A [(h0, .inl (cs.1, 8, .inl (upd (upd (upd (upd (upd (fun _ => 0) 0 (-1)) 1 (-1)) 2 (-1)) 3 (-1)) 4 (-1))))] := hD
  refine lv_iinc (v := 5) (lv' := [(2, .int 5), (3, .int 8), (0, .ref h0), (1, .int (-1))]) hx hb kdF_14 hl (k := 0) rfl (by decide) (by decide) rfl (fun ls hl => ?_)
  refine lv_goto (tgt := 5) hx hb kdF_17 (by decide) ?_
  refine lv_iload_n hx hb kdF_5 rfl (lv_at hl 0 rfl) ?_
  refine lv_iload_n hx hb kdF_6 rfl (lv_at hl 1 rfl) ?_
  refine lv_icmp_ge (tgt := 20) hx hb kdF_7 (by decide) (fun hz => absurd hz (by decide)) (fun _ => ?_)
  refine lv_aload_n hx hb kdF_10 rfl (lv_at hl 2 rfl) ?_
  refine lv_iload_n hx hb kdF_11 rfl (lv_at hl 0 rfl) ?_
  refine lv_iload_n hx hb kdF_12 rfl (lv_at hl 3 rfl) ?_
  refine va_iast (i := 5) (x := (-1)) hx hb hK hP hD hS 0 0 rfl rfl (by unfold vp_in; decide) kdF_13 (fun H locs hP hD hS => ?_)
  have hP : va_P D vwCl [(h0, .inl (cs.1, 8, .inl (upd (upd (upd (upd (upd (upd (fun _ => 0) 0 (-1)) 1 (-1)) 2 (-1)) 3 (-1)) 4 (-1)) 5 (-1))))] H := hP
  have hD : va_D A [(h0, .inl (cs.1, 8, .inl (upd (upd (upd (upd (upd (upd (fun _ => 0) 0 (-1)) 1 (-1)) 2 (-1)) 3 (-1)) 4 (-1)) 5 (-1))))] := hD
  refine lv_iinc (v := 6) (lv' := [(2, .int 6), (3, .int 8), (0, .ref h0), (1, .int (-1))]) hx hb kdF_14 hl (k := 0) rfl (by decide) (by decide) rfl (fun ls hl => ?_)
  refine lv_goto (tgt := 5) hx hb kdF_17 (by decide) ?_
  refine lv_iload_n hx hb kdF_5 rfl (lv_at hl 0 rfl) ?_
  refine lv_iload_n hx hb kdF_6 rfl (lv_at hl 1 rfl) ?_
  refine lv_icmp_ge (tgt := 20) hx hb kdF_7 (by decide) (fun hz => absurd hz (by decide)) (fun _ => ?_)
  refine lv_aload_n hx hb kdF_10 rfl (lv_at hl 2 rfl) ?_
  refine lv_iload_n hx hb kdF_11 rfl (lv_at hl 0 rfl) ?_
  refine lv_iload_n hx hb kdF_12 rfl (lv_at hl 3 rfl) ?_
  refine va_iast (i := 6) (x := (-1)) hx hb hK hP hD hS 0 0 rfl rfl (by unfold vp_in; decide) kdF_13 (fun H locs hP hD hS => ?_)
  have hP : va_P D vwCl [(h0, .inl (cs.1, 8, .inl (upd (upd (upd (upd (upd (upd (upd (fun _ => 0) 0 (-1)) 1 (-1)) 2 (-1)) 3 (-1)) 4 (-1)) 5 (-1)) 6 (-1))))] H := hP
  have hD : va_D A [(h0, .inl (cs.1, 8, .inl (upd (upd (upd (upd (upd (upd (upd (fun _ => 0) 0 (-1)) 1 (-1)) 2 (-1)) 3 (-1)) 4 (-1)) 5 (-1)) 6 (-1))))] := hD
  refine lv_iinc (v := 7) (lv' := [(2, .int 7), (3, .int 8), (0, .ref h0), (1, .int (-1))]) hx hb kdF_14 hl (k := 0) rfl (by decide) (by decide) rfl (fun ls hl => ?_)
  refine lv_goto (tgt := 5) hx hb kdF_17 (by decide) ?_
  refine lv_iload_n hx hb kdF_5 rfl (lv_at hl 0 rfl) ?_
  refine lv_iload_n hx hb kdF_6 rfl (lv_at hl 1 rfl) ?_
  refine lv_icmp_ge (tgt := 20) hx hb kdF_7 (by decide) (fun hz => absurd hz (by decide)) (fun _ => ?_)
  refine lv_aload_n hx hb kdF_10 rfl (lv_at hl 2 rfl) ?_
  refine lv_iload_n hx hb kdF_11 rfl (lv_at hl 0 rfl) ?_
  refine lv_iload_n hx hb kdF_12 rfl (lv_at hl 3 rfl) ?_
  refine va_iast (i := 7) (x := (-1)) hx hb hK hP hD hS 0 0 rfl rfl (by unfold vp_in; decide) kdF_13 (fun H locs hP hD hS => ?_)
  have hP : va_P D vwCl [(h0, .inl (cs.1, 8, .inl (upd (upd (upd (upd (upd (upd (upd (upd (fun _ => 0) 0 (-1)) 1 (-1)) 2 (-1)) 3 (-1)) 4 (-1)) 5 (-1)) 6 (-1)) 7 (-1))))] H := hP
  have hD : va_D A [(h0, .inl (cs.1, 8, .inl (upd (upd (upd (upd (upd (upd (upd (upd (fun _ => 0) 0 (-1)) 1 (-1)) 2 (-1)) 3 (-1)) 4 (-1)) 5 (-1)) 6 (-1)) 7 (-1))))] := hD
  refine lv_iinc (v := 8) (lv' := [(2, .int 8), (3, .int 8), (0, .ref h0), (1, .int (-1))]) hx hb kdF_14 hl (k := 0) rfl (by decide) (by decide) rfl (fun ls hl => ?_)
  refine lv_goto (tgt := 5) hx hb kdF_17 (by decide) ?_
  refine lv_iload_n hx hb kdF_5 rfl (lv_at hl 0 rfl) ?_
  refine lv_iload_n hx hb kdF_6 rfl (lv_at hl 1 rfl) ?_
  refine lv_icmp_ge (tgt := 20) hx hb kdF_7 (by decide) (fun _ => ?_) (fun hz => absurd (by decide) hz)
  have hP := hP.eqA hD 0 rfl (g := fun _ => -1) (fun j hj => by rcases (show j = 0 ∨ j = 1 ∨ j = 2 ∨ j = 3 ∨ j = 4 ∨ j = 5 ∨ j = 6 ∨ j = 7 by omega) with rfl | rfl | rfl | rfl | rfl | rfl | rfl | rfl <;> rfl)
  have hD := hD.set (e := .inl (cs.1, 8, .inl (fun _ => -1))) (p := 0) rfl
  exact W.vret hx hb hr (fun t ht hW => ⟨⟨(), rfl, trivial, by rw [ht]; exact hP, hD⟩, hS.F ht⟩) hS.2.2 kdF_20
set_option maxHeartbeats 4000000 in
set_option maxRecDepth 100000 in
theorem k_init0 (l : Launch) (D : va_G) (cs : ClassId × ClassId × ClassId) (h0 : Nat) (sz : Nat) : Met l ky0 (.code ky0 kc0 1 none :: tbG) ({ frames := 1, cells := 6, slots := 99, locals := 12 }) (va_Pc [.ref h0] (fun U => U.heap.size = sz ∧ va_P D vwCl [(h0, .inr (0, [.int 0, .int 0, .int 0, .int 0, .int 0, .null, .null, .null, .null, .null, .null]))] U.heap ∧ va_K D vwCl (jtys cs) U ∧ va_D (fun _ => True) [(h0, .inr (0, [.int 0, .int 0, .int 0, .int 0, .int 0, .null, .null, .null, .null, .null, .null]))])) (va_Qv (fun _ : Unit => True) (fun _ t => ∃ q1 q2 q3 q4 q5 q6 : Nat, va_P D vwCl [(h0, .inr (0, [.int 5, .int 0, .int 1, .int 0, .int 0, .ref q1, .ref q2, .ref q3, .ref q4, .ref q5, .ref q6])), (q1, .inl (cs.1, 67, .inl (fun _ => 0))), (q2, .inl (cs.1, 8, .inl (fun _ => 0))), (q3, .inl (cs.1, 8, .inl (fun _ => 0))), (q4, .inl (cs.1, 8, .inl (fun _ => 0))), (q5, .inl (cs.1, 4, .inl (fun _ => 0))), (q6, .inl (cs.1, 4, .inl (fun _ => 0)))] t.heap ∧ va_D (va_A [(h0, .inr (0, [.int 0, .int 0, .int 0, .int 0, .int 0, .null, .null, .null, .null, .null, .null]))] sz) [(h0, .inr (0, [.int 5, .int 0, .int 1, .int 0, .int 0, .ref q1, .ref q2, .ref q3, .ref q4, .ref q5, .ref q6])), (q1, .inl (cs.1, 67, .inl (fun _ => 0))), (q2, .inl (cs.1, 8, .inl (fun _ => 0))), (q3, .inl (cs.1, 8, .inl (fun _ => 0))), (q4, .inl (cs.1, 8, .inl (fun _ => 0))), (q5, .inl (cs.1, 4, .inl (fun _ => 0))), (q6, .inl (cs.1, 4, .inl (fun _ => 0)))]) (va_A [(h0, .inr (0, [.int 0, .int 0, .int 0, .int 0, .int 0, .null, .null, .null, .null, .null, .null]))] sz)) 6 99 (va_A [(h0, .inr (0, [.int 0, .int 0, .int 0, .int 0, .int 0, .null, .null, .null, .null, .null, .null]))] sz) := by
  refine Met.ofW (cc := kc0) (maxL := 1) (ret := none) (by decide) rfl ?_
  intro p e s m args below meth c s₁ B hml hv
  obtain ⟨rfl, hsz, hP, hK, hD0⟩ := hv
  have hx := B.exec
  have hb := B.bytes
  have hr := B.returns
  have hts : ∀ w ∈ tbG, w.before _ s = true := fun w hw => atoms_spec (ws := .code ky0 kc0 1 none :: tbG) B.pre w (List.mem_cons_of_mem _ hw)
  have hown : s.vm.findClass RX0 = some m.cls := findClass_of_methodNamed B.named
  have hlocks := B.notSynchronized
  have hin : meth.name = "<init>" := (name_of_methodNamed B.named B.method).1
  subst hsz
  have hD := hD0.self (sz := s.heap.size)
  generalize hAe : va_A [(h0, .inr (0, [.int 0, .int 0, .int 0, .int 0, .int 0, .null, .null, .null, .null, .null, .null]))] s.heap.size = A at hD ⊢
  have hA : ∀ q : Nat, s.heap.size ≤ q → A q := fun q h => by rw [← hAe]; exact Or.inr h
  have hS : va_S A s.heap s.heap [] := va_S.rf
  have hl := lv_entry ([.ref h0]) (n := 1) (Nat.le_of_ble_eq_true rfl)
  rw [lg_entry_eq]
  generalize (lg_sl ([.ref h0]) ++ List.replicate (1 - (lg_sl ([.ref h0])).length) Slot.unset).toArray = ls at hl ⊢
  have hl : lv_has ls 1 [(0, .ref h0)] := hl
  refine lv_aload_n hx hb kd0_0 rfl (lv_at hl 0 rfl) ?_
  refine W.objInit hx hb hown (hts _ (kn_in 0 rfl)) (hts _ (kn_in 1 rfl)) (hts _ (kn_in 2 rfl)) rfl (by rw [hml]; exact hl.1) rfl kd0_1 (Nat.le_of_ble_eq_true rfl) (Nat.le_of_ble_eq_true rfl) ?_
  refine W.eq (g2 := F0 m 4 ls []) rfl ?_
  refine lv_aload_n hx hb kd0_4 rfl (lv_at hl 0 rfl) ?_
  refine lv_iconst (v := 5) hx hb kd0_5 (by decide) ?_
  refine va_put (D := D) (ci := 0) (v := .int 5) (ty := .int) (C := RX0) (T := TX0) (N := 11) hx hb hts (jcl_ws (a := 0) (by decide)) tyX0 tyX0_ok nmX0 hown hK hP hD hS 0 rfl rfl 0 (by decide) (hts _ (kn_in 3 rfl)) (fun _ h9 => h9) rfl (by decide +kernel) rfl rfl (Nat.le_of_ble_eq_true rfl) kd0_6 (fun H locs hP hD hS => ?_)
  have hP : va_P D vwCl [(h0, .inr (0, [.int 5, .int 0, .int 0, .int 0, .int 0, .null, .null, .null, .null, .null, .null]))] H := hP
  have hD : va_D A [(h0, .inr (0, [.int 5, .int 0, .int 0, .int 0, .int 0, .null, .null, .null, .null, .null, .null]))] := hD
  refine lv_aload_n hx hb kd0_9 rfl (lv_at hl 0 rfl) ?_
  refine lv_iconst (v := 1) hx hb kd0_10 (by decide) ?_
  refine va_put (D := D) (ci := 0) (v := .int 1) (ty := .int) (C := RX0) (T := TX0) (N := 11) hx hb hts (jcl_ws (a := 0) (by decide)) tyX0 tyX0_ok nmX0 hown hK hP hD hS 0 rfl rfl 2 (by decide) (hts _ (kn_in 4 rfl)) (fun _ h9 => h9) rfl (by decide +kernel) rfl rfl (Nat.le_of_ble_eq_true rfl) kd0_11 (fun H locs hP hD hS => ?_)
  have hP : va_P D vwCl [(h0, .inr (0, [.int 5, .int 0, .int 1, .int 0, .int 0, .null, .null, .null, .null, .null, .null]))] H := hP
  have hD : va_D A [(h0, .inr (0, [.int 5, .int 0, .int 1, .int 0, .int 0, .null, .null, .null, .null, .null, .null]))] := hD
  refine lv_aload_n hx hb kd0_14 rfl (lv_at hl 0 rfl) ?_
  refine lv_bipush (v := 67) hx hb kd0_15 (by decide) ?_
  refine va_newa (atype := .int) (n := 67) (N' := 67) (a0 := (67, .inl (fun _ => 0))) hx hb (hts _ (kn_in 5 rfl)) rfl hK hP hD hS hA (fun _ => rfl) (by decide) (by decide) (Nat.le_of_ble_eq_true rfl) (Nat.le_of_ble_eq_true rfl) (Nat.le_of_ble_eq_true rfl) kd0_17 (fun q1 cA H hK2 hP hD hS => ?_)
  obtain rfl := k_int hK2
  have hP : va_P D vwCl [(h0, .inr (0, [.int 5, .int 0, .int 1, .int 0, .int 0, .null, .null, .null, .null, .null, .null])), (q1, .inl (cs.1, 67, .inl (fun _ => 0)))] H := hP
  have hD : va_D A [(h0, .inr (0, [.int 5, .int 0, .int 1, .int 0, .int 0, .null, .null, .null, .null, .null, .null])), (q1, .inl (cs.1, 67, .inl (fun _ => 0)))] := hD
  refine va_putF (D := D) (ci := 0) (v := .ref q1) (ty := .array .int) (C := RX0) (T := TX0) (N := 11) hx hb hts (jcl_ws (a := 0) (by decide)) tyX0 tyX0_ok nmX0 hown hK hP hD hS 0 rfl rfl 5 (by decide) (hts _ (kn_in 6 rfl)) (fun _ h9 => h9) rfl hin rfl (by decide +kernel) rfl rfl (Nat.le_of_ble_eq_true rfl) kd0_19 (fun H locs hP hD hS => ?_)
  have hP : va_P D vwCl [(h0, .inr (0, [.int 5, .int 0, .int 1, .int 0, .int 0, .ref q1, .null, .null, .null, .null, .null])), (q1, .inl (cs.1, 67, .inl (fun _ => 0)))] H := hP
  have hD : va_D A [(h0, .inr (0, [.int 5, .int 0, .int 1, .int 0, .int 0, .ref q1, .null, .null, .null, .null, .null])), (q1, .inl (cs.1, 67, .inl (fun _ => 0)))] := hD
  refine lv_aload_n hx hb kd0_22 rfl (lv_at hl 0 rfl) ?_
  refine lv_bipush (v := 8) hx hb kd0_23 (by decide) ?_
  refine va_newa (atype := .int) (n := 8) (N' := 8) (a0 := (8, .inl (fun _ => 0))) hx hb (hts _ (kn_in 5 rfl)) rfl hK hP hD hS hA (fun _ => rfl) (by decide) (by decide) (Nat.le_of_ble_eq_true rfl) (Nat.le_of_ble_eq_true rfl) (Nat.le_of_ble_eq_true rfl) kd0_25 (fun q2 cA H hK2 hP hD hS => ?_)
  obtain rfl := k_int hK2
  have hP : va_P D vwCl [(h0, .inr (0, [.int 5, .int 0, .int 1, .int 0, .int 0, .ref q1, .null, .null, .null, .null, .null])), (q1, .inl (cs.1, 67, .inl (fun _ => 0))), (q2, .inl (cs.1, 8, .inl (fun _ => 0)))] H := hP
  have hD : va_D A [(h0, .inr (0, [.int 5, .int 0, .int 1, .int 0, .int 0, .ref q1, .null, .null, .null, .null, .null])), (q1, .inl (cs.1, 67, .inl (fun _ => 0))), (q2, .inl (cs.1, 8, .inl (fun _ => 0)))] := hD
  refine va_putF (D := D) (ci := 0) (v := .ref q2) (ty := .array .int) (C := RX0) (T := TX0) (N := 11) hx hb hts (jcl_ws (a := 0) (by decide)) tyX0 tyX0_ok nmX0 hown hK hP hD hS 0 rfl rfl 6 (by decide) (hts _ (kn_in 7 rfl)) (fun _ h9 => h9) rfl hin rfl (by decide +kernel) rfl rfl (Nat.le_of_ble_eq_true rfl) kd0_27 (fun H locs hP hD hS => ?_)
  have hP : va_P D vwCl [(h0, .inr (0, [.int 5, .int 0, .int 1, .int 0, .int 0, .ref q1, .ref q2, .null, .null, .null, .null])), (q1, .inl (cs.1, 67, .inl (fun _ => 0))), (q2, .inl (cs.1, 8, .inl (fun _ => 0)))] H := hP
  have hD : va_D A [(h0, .inr (0, [.int 5, .int 0, .int 1, .int 0, .int 0, .ref q1, .ref q2, .null, .null, .null, .null])), (q1, .inl (cs.1, 67, .inl (fun _ => 0))), (q2, .inl (cs.1, 8, .inl (fun _ => 0)))] := hD
  refine lv_aload_n hx hb kd0_30 rfl (lv_at hl 0 rfl) ?_
  refine lv_bipush (v := 8) hx hb kd0_31 (by decide) ?_
  refine va_newa (atype := .int) (n := 8) (N' := 8) (a0 := (8, .inl (fun _ => 0))) hx hb (hts _ (kn_in 5 rfl)) rfl hK hP hD hS hA (fun _ => rfl) (by decide) (by decide) (Nat.le_of_ble_eq_true rfl) (Nat.le_of_ble_eq_true rfl) (Nat.le_of_ble_eq_true rfl) kd0_33 (fun q3 cA H hK2 hP hD hS => ?_)
  obtain rfl := k_int hK2
  have hP : va_P D vwCl [(h0, .inr (0, [.int 5, .int 0, .int 1, .int 0, .int 0, .ref q1, .ref q2, .null, .null, .null, .null])), (q1, .inl (cs.1, 67, .inl (fun _ => 0))), (q2, .inl (cs.1, 8, .inl (fun _ => 0))), (q3, .inl (cs.1, 8, .inl (fun _ => 0)))] H := hP
  have hD : va_D A [(h0, .inr (0, [.int 5, .int 0, .int 1, .int 0, .int 0, .ref q1, .ref q2, .null, .null, .null, .null])), (q1, .inl (cs.1, 67, .inl (fun _ => 0))), (q2, .inl (cs.1, 8, .inl (fun _ => 0))), (q3, .inl (cs.1, 8, .inl (fun _ => 0)))] := hD
  refine va_putF (D := D) (ci := 0) (v := .ref q3) (ty := .array .int) (C := RX0) (T := TX0) (N := 11) hx hb hts (jcl_ws (a := 0) (by decide)) tyX0 tyX0_ok nmX0 hown hK hP hD hS 0 rfl rfl 7 (by decide) (hts _ (kn_in 8 rfl)) (fun _ h9 => h9) rfl hin rfl (by decide +kernel) rfl rfl (Nat.le_of_ble_eq_true rfl) kd0_35 (fun H locs hP hD hS => ?_)
  have hP : va_P D vwCl [(h0, .inr (0, [.int 5, .int 0, .int 1, .int 0, .int 0, .ref q1, .ref q2, .ref q3, .null, .null, .null])), (q1, .inl (cs.1, 67, .inl (fun _ => 0))), (q2, .inl (cs.1, 8, .inl (fun _ => 0))), (q3, .inl (cs.1, 8, .inl (fun _ => 0)))] H := hP
  have hD : va_D A [(h0, .inr (0, [.int 5, .int 0, .int 1, .int 0, .int 0, .ref q1, .ref q2, .ref q3, .null, .null, .null])), (q1, .inl (cs.1, 67, .inl (fun _ => 0))), (q2, .inl (cs.1, 8, .inl (fun _ => 0))), (q3, .inl (cs.1, 8, .inl (fun _ => 0)))] := hD
  refine lv_aload_n hx hb kd0_38 rfl (lv_at hl 0 rfl) ?_
  refine lv_bipush (v := 8) hx hb kd0_39 (by decide) ?_
  refine va_newa (atype := .int) (n := 8) (N' := 8) (a0 := (8, .inl (fun _ => 0))) hx hb (hts _ (kn_in 5 rfl)) rfl hK hP hD hS hA (fun _ => rfl) (by decide) (by decide) (Nat.le_of_ble_eq_true rfl) (Nat.le_of_ble_eq_true rfl) (Nat.le_of_ble_eq_true rfl) kd0_41 (fun q4 cA H hK2 hP hD hS => ?_)
  obtain rfl := k_int hK2
  have hP : va_P D vwCl [(h0, .inr (0, [.int 5, .int 0, .int 1, .int 0, .int 0, .ref q1, .ref q2, .ref q3, .null, .null, .null])), (q1, .inl (cs.1, 67, .inl (fun _ => 0))), (q2, .inl (cs.1, 8, .inl (fun _ => 0))), (q3, .inl (cs.1, 8, .inl (fun _ => 0))), (q4, .inl (cs.1, 8, .inl (fun _ => 0)))] H := hP
  have hD : va_D A [(h0, .inr (0, [.int 5, .int 0, .int 1, .int 0, .int 0, .ref q1, .ref q2, .ref q3, .null, .null, .null])), (q1, .inl (cs.1, 67, .inl (fun _ => 0))), (q2, .inl (cs.1, 8, .inl (fun _ => 0))), (q3, .inl (cs.1, 8, .inl (fun _ => 0))), (q4, .inl (cs.1, 8, .inl (fun _ => 0)))] := hD
  refine va_putF (D := D) (ci := 0) (v := .ref q4) (ty := .array .int) (C := RX0) (T := TX0) (N := 11) hx hb hts (jcl_ws (a := 0) (by decide)) tyX0 tyX0_ok nmX0 hown hK hP hD hS 0 rfl rfl 8 (by decide) (hts _ (kn_in 9 rfl)) (fun _ h9 => h9) rfl hin rfl (by decide +kernel) rfl rfl (Nat.le_of_ble_eq_true rfl) kd0_43 (fun H locs hP hD hS => ?_)
  have hP : va_P D vwCl [(h0, .inr (0, [.int 5, .int 0, .int 1, .int 0, .int 0, .ref q1, .ref q2, .ref q3, .ref q4, .null, .null])), (q1, .inl (cs.1, 67, .inl (fun _ => 0))), (q2, .inl (cs.1, 8, .inl (fun _ => 0))), (q3, .inl (cs.1, 8, .inl (fun _ => 0))), (q4, .inl (cs.1, 8, .inl (fun _ => 0)))] H := hP
  have hD : va_D A [(h0, .inr (0, [.int 5, .int 0, .int 1, .int 0, .int 0, .ref q1, .ref q2, .ref q3, .ref q4, .null, .null])), (q1, .inl (cs.1, 67, .inl (fun _ => 0))), (q2, .inl (cs.1, 8, .inl (fun _ => 0))), (q3, .inl (cs.1, 8, .inl (fun _ => 0))), (q4, .inl (cs.1, 8, .inl (fun _ => 0)))] := hD
  refine lv_aload_n hx hb kd0_46 rfl (lv_at hl 0 rfl) ?_
  refine lv_iconst (v := 4) hx hb kd0_47 (by decide) ?_
  refine va_newa (atype := .int) (n := 4) (N' := 4) (a0 := (4, .inl (fun _ => 0))) hx hb (hts _ (kn_in 5 rfl)) rfl hK hP hD hS hA (fun _ => rfl) (by decide) (by decide) (Nat.le_of_ble_eq_true rfl) (Nat.le_of_ble_eq_true rfl) (Nat.le_of_ble_eq_true rfl) kd0_48 (fun q5 cA H hK2 hP hD hS => ?_)
  obtain rfl := k_int hK2
  have hP : va_P D vwCl [(h0, .inr (0, [.int 5, .int 0, .int 1, .int 0, .int 0, .ref q1, .ref q2, .ref q3, .ref q4, .null, .null])), (q1, .inl (cs.1, 67, .inl (fun _ => 0))), (q2, .inl (cs.1, 8, .inl (fun _ => 0))), (q3, .inl (cs.1, 8, .inl (fun _ => 0))), (q4, .inl (cs.1, 8, .inl (fun _ => 0))), (q5, .inl (cs.1, 4, .inl (fun _ => 0)))] H := hP
  have hD : va_D A [(h0, .inr (0, [.int 5, .int 0, .int 1, .int 0, .int 0, .ref q1, .ref q2, .ref q3, .ref q4, .null, .null])), (q1, .inl (cs.1, 67, .inl (fun _ => 0))), (q2, .inl (cs.1, 8, .inl (fun _ => 0))), (q3, .inl (cs.1, 8, .inl (fun _ => 0))), (q4, .inl (cs.1, 8, .inl (fun _ => 0))), (q5, .inl (cs.1, 4, .inl (fun _ => 0)))] := hD
  refine va_putF (D := D) (ci := 0) (v := .ref q5) (ty := .array .int) (C := RX0) (T := TX0) (N := 11) hx hb hts (jcl_ws (a := 0) (by decide)) tyX0 tyX0_ok nmX0 hown hK hP hD hS 0 rfl rfl 9 (by decide) (hts _ (kn_in 10 rfl)) (fun _ h9 => h9) rfl hin rfl (by decide +kernel) rfl rfl (Nat.le_of_ble_eq_true rfl) kd0_50 (fun H locs hP hD hS => ?_)
  have hP : va_P D vwCl [(h0, .inr (0, [.int 5, .int 0, .int 1, .int 0, .int 0, .ref q1, .ref q2, .ref q3, .ref q4, .ref q5, .null])), (q1, .inl (cs.1, 67, .inl (fun _ => 0))), (q2, .inl (cs.1, 8, .inl (fun _ => 0))), (q3, .inl (cs.1, 8, .inl (fun _ => 0))), (q4, .inl (cs.1, 8, .inl (fun _ => 0))), (q5, .inl (cs.1, 4, .inl (fun _ => 0)))] H := hP
  have hD : va_D A [(h0, .inr (0, [.int 5, .int 0, .int 1, .int 0, .int 0, .ref q1, .ref q2, .ref q3, .ref q4, .ref q5, .null])), (q1, .inl (cs.1, 67, .inl (fun _ => 0))), (q2, .inl (cs.1, 8, .inl (fun _ => 0))), (q3, .inl (cs.1, 8, .inl (fun _ => 0))), (q4, .inl (cs.1, 8, .inl (fun _ => 0))), (q5, .inl (cs.1, 4, .inl (fun _ => 0)))] := hD
  refine lv_aload_n hx hb kd0_53 rfl (lv_at hl 0 rfl) ?_
  refine lv_iconst (v := 4) hx hb kd0_54 (by decide) ?_
  refine va_newa (atype := .int) (n := 4) (N' := 4) (a0 := (4, .inl (fun _ => 0))) hx hb (hts _ (kn_in 5 rfl)) rfl hK hP hD hS hA (fun _ => rfl) (by decide) (by decide) (Nat.le_of_ble_eq_true rfl) (Nat.le_of_ble_eq_true rfl) (Nat.le_of_ble_eq_true rfl) kd0_55 (fun q6 cA H hK2 hP hD hS => ?_)
  obtain rfl := k_int hK2
  have hP : va_P D vwCl [(h0, .inr (0, [.int 5, .int 0, .int 1, .int 0, .int 0, .ref q1, .ref q2, .ref q3, .ref q4, .ref q5, .null])), (q1, .inl (cs.1, 67, .inl (fun _ => 0))), (q2, .inl (cs.1, 8, .inl (fun _ => 0))), (q3, .inl (cs.1, 8, .inl (fun _ => 0))), (q4, .inl (cs.1, 8, .inl (fun _ => 0))), (q5, .inl (cs.1, 4, .inl (fun _ => 0))), (q6, .inl (cs.1, 4, .inl (fun _ => 0)))] H := hP
  have hD : va_D A [(h0, .inr (0, [.int 5, .int 0, .int 1, .int 0, .int 0, .ref q1, .ref q2, .ref q3, .ref q4, .ref q5, .null])), (q1, .inl (cs.1, 67, .inl (fun _ => 0))), (q2, .inl (cs.1, 8, .inl (fun _ => 0))), (q3, .inl (cs.1, 8, .inl (fun _ => 0))), (q4, .inl (cs.1, 8, .inl (fun _ => 0))), (q5, .inl (cs.1, 4, .inl (fun _ => 0))), (q6, .inl (cs.1, 4, .inl (fun _ => 0)))] := hD
  refine va_putF (D := D) (ci := 0) (v := .ref q6) (ty := .array .int) (C := RX0) (T := TX0) (N := 11) hx hb hts (jcl_ws (a := 0) (by decide)) tyX0 tyX0_ok nmX0 hown hK hP hD hS 0 rfl rfl 10 (by decide) (hts _ (kn_in 11 rfl)) (fun _ h9 => h9) rfl hin rfl (by decide +kernel) rfl rfl (Nat.le_of_ble_eq_true rfl) kd0_57 (fun H locs hP hD hS => ?_)
  have hP : va_P D vwCl [(h0, .inr (0, [.int 5, .int 0, .int 1, .int 0, .int 0, .ref q1, .ref q2, .ref q3, .ref q4, .ref q5, .ref q6])), (q1, .inl (cs.1, 67, .inl (fun _ => 0))), (q2, .inl (cs.1, 8, .inl (fun _ => 0))), (q3, .inl (cs.1, 8, .inl (fun _ => 0))), (q4, .inl (cs.1, 8, .inl (fun _ => 0))), (q5, .inl (cs.1, 4, .inl (fun _ => 0))), (q6, .inl (cs.1, 4, .inl (fun _ => 0)))] H := hP
  have hD : va_D A [(h0, .inr (0, [.int 5, .int 0, .int 1, .int 0, .int 0, .ref q1, .ref q2, .ref q3, .ref q4, .ref q5, .ref q6])), (q1, .inl (cs.1, 67, .inl (fun _ => 0))), (q2, .inl (cs.1, 8, .inl (fun _ => 0))), (q3, .inl (cs.1, 8, .inl (fun _ => 0))), (q4, .inl (cs.1, 8, .inl (fun _ => 0))), (q5, .inl (cs.1, 4, .inl (fun _ => 0))), (q6, .inl (cs.1, 4, .inl (fun _ => 0)))] := hD
  refine W.widen (k := 6) (n := 99) (by omega) (by omega) ?_
  exact W.vret hx hb hr (fun t ht hW => ⟨⟨(), rfl, trivial, q1, q2, q3, q4, q5, q6, by rw [ht]; exact hP, hD⟩, hS.F ht⟩) hS.2.2 kd0_60
set_option maxHeartbeats 4000000 in
set_option maxRecDepth 100000 in
theorem k_init1 (l : Launch) (D : va_G) (cs : ClassId × ClassId × ClassId) (h0 : Nat) (sz : Nat) : Met l ky1 (.code ky1 kc1 1 none :: tbG) ({ frames := 1, cells := 7, slots := 1529, locals := 12 }) (va_Pc [.ref h0] (fun U => U.heap.size = sz ∧ va_P D vwCl [(h0, .inr (1, [.int 0, .null, .int 0, .null, .null, .null, .null, .null, .null, .int 0]))] U.heap ∧ va_K D vwCl (jtys cs) U ∧ va_D (fun _ => True) [(h0, .inr (1, [.int 0, .null, .int 0, .null, .null, .null, .null, .null, .null, .int 0]))])) (va_Qv (fun _ : Unit => True) (fun _ t => ∃ q1 q2 q3 q4 q5 q6 q7 : Nat, va_P D vwCl [(h0, .inr (1, [.int 0, .ref q1, .int 0, .ref q2, .ref q3, .ref q4, .ref q5, .ref q6, .ref q7, .int 0])), (q1, .inl (cs.1, 49, .inl (fun _ => 0))), (q2, .inl (cs.1, 392, .inl (fun _ => 0))), (q3, .inl (cs.1, 49, .inl (fun _ => 0))), (q4, .inl (cs.1, 49, .inl (fun _ => 0))), (q5, .inl (cs.1, 10, .inl (fun _ => 0))), (q6, .inl (cs.1, 490, .inl (fun _ => 0))), (q7, .inl (cs.1, 490, .inl (fun _ => 0)))] t.heap ∧ va_D (va_A [(h0, .inr (1, [.int 0, .null, .int 0, .null, .null, .null, .null, .null, .null, .int 0]))] sz) [(h0, .inr (1, [.int 0, .ref q1, .int 0, .ref q2, .ref q3, .ref q4, .ref q5, .ref q6, .ref q7, .int 0])), (q1, .inl (cs.1, 49, .inl (fun _ => 0))), (q2, .inl (cs.1, 392, .inl (fun _ => 0))), (q3, .inl (cs.1, 49, .inl (fun _ => 0))), (q4, .inl (cs.1, 49, .inl (fun _ => 0))), (q5, .inl (cs.1, 10, .inl (fun _ => 0))), (q6, .inl (cs.1, 490, .inl (fun _ => 0))), (q7, .inl (cs.1, 490, .inl (fun _ => 0)))]) (va_A [(h0, .inr (1, [.int 0, .null, .int 0, .null, .null, .null, .null, .null, .null, .int 0]))] sz)) 7 1529 (va_A [(h0, .inr (1, [.int 0, .null, .int 0, .null, .null, .null, .null, .null, .null, .int 0]))] sz) := by
  refine Met.ofW (cc := kc1) (maxL := 1) (ret := none) (by decide) rfl ?_
  intro p e s m args below meth c s₁ B hml hv
  obtain ⟨rfl, hsz, hP, hK, hD0⟩ := hv
  have hx := B.exec
  have hb := B.bytes
  have hr := B.returns
  have hts : ∀ w ∈ tbG, w.before _ s = true := fun w hw => atoms_spec (ws := .code ky1 kc1 1 none :: tbG) B.pre w (List.mem_cons_of_mem _ hw)
  have hown : s.vm.findClass RX1 = some m.cls := findClass_of_methodNamed B.named
  have hlocks := B.notSynchronized
  have hin : meth.name = "<init>" := (name_of_methodNamed B.named B.method).1
  subst hsz
  have hD := hD0.self (sz := s.heap.size)
  generalize hAe : va_A [(h0, .inr (1, [.int 0, .null, .int 0, .null, .null, .null, .null, .null, .null, .int 0]))] s.heap.size = A at hD ⊢
  have hA : ∀ q : Nat, s.heap.size ≤ q → A q := fun q h => by rw [← hAe]; exact Or.inr h
  have hS : va_S A s.heap s.heap [] := va_S.rf
  have hl := lv_entry ([.ref h0]) (n := 1) (Nat.le_of_ble_eq_true rfl)
  rw [lg_entry_eq]
  generalize (lg_sl ([.ref h0]) ++ List.replicate (1 - (lg_sl ([.ref h0])).length) Slot.unset).toArray = ls at hl ⊢
  have hl : lv_has ls 1 [(0, .ref h0)] := hl
  refine lv_aload_n hx hb kd1_0 rfl (lv_at hl 0 rfl) ?_
  refine W.objInit hx hb hown (hts _ (kn_in 12 rfl)) (hts _ (kn_in 1 rfl)) (hts _ (kn_in 2 rfl)) rfl (by rw [hml]; exact hl.1) rfl kd1_1 (Nat.le_of_ble_eq_true rfl) (Nat.le_of_ble_eq_true rfl) ?_
  refine W.eq (g2 := F0 m 4 ls []) rfl ?_
  refine lv_aload_n hx hb kd1_4 rfl (lv_at hl 0 rfl) ?_
  refine lv_bipush (v := 49) hx hb kd1_5 (by decide) ?_
  refine va_newa (atype := .int) (n := 49) (N' := 49) (a0 := (49, .inl (fun _ => 0))) hx hb (hts _ (kn_in 5 rfl)) rfl hK hP hD hS hA (fun _ => rfl) (by decide) (by decide) (Nat.le_of_ble_eq_true rfl) (Nat.le_of_ble_eq_true rfl) (Nat.le_of_ble_eq_true rfl) kd1_7 (fun q1 cA H hK2 hP hD hS => ?_)
  obtain rfl := k_int hK2
  have hP : va_P D vwCl [(h0, .inr (1, [.int 0, .null, .int 0, .null, .null, .null, .null, .null, .null, .int 0])), (q1, .inl (cs.1, 49, .inl (fun _ => 0)))] H := hP
  have hD : va_D A [(h0, .inr (1, [.int 0, .null, .int 0, .null, .null, .null, .null, .null, .null, .int 0])), (q1, .inl (cs.1, 49, .inl (fun _ => 0)))] := hD
  refine va_putF (D := D) (ci := 1) (v := .ref q1) (ty := .array .int) (C := RX1) (T := TX1) (N := 10) hx hb hts (jcl_ws (a := 1) (by decide)) tyX1 tyX1_ok nmX1 hown hK hP hD hS 0 rfl rfl 1 (by decide) (hts _ (kn_in 13 rfl)) (fun _ h9 => h9) rfl hin rfl (by decide +kernel) rfl rfl (Nat.le_of_ble_eq_true rfl) kd1_9 (fun H locs hP hD hS => ?_)
  have hP : va_P D vwCl [(h0, .inr (1, [.int 0, .ref q1, .int 0, .null, .null, .null, .null, .null, .null, .int 0])), (q1, .inl (cs.1, 49, .inl (fun _ => 0)))] H := hP
  have hD : va_D A [(h0, .inr (1, [.int 0, .ref q1, .int 0, .null, .null, .null, .null, .null, .null, .int 0])), (q1, .inl (cs.1, 49, .inl (fun _ => 0)))] := hD
  refine lv_aload_n hx hb kd1_12 rfl (lv_at hl 0 rfl) ?_
  refine lv_sipush (v := 392) hx hb kd1_13 (by decide) ?_
  refine va_newa (atype := .int) (n := 392) (N' := 392) (a0 := (392, .inl (fun _ => 0))) hx hb (hts _ (kn_in 5 rfl)) rfl hK hP hD hS hA (fun _ => rfl) (by decide) (by decide) (Nat.le_of_ble_eq_true rfl) (Nat.le_of_ble_eq_true rfl) (Nat.le_of_ble_eq_true rfl) kd1_16 (fun q2 cA H hK2 hP hD hS => ?_)
  obtain rfl := k_int hK2
  have hP : va_P D vwCl [(h0, .inr (1, [.int 0, .ref q1, .int 0, .null, .null, .null, .null, .null, .null, .int 0])), (q1, .inl (cs.1, 49, .inl (fun _ => 0))), (q2, .inl (cs.1, 392, .inl (fun _ => 0)))] H := hP
  have hD : va_D A [(h0, .inr (1, [.int 0, .ref q1, .int 0, .null, .null, .null, .null, .null, .null, .int 0])), (q1, .inl (cs.1, 49, .inl (fun _ => 0))), (q2, .inl (cs.1, 392, .inl (fun _ => 0)))] := hD
  refine va_putF (D := D) (ci := 1) (v := .ref q2) (ty := .array .int) (C := RX1) (T := TX1) (N := 10) hx hb hts (jcl_ws (a := 1) (by decide)) tyX1 tyX1_ok nmX1 hown hK hP hD hS 0 rfl rfl 3 (by decide) (hts _ (kn_in 14 rfl)) (fun _ h9 => h9) rfl hin rfl (by decide +kernel) rfl rfl (Nat.le_of_ble_eq_true rfl) kd1_18 (fun H locs hP hD hS => ?_)
  have hP : va_P D vwCl [(h0, .inr (1, [.int 0, .ref q1, .int 0, .ref q2, .null, .null, .null, .null, .null, .int 0])), (q1, .inl (cs.1, 49, .inl (fun _ => 0))), (q2, .inl (cs.1, 392, .inl (fun _ => 0)))] H := hP
  have hD : va_D A [(h0, .inr (1, [.int 0, .ref q1, .int 0, .ref q2, .null, .null, .null, .null, .null, .int 0])), (q1, .inl (cs.1, 49, .inl (fun _ => 0))), (q2, .inl (cs.1, 392, .inl (fun _ => 0)))] := hD
  refine lv_aload_n hx hb kd1_21 rfl (lv_at hl 0 rfl) ?_
  refine lv_bipush (v := 49) hx hb kd1_22 (by decide) ?_
  refine va_newa (atype := .int) (n := 49) (N' := 49) (a0 := (49, .inl (fun _ => 0))) hx hb (hts _ (kn_in 5 rfl)) rfl hK hP hD hS hA (fun _ => rfl) (by decide) (by decide) (Nat.le_of_ble_eq_true rfl) (Nat.le_of_ble_eq_true rfl) (Nat.le_of_ble_eq_true rfl) kd1_24 (fun q3 cA H hK2 hP hD hS => ?_)
  obtain rfl := k_int hK2
  have hP : va_P D vwCl [(h0, .inr (1, [.int 0, .ref q1, .int 0, .ref q2, .null, .null, .null, .null, .null, .int 0])), (q1, .inl (cs.1, 49, .inl (fun _ => 0))), (q2, .inl (cs.1, 392, .inl (fun _ => 0))), (q3, .inl (cs.1, 49, .inl (fun _ => 0)))] H := hP
  have hD : va_D A [(h0, .inr (1, [.int 0, .ref q1, .int 0, .ref q2, .null, .null, .null, .null, .null, .int 0])), (q1, .inl (cs.1, 49, .inl (fun _ => 0))), (q2, .inl (cs.1, 392, .inl (fun _ => 0))), (q3, .inl (cs.1, 49, .inl (fun _ => 0)))] := hD
  refine va_putF (D := D) (ci := 1) (v := .ref q3) (ty := .array .int) (C := RX1) (T := TX1) (N := 10) hx hb hts (jcl_ws (a := 1) (by decide)) tyX1 tyX1_ok nmX1 hown hK hP hD hS 0 rfl rfl 4 (by decide) (hts _ (kn_in 15 rfl)) (fun _ h9 => h9) rfl hin rfl (by decide +kernel) rfl rfl (Nat.le_of_ble_eq_true rfl) kd1_26 (fun H locs hP hD hS => ?_)
  have hP : va_P D vwCl [(h0, .inr (1, [.int 0, .ref q1, .int 0, .ref q2, .ref q3, .null, .null, .null, .null, .int 0])), (q1, .inl (cs.1, 49, .inl (fun _ => 0))), (q2, .inl (cs.1, 392, .inl (fun _ => 0))), (q3, .inl (cs.1, 49, .inl (fun _ => 0)))] H := hP
  have hD : va_D A [(h0, .inr (1, [.int 0, .ref q1, .int 0, .ref q2, .ref q3, .null, .null, .null, .null, .int 0])), (q1, .inl (cs.1, 49, .inl (fun _ => 0))), (q2, .inl (cs.1, 392, .inl (fun _ => 0))), (q3, .inl (cs.1, 49, .inl (fun _ => 0)))] := hD
  refine lv_aload_n hx hb kd1_29 rfl (lv_at hl 0 rfl) ?_
  refine lv_bipush (v := 49) hx hb kd1_30 (by decide) ?_
  refine va_newa (atype := .int) (n := 49) (N' := 49) (a0 := (49, .inl (fun _ => 0))) hx hb (hts _ (kn_in 5 rfl)) rfl hK hP hD hS hA (fun _ => rfl) (by decide) (by decide) (Nat.le_of_ble_eq_true rfl) (Nat.le_of_ble_eq_true rfl) (Nat.le_of_ble_eq_true rfl) kd1_32 (fun q4 cA H hK2 hP hD hS => ?_)
  obtain rfl := k_int hK2
  have hP : va_P D vwCl [(h0, .inr (1, [.int 0, .ref q1, .int 0, .ref q2, .ref q3, .null, .null, .null, .null, .int 0])), (q1, .inl (cs.1, 49, .inl (fun _ => 0))), (q2, .inl (cs.1, 392, .inl (fun _ => 0))), (q3, .inl (cs.1, 49, .inl (fun _ => 0))), (q4, .inl (cs.1, 49, .inl (fun _ => 0)))] H := hP
  have hD : va_D A [(h0, .inr (1, [.int 0, .ref q1, .int 0, .ref q2, .ref q3, .null, .null, .null, .null, .int 0])), (q1, .inl (cs.1, 49, .inl (fun _ => 0))), (q2, .inl (cs.1, 392, .inl (fun _ => 0))), (q3, .inl (cs.1, 49, .inl (fun _ => 0))), (q4, .inl (cs.1, 49, .inl (fun _ => 0)))] := hD
  refine va_putF (D := D) (ci := 1) (v := .ref q4) (ty := .array .int) (C := RX1) (T := TX1) (N := 10) hx hb hts (jcl_ws (a := 1) (by decide)) tyX1 tyX1_ok nmX1 hown hK hP hD hS 0 rfl rfl 5 (by decide) (hts _ (kn_in 16 rfl)) (fun _ h9 => h9) rfl hin rfl (by decide +kernel) rfl rfl (Nat.le_of_ble_eq_true rfl) kd1_34 (fun H locs hP hD hS => ?_)
  have hP : va_P D vwCl [(h0, .inr (1, [.int 0, .ref q1, .int 0, .ref q2, .ref q3, .ref q4, .null, .null, .null, .int 0])), (q1, .inl (cs.1, 49, .inl (fun _ => 0))), (q2, .inl (cs.1, 392, .inl (fun _ => 0))), (q3, .inl (cs.1, 49, .inl (fun _ => 0))), (q4, .inl (cs.1, 49, .inl (fun _ => 0)))] H := hP
  have hD : va_D A [(h0, .inr (1, [.int 0, .ref q1, .int 0, .ref q2, .ref q3, .ref q4, .null, .null, .null, .int 0])), (q1, .inl (cs.1, 49, .inl (fun _ => 0))), (q2, .inl (cs.1, 392, .inl (fun _ => 0))), (q3, .inl (cs.1, 49, .inl (fun _ => 0))), (q4, .inl (cs.1, 49, .inl (fun _ => 0)))] := hD
  refine lv_aload_n hx hb kd1_37 rfl (lv_at hl 0 rfl) ?_
  refine lv_bipush (v := 10) hx hb kd1_38 (by decide) ?_
  refine va_newa (atype := .int) (n := 10) (N' := 10) (a0 := (10, .inl (fun _ => 0))) hx hb (hts _ (kn_in 5 rfl)) rfl hK hP hD hS hA (fun _ => rfl) (by decide) (by decide) (Nat.le_of_ble_eq_true rfl) (Nat.le_of_ble_eq_true rfl) (Nat.le_of_ble_eq_true rfl) kd1_40 (fun q5 cA H hK2 hP hD hS => ?_)
  obtain rfl := k_int hK2
  have hP : va_P D vwCl [(h0, .inr (1, [.int 0, .ref q1, .int 0, .ref q2, .ref q3, .ref q4, .null, .null, .null, .int 0])), (q1, .inl (cs.1, 49, .inl (fun _ => 0))), (q2, .inl (cs.1, 392, .inl (fun _ => 0))), (q3, .inl (cs.1, 49, .inl (fun _ => 0))), (q4, .inl (cs.1, 49, .inl (fun _ => 0))), (q5, .inl (cs.1, 10, .inl (fun _ => 0)))] H := hP
  have hD : va_D A [(h0, .inr (1, [.int 0, .ref q1, .int 0, .ref q2, .ref q3, .ref q4, .null, .null, .null, .int 0])), (q1, .inl (cs.1, 49, .inl (fun _ => 0))), (q2, .inl (cs.1, 392, .inl (fun _ => 0))), (q3, .inl (cs.1, 49, .inl (fun _ => 0))), (q4, .inl (cs.1, 49, .inl (fun _ => 0))), (q5, .inl (cs.1, 10, .inl (fun _ => 0)))] := hD
  refine va_putF (D := D) (ci := 1) (v := .ref q5) (ty := .array .int) (C := RX1) (T := TX1) (N := 10) hx hb hts (jcl_ws (a := 1) (by decide)) tyX1 tyX1_ok nmX1 hown hK hP hD hS 0 rfl rfl 6 (by decide) (hts _ (kn_in 17 rfl)) (fun _ h9 => h9) rfl hin rfl (by decide +kernel) rfl rfl (Nat.le_of_ble_eq_true rfl) kd1_42 (fun H locs hP hD hS => ?_)
  have hP : va_P D vwCl [(h0, .inr (1, [.int 0, .ref q1, .int 0, .ref q2, .ref q3, .ref q4, .ref q5, .null, .null, .int 0])), (q1, .inl (cs.1, 49, .inl (fun _ => 0))), (q2, .inl (cs.1, 392, .inl (fun _ => 0))), (q3, .inl (cs.1, 49, .inl (fun _ => 0))), (q4, .inl (cs.1, 49, .inl (fun _ => 0))), (q5, .inl (cs.1, 10, .inl (fun _ => 0)))] H := hP
  have hD : va_D A [(h0, .inr (1, [.int 0, .ref q1, .int 0, .ref q2, .ref q3, .ref q4, .ref q5, .null, .null, .int 0])), (q1, .inl (cs.1, 49, .inl (fun _ => 0))), (q2, .inl (cs.1, 392, .inl (fun _ => 0))), (q3, .inl (cs.1, 49, .inl (fun _ => 0))), (q4, .inl (cs.1, 49, .inl (fun _ => 0))), (q5, .inl (cs.1, 10, .inl (fun _ => 0)))] := hD
  refine lv_aload_n hx hb kd1_45 rfl (lv_at hl 0 rfl) ?_
  refine lv_sipush (v := 490) hx hb kd1_46 (by decide) ?_
  refine va_newa (atype := .int) (n := 490) (N' := 490) (a0 := (490, .inl (fun _ => 0))) hx hb (hts _ (kn_in 5 rfl)) rfl hK hP hD hS hA (fun _ => rfl) (by decide) (by decide) (Nat.le_of_ble_eq_true rfl) (Nat.le_of_ble_eq_true rfl) (Nat.le_of_ble_eq_true rfl) kd1_49 (fun q6 cA H hK2 hP hD hS => ?_)
  obtain rfl := k_int hK2
  have hP : va_P D vwCl [(h0, .inr (1, [.int 0, .ref q1, .int 0, .ref q2, .ref q3, .ref q4, .ref q5, .null, .null, .int 0])), (q1, .inl (cs.1, 49, .inl (fun _ => 0))), (q2, .inl (cs.1, 392, .inl (fun _ => 0))), (q3, .inl (cs.1, 49, .inl (fun _ => 0))), (q4, .inl (cs.1, 49, .inl (fun _ => 0))), (q5, .inl (cs.1, 10, .inl (fun _ => 0))), (q6, .inl (cs.1, 490, .inl (fun _ => 0)))] H := hP
  have hD : va_D A [(h0, .inr (1, [.int 0, .ref q1, .int 0, .ref q2, .ref q3, .ref q4, .ref q5, .null, .null, .int 0])), (q1, .inl (cs.1, 49, .inl (fun _ => 0))), (q2, .inl (cs.1, 392, .inl (fun _ => 0))), (q3, .inl (cs.1, 49, .inl (fun _ => 0))), (q4, .inl (cs.1, 49, .inl (fun _ => 0))), (q5, .inl (cs.1, 10, .inl (fun _ => 0))), (q6, .inl (cs.1, 490, .inl (fun _ => 0)))] := hD
  refine va_putF (D := D) (ci := 1) (v := .ref q6) (ty := .array .int) (C := RX1) (T := TX1) (N := 10) hx hb hts (jcl_ws (a := 1) (by decide)) tyX1 tyX1_ok nmX1 hown hK hP hD hS 0 rfl rfl 7 (by decide) (hts _ (kn_in 18 rfl)) (fun _ h9 => h9) rfl hin rfl (by decide +kernel) rfl rfl (Nat.le_of_ble_eq_true rfl) kd1_51 (fun H locs hP hD hS => ?_)
  have hP : va_P D vwCl [(h0, .inr (1, [.int 0, .ref q1, .int 0, .ref q2, .ref q3, .ref q4, .ref q5, .ref q6, .null, .int 0])), (q1, .inl (cs.1, 49, .inl (fun _ => 0))), (q2, .inl (cs.1, 392, .inl (fun _ => 0))), (q3, .inl (cs.1, 49, .inl (fun _ => 0))), (q4, .inl (cs.1, 49, .inl (fun _ => 0))), (q5, .inl (cs.1, 10, .inl (fun _ => 0))), (q6, .inl (cs.1, 490, .inl (fun _ => 0)))] H := hP
  have hD : va_D A [(h0, .inr (1, [.int 0, .ref q1, .int 0, .ref q2, .ref q3, .ref q4, .ref q5, .ref q6, .null, .int 0])), (q1, .inl (cs.1, 49, .inl (fun _ => 0))), (q2, .inl (cs.1, 392, .inl (fun _ => 0))), (q3, .inl (cs.1, 49, .inl (fun _ => 0))), (q4, .inl (cs.1, 49, .inl (fun _ => 0))), (q5, .inl (cs.1, 10, .inl (fun _ => 0))), (q6, .inl (cs.1, 490, .inl (fun _ => 0)))] := hD
  refine lv_aload_n hx hb kd1_54 rfl (lv_at hl 0 rfl) ?_
  refine lv_sipush (v := 490) hx hb kd1_55 (by decide) ?_
  refine va_newa (atype := .int) (n := 490) (N' := 490) (a0 := (490, .inl (fun _ => 0))) hx hb (hts _ (kn_in 5 rfl)) rfl hK hP hD hS hA (fun _ => rfl) (by decide) (by decide) (Nat.le_of_ble_eq_true rfl) (Nat.le_of_ble_eq_true rfl) (Nat.le_of_ble_eq_true rfl) kd1_58 (fun q7 cA H hK2 hP hD hS => ?_)
  obtain rfl := k_int hK2
  have hP : va_P D vwCl [(h0, .inr (1, [.int 0, .ref q1, .int 0, .ref q2, .ref q3, .ref q4, .ref q5, .ref q6, .null, .int 0])), (q1, .inl (cs.1, 49, .inl (fun _ => 0))), (q2, .inl (cs.1, 392, .inl (fun _ => 0))), (q3, .inl (cs.1, 49, .inl (fun _ => 0))), (q4, .inl (cs.1, 49, .inl (fun _ => 0))), (q5, .inl (cs.1, 10, .inl (fun _ => 0))), (q6, .inl (cs.1, 490, .inl (fun _ => 0))), (q7, .inl (cs.1, 490, .inl (fun _ => 0)))] H := hP
  have hD : va_D A [(h0, .inr (1, [.int 0, .ref q1, .int 0, .ref q2, .ref q3, .ref q4, .ref q5, .ref q6, .null, .int 0])), (q1, .inl (cs.1, 49, .inl (fun _ => 0))), (q2, .inl (cs.1, 392, .inl (fun _ => 0))), (q3, .inl (cs.1, 49, .inl (fun _ => 0))), (q4, .inl (cs.1, 49, .inl (fun _ => 0))), (q5, .inl (cs.1, 10, .inl (fun _ => 0))), (q6, .inl (cs.1, 490, .inl (fun _ => 0))), (q7, .inl (cs.1, 490, .inl (fun _ => 0)))] := hD
  refine va_putF (D := D) (ci := 1) (v := .ref q7) (ty := .array .int) (C := RX1) (T := TX1) (N := 10) hx hb hts (jcl_ws (a := 1) (by decide)) tyX1 tyX1_ok nmX1 hown hK hP hD hS 0 rfl rfl 8 (by decide) (hts _ (kn_in 19 rfl)) (fun _ h9 => h9) rfl hin rfl (by decide +kernel) rfl rfl (Nat.le_of_ble_eq_true rfl) kd1_60 (fun H locs hP hD hS => ?_)
  have hP : va_P D vwCl [(h0, .inr (1, [.int 0, .ref q1, .int 0, .ref q2, .ref q3, .ref q4, .ref q5, .ref q6, .ref q7, .int 0])), (q1, .inl (cs.1, 49, .inl (fun _ => 0))), (q2, .inl (cs.1, 392, .inl (fun _ => 0))), (q3, .inl (cs.1, 49, .inl (fun _ => 0))), (q4, .inl (cs.1, 49, .inl (fun _ => 0))), (q5, .inl (cs.1, 10, .inl (fun _ => 0))), (q6, .inl (cs.1, 490, .inl (fun _ => 0))), (q7, .inl (cs.1, 490, .inl (fun _ => 0)))] H := hP
  have hD : va_D A [(h0, .inr (1, [.int 0, .ref q1, .int 0, .ref q2, .ref q3, .ref q4, .ref q5, .ref q6, .ref q7, .int 0])), (q1, .inl (cs.1, 49, .inl (fun _ => 0))), (q2, .inl (cs.1, 392, .inl (fun _ => 0))), (q3, .inl (cs.1, 49, .inl (fun _ => 0))), (q4, .inl (cs.1, 49, .inl (fun _ => 0))), (q5, .inl (cs.1, 10, .inl (fun _ => 0))), (q6, .inl (cs.1, 490, .inl (fun _ => 0))), (q7, .inl (cs.1, 490, .inl (fun _ => 0)))] := hD
  refine W.widen (k := 7) (n := 1529) (by omega) (by omega) ?_
  exact W.vret hx hb hr (fun t ht hW => ⟨⟨(), rfl, trivial, q1, q2, q3, q4, q5, q6, q7, by rw [ht]; exact hP, hD⟩, hS.F ht⟩) hS.2.2 kd1_63
set_option maxHeartbeats 4000000 in
set_option maxRecDepth 100000 in
theorem k_init2 (l : Launch) (D : va_G) (cs : ClassId × ClassId × ClassId) (h0 : Nat) (sz : Nat) : Met l ky2 (.code ky2 kc2 1 none :: tbG) ({ frames := 1, cells := 2, slots := 134, locals := 12 }) (va_Pc [.ref h0] (fun U => U.heap.size = sz ∧ va_P D vwCl [(h0, .inr (2, [.null, .null]))] U.heap ∧ va_K D vwCl (jtys cs) U ∧ va_D (fun _ => True) [(h0, .inr (2, [.null, .null]))])) (va_Qv (fun _ : Unit => True) (fun _ t => ∃ q1 q2 : Nat, va_P D vwCl [(h0, .inr (2, [.ref q1, .ref q2])), (q1, .inl (cs.1, 67, .inl (fun _ => 0))), (q2, .inl (cs.1, 67, .inl (fun _ => 0)))] t.heap ∧ va_D (va_A [(h0, .inr (2, [.null, .null]))] sz) [(h0, .inr (2, [.ref q1, .ref q2])), (q1, .inl (cs.1, 67, .inl (fun _ => 0))), (q2, .inl (cs.1, 67, .inl (fun _ => 0)))]) (va_A [(h0, .inr (2, [.null, .null]))] sz)) 2 134 (va_A [(h0, .inr (2, [.null, .null]))] sz) := by
  refine Met.ofW (cc := kc2) (maxL := 1) (ret := none) (by decide) rfl ?_
  intro p e s m args below meth c s₁ B hml hv
  obtain ⟨rfl, hsz, hP, hK, hD0⟩ := hv
  have hx := B.exec
  have hb := B.bytes
  have hr := B.returns
  have hts : ∀ w ∈ tbG, w.before _ s = true := fun w hw => atoms_spec (ws := .code ky2 kc2 1 none :: tbG) B.pre w (List.mem_cons_of_mem _ hw)
  have hown : s.vm.findClass RX2 = some m.cls := findClass_of_methodNamed B.named
  have hlocks := B.notSynchronized
  have hin : meth.name = "<init>" := (name_of_methodNamed B.named B.method).1
  subst hsz
  have hD := hD0.self (sz := s.heap.size)
  generalize hAe : va_A [(h0, .inr (2, [.null, .null]))] s.heap.size = A at hD ⊢
  have hA : ∀ q : Nat, s.heap.size ≤ q → A q := fun q h => by rw [← hAe]; exact Or.inr h
  have hS : va_S A s.heap s.heap [] := va_S.rf
  have hl := lv_entry ([.ref h0]) (n := 1) (Nat.le_of_ble_eq_true rfl)
  rw [lg_entry_eq]
  generalize (lg_sl ([.ref h0]) ++ List.replicate (1 - (lg_sl ([.ref h0])).length) Slot.unset).toArray = ls at hl ⊢
  have hl : lv_has ls 1 [(0, .ref h0)] := hl
  refine lv_aload_n hx hb kd2_0 rfl (lv_at hl 0 rfl) ?_
  refine W.objInit hx hb hown (hts _ (kn_in 20 rfl)) (hts _ (kn_in 1 rfl)) (hts _ (kn_in 2 rfl)) rfl (by rw [hml]; exact hl.1) rfl kd2_1 (Nat.le_of_ble_eq_true rfl) (Nat.le_of_ble_eq_true rfl) ?_
  refine W.eq (g2 := F0 m 4 ls []) rfl ?_
  refine lv_aload_n hx hb kd2_4 rfl (lv_at hl 0 rfl) ?_
  refine lv_bipush (v := 67) hx hb kd2_5 (by decide) ?_
  refine va_newa (atype := .int) (n := 67) (N' := 67) (a0 := (67, .inl (fun _ => 0))) hx hb (hts _ (kn_in 5 rfl)) rfl hK hP hD hS hA (fun _ => rfl) (by decide) (by decide) (Nat.le_of_ble_eq_true rfl) (Nat.le_of_ble_eq_true rfl) (Nat.le_of_ble_eq_true rfl) kd2_7 (fun q1 cA H hK2 hP hD hS => ?_)
  obtain rfl := k_int hK2
  have hP : va_P D vwCl [(h0, .inr (2, [.null, .null])), (q1, .inl (cs.1, 67, .inl (fun _ => 0)))] H := hP
  have hD : va_D A [(h0, .inr (2, [.null, .null])), (q1, .inl (cs.1, 67, .inl (fun _ => 0)))] := hD
  refine va_putF (D := D) (ci := 2) (v := .ref q1) (ty := .array .int) (C := RX2) (T := TX2) (N := 2) hx hb hts (jcl_ws (a := 2) (by decide)) tyX2 tyX2_ok nmX2 hown hK hP hD hS 0 rfl rfl 0 (by decide) (hts _ (kn_in 21 rfl)) (fun _ h9 => h9) rfl hin rfl (by decide +kernel) rfl rfl (Nat.le_of_ble_eq_true rfl) kd2_9 (fun H locs hP hD hS => ?_)
  have hP : va_P D vwCl [(h0, .inr (2, [.ref q1, .null])), (q1, .inl (cs.1, 67, .inl (fun _ => 0)))] H := hP
  have hD : va_D A [(h0, .inr (2, [.ref q1, .null])), (q1, .inl (cs.1, 67, .inl (fun _ => 0)))] := hD
  refine lv_aload_n hx hb kd2_12 rfl (lv_at hl 0 rfl) ?_
  refine lv_bipush (v := 67) hx hb kd2_13 (by decide) ?_
  refine va_newa (atype := .int) (n := 67) (N' := 67) (a0 := (67, .inl (fun _ => 0))) hx hb (hts _ (kn_in 5 rfl)) rfl hK hP hD hS hA (fun _ => rfl) (by decide) (by decide) (Nat.le_of_ble_eq_true rfl) (Nat.le_of_ble_eq_true rfl) (Nat.le_of_ble_eq_true rfl) kd2_15 (fun q2 cA H hK2 hP hD hS => ?_)
  obtain rfl := k_int hK2
  have hP : va_P D vwCl [(h0, .inr (2, [.ref q1, .null])), (q1, .inl (cs.1, 67, .inl (fun _ => 0))), (q2, .inl (cs.1, 67, .inl (fun _ => 0)))] H := hP
  have hD : va_D A [(h0, .inr (2, [.ref q1, .null])), (q1, .inl (cs.1, 67, .inl (fun _ => 0))), (q2, .inl (cs.1, 67, .inl (fun _ => 0)))] := hD
  refine va_putF (D := D) (ci := 2) (v := .ref q2) (ty := .array .int) (C := RX2) (T := TX2) (N := 2) hx hb hts (jcl_ws (a := 2) (by decide)) tyX2 tyX2_ok nmX2 hown hK hP hD hS 0 rfl rfl 1 (by decide) (hts _ (kn_in 22 rfl)) (fun _ h9 => h9) rfl hin rfl (by decide +kernel) rfl rfl (Nat.le_of_ble_eq_true rfl) kd2_17 (fun H locs hP hD hS => ?_)
  have hP : va_P D vwCl [(h0, .inr (2, [.ref q1, .ref q2])), (q1, .inl (cs.1, 67, .inl (fun _ => 0))), (q2, .inl (cs.1, 67, .inl (fun _ => 0)))] H := hP
  have hD : va_D A [(h0, .inr (2, [.ref q1, .ref q2])), (q1, .inl (cs.1, 67, .inl (fun _ => 0))), (q2, .inl (cs.1, 67, .inl (fun _ => 0)))] := hD
  refine W.widen (k := 2) (n := 134) (by omega) (by omega) ?_
  exact W.vret hx hb hr (fun t ht hW => ⟨⟨(), rfl, trivial, q1, q2, by rw [ht]; exact hP, hD⟩, hS.F ht⟩) hS.2.2 kd2_20
set_option maxHeartbeats 4000000 in
set_option maxRecDepth 100000 in
theorem k_init3 (l : Launch) (D : va_G) (cs : ClassId × ClassId × ClassId) (h0 : Nat) (sz : Nat) : Met l ky3 (.code ky3 kc3 1 none :: tbG) ({ frames := 1, cells := 3, slots := 336, locals := 23 }) (va_Pc [.ref h0] (fun U => U.heap.size = sz ∧ va_P D vwCl [(h0, .inr (3, [.null, .null, .null]))] U.heap ∧ va_K D vwCl (jtys cs) U ∧ va_D (fun _ => True) [(h0, .inr (3, [.null, .null, .null]))])) (va_Qv (fun _ : Unit => True) (fun _ t => ∃ q2 q3 q1 : Nat, va_P D vwCl [(h0, .inr (3, [.ref q1, .ref q2, .ref q3])), (q2, .inl (cs.1, 8, .inl (fun _ => 0))), (q3, .inl (cs.2.2, 320, .inr (.inl (fun _ => 0)))), (q1, .inl (cs.1, 8, .inl (fun _ => -1)))] t.heap ∧ va_D (va_A [(h0, .inr (3, [.null, .null, .null]))] sz) [(h0, .inr (3, [.ref q1, .ref q2, .ref q3])), (q2, .inl (cs.1, 8, .inl (fun _ => 0))), (q3, .inl (cs.2.2, 320, .inr (.inl (fun _ => 0)))), (q1, .inl (cs.1, 8, .inl (fun _ => -1)))]) (va_A [(h0, .inr (3, [.null, .null, .null]))] sz)) 3 336 (va_A [(h0, .inr (3, [.null, .null, .null]))] sz) := by
  refine Met.ofW (cc := kc3) (maxL := 1) (ret := none) (by decide) rfl ?_
  intro p e s m args below meth c s₁ B hml hv
  obtain ⟨rfl, hsz, hP, hK, hD0⟩ := hv
  have hx := B.exec
  have hb := B.bytes
  have hr := B.returns
  have hts : ∀ w ∈ tbG, w.before _ s = true := fun w hw => atoms_spec (ws := .code ky3 kc3 1 none :: tbG) B.pre w (List.mem_cons_of_mem _ hw)
  have hown : s.vm.findClass RX3 = some m.cls := findClass_of_methodNamed B.named
  have hlocks := B.notSynchronized
  have hin : meth.name = "<init>" := (name_of_methodNamed B.named B.method).1
  subst hsz
  have hD := hD0.self (sz := s.heap.size)
  generalize hAe : va_A [(h0, .inr (3, [.null, .null, .null]))] s.heap.size = A at hD ⊢
  have hA : ∀ q : Nat, s.heap.size ≤ q → A q := fun q h => by rw [← hAe]; exact Or.inr h
  have hS : va_S A s.heap s.heap [] := va_S.rf
  have hl := lv_entry ([.ref h0]) (n := 1) (Nat.le_of_ble_eq_true rfl)
  rw [lg_entry_eq]
  generalize (lg_sl ([.ref h0]) ++ List.replicate (1 - (lg_sl ([.ref h0])).length) Slot.unset).toArray = ls at hl ⊢
  have hl : lv_has ls 1 [(0, .ref h0)] := hl
  refine lv_aload_n hx hb kd3_0 rfl (lv_at hl 0 rfl) ?_
  refine W.objInit hx hb hown (hts _ (kn_in 23 rfl)) (hts _ (kn_in 1 rfl)) (hts _ (kn_in 2 rfl)) rfl (by rw [hml]; exact hl.1) rfl kd3_1 (Nat.le_of_ble_eq_true rfl) (Nat.le_of_ble_eq_true rfl) ?_
  refine W.eq (g2 := F0 m 4 ls []) rfl ?_
  refine lv_aload_n hx hb kd3_4 rfl (lv_at hl 0 rfl) ?_
  refine lv_bipush (v := 8) hx hb kd3_5 (by decide) ?_
  refine va_newa (atype := .int) (n := 8) (N' := 8) (a0 := (8, .inl (fun _ => 0))) hx hb (hts _ (kn_in 5 rfl)) rfl hK hP hD hS hA (fun _ => rfl) (by decide) (by decide) (Nat.le_of_ble_eq_true rfl) (Nat.le_of_ble_eq_true rfl) (Nat.le_of_ble_eq_true rfl) kd3_7 (fun q1 cA H hK2 hP hD hS => ?_)
  obtain rfl := k_int hK2
  have hP : va_P D vwCl [(h0, .inr (3, [.null, .null, .null])), (q1, .inl (cs.1, 8, .inl (fun _ => 0)))] H := hP
  have hD : va_D A [(h0, .inr (3, [.null, .null, .null])), (q1, .inl (cs.1, 8, .inl (fun _ => 0)))] := hD
  refine va_putF (D := D) (ci := 3) (v := .ref q1) (ty := .array .int) (C := RX3) (T := TX3) (N := 3) hx hb hts (jcl_ws (a := 3) (by decide)) tyX3 tyX3_ok nmX3 hown hK hP hD hS 0 rfl rfl 0 (by decide) (hts _ (kn_in 24 rfl)) (fun _ h9 => h9) rfl hin rfl (by decide +kernel) rfl rfl (Nat.le_of_ble_eq_true rfl) kd3_9 (fun H locs hP hD hS => ?_)
  have hP : va_P D vwCl [(h0, .inr (3, [.ref q1, .null, .null])), (q1, .inl (cs.1, 8, .inl (fun _ => 0)))] H := hP
  have hD : va_D A [(h0, .inr (3, [.ref q1, .null, .null])), (q1, .inl (cs.1, 8, .inl (fun _ => 0)))] := hD
  refine lv_aload_n hx hb kd3_12 rfl (lv_at hl 0 rfl) ?_
  refine lv_bipush (v := 8) hx hb kd3_13 (by decide) ?_
  refine va_newa (atype := .int) (n := 8) (N' := 8) (a0 := (8, .inl (fun _ => 0))) hx hb (hts _ (kn_in 5 rfl)) rfl hK hP hD hS hA (fun _ => rfl) (by decide) (by decide) (Nat.le_of_ble_eq_true rfl) (Nat.le_of_ble_eq_true rfl) (Nat.le_of_ble_eq_true rfl) kd3_15 (fun q2 cA H hK2 hP hD hS => ?_)
  obtain rfl := k_int hK2
  have hP : va_P D vwCl [(h0, .inr (3, [.ref q1, .null, .null])), (q1, .inl (cs.1, 8, .inl (fun _ => 0))), (q2, .inl (cs.1, 8, .inl (fun _ => 0)))] H := hP
  have hD : va_D A [(h0, .inr (3, [.ref q1, .null, .null])), (q1, .inl (cs.1, 8, .inl (fun _ => 0))), (q2, .inl (cs.1, 8, .inl (fun _ => 0)))] := hD
  refine va_putF (D := D) (ci := 3) (v := .ref q2) (ty := .array .int) (C := RX3) (T := TX3) (N := 3) hx hb hts (jcl_ws (a := 3) (by decide)) tyX3 tyX3_ok nmX3 hown hK hP hD hS 0 rfl rfl 1 (by decide) (hts _ (kn_in 25 rfl)) (fun _ h9 => h9) rfl hin rfl (by decide +kernel) rfl rfl (Nat.le_of_ble_eq_true rfl) kd3_17 (fun H locs hP hD hS => ?_)
  have hP : va_P D vwCl [(h0, .inr (3, [.ref q1, .ref q2, .null])), (q1, .inl (cs.1, 8, .inl (fun _ => 0))), (q2, .inl (cs.1, 8, .inl (fun _ => 0)))] H := hP
  have hD : va_D A [(h0, .inr (3, [.ref q1, .ref q2, .null])), (q1, .inl (cs.1, 8, .inl (fun _ => 0))), (q2, .inl (cs.1, 8, .inl (fun _ => 0)))] := hD
  refine lv_aload_n hx hb kd3_20 rfl (lv_at hl 0 rfl) ?_
  refine lv_sipush (v := 320) hx hb kd3_21 (by decide) ?_
  refine va_newa (atype := .long) (n := 320) (N' := 320) (a0 := (320, .inr (.inl (fun _ => 0)))) hx hb (hts _ (kn_in 26 rfl)) rfl hK hP hD hS hA (fun _ => rfl) (by decide) (by decide) (Nat.le_of_ble_eq_true rfl) (Nat.le_of_ble_eq_true rfl) (Nat.le_of_ble_eq_true rfl) kd3_24 (fun q3 cA H hK2 hP hD hS => ?_)
  obtain rfl := k_long hK2
  have hP : va_P D vwCl [(h0, .inr (3, [.ref q1, .ref q2, .null])), (q1, .inl (cs.1, 8, .inl (fun _ => 0))), (q2, .inl (cs.1, 8, .inl (fun _ => 0))), (q3, .inl (cs.2.2, 320, .inr (.inl (fun _ => 0))))] H := hP
  have hD : va_D A [(h0, .inr (3, [.ref q1, .ref q2, .null])), (q1, .inl (cs.1, 8, .inl (fun _ => 0))), (q2, .inl (cs.1, 8, .inl (fun _ => 0))), (q3, .inl (cs.2.2, 320, .inr (.inl (fun _ => 0))))] := hD
  refine va_putF (D := D) (ci := 3) (v := .ref q3) (ty := .array .long) (C := RX3) (T := TX3) (N := 3) hx hb hts (jcl_ws (a := 3) (by decide)) tyX3 tyX3_ok nmX3 hown hK hP hD hS 0 rfl rfl 2 (by decide) (hts _ (kn_in 27 rfl)) (fun _ h9 => h9) rfl hin rfl (by decide +kernel) rfl rfl (Nat.le_of_ble_eq_true rfl) kd3_26 (fun H locs hP hD hS => ?_)
  have hP : va_P D vwCl [(h0, .inr (3, [.ref q1, .ref q2, .ref q3])), (q1, .inl (cs.1, 8, .inl (fun _ => 0))), (q2, .inl (cs.1, 8, .inl (fun _ => 0))), (q3, .inl (cs.2.2, 320, .inr (.inl (fun _ => 0))))] H := hP
  have hD : va_D A [(h0, .inr (3, [.ref q1, .ref q2, .ref q3])), (q1, .inl (cs.1, 8, .inl (fun _ => 0))), (q2, .inl (cs.1, 8, .inl (fun _ => 0))), (q3, .inl (cs.2.2, 320, .inr (.inl (fun _ => 0))))] := hD
  refine lv_aload_n hx hb kd3_29 rfl (lv_at hl 0 rfl) ?_
  refine va_get (D := D) (ci := 3) (v := .ref q1) (C := RX3) (T := TX3) (N := 3) hx hb hts (jcl_ws (a := 3) (by decide)) hown hK hP 0 rfl rfl 0 (by decide) (hts _ (kn_in 24 rfl)) (fun _ h9 => h9) rfl kd3_30 ?_
  refine lv_iconst (v := (-1)) hx hb kd3_33 (by decide) ?_
  have hPc := hP.sub (ws' := [(q1, .inl (cs.1, 8, .inl (fun _ => 0)))]) [1] rfl
  have hDc := hD.sub (ws' := [(q1, .inl (cs.1, 8, .inl (fun _ => 0)))]) [1] (by decide) rfl
  have hFc := va_free (wc := [(q1, .inl (cs.1, 8, .inl (fun _ => 0)))]) hD hS hA [1] rfl
  refine va_callv (va_runS (As := [.ref q1, .int (-1)]) (rest := []) ⟨hx, hb, hml, hown, hts⟩ (k_fill l D cs q1 H.size) ⟨callB_of 2 hts (kgood (kn_in 28 rfl)) rfl rfl rfl (hts _ (kn_in 29 rfl)) (hts _ (kn_in 30 rfl)) ⟨by decide +kernel, by decide +kernel, by decide +kernel⟩ ⟨Nat.le_of_ble_eq_true rfl, Nat.le_of_ble_eq_true rfl⟩, (hts _ (kn_in 31 rfl))⟩ ⟨fun a U g mk q => by obtain ⟨q0, q1, qP, qK, qD⟩ := q; exact ⟨q0, q1, qP, va_K.moved (u := U) (U := U.calling g mk a) (Vm.Alike.refl U.vm) qK, qD⟩, fun U hU hW => ⟨rfl, by rw [hU], by rw [hU]; exact hPc, va_K.moved hW.alike hK, hDc.weaken (fun _ _ _ _ => trivial)⟩⟩ rfl rfl hl.1 rfl (lv_room (Nat.le_of_ble_eq_true rfl)) kd3_34 ⟨Nat.le_of_ble_eq_true rfl, Nat.le_of_ble_eq_true rfl⟩) hS (fun q _ h => hFc q h) hFc (fun u t H1 locs ht hvm hw hB hz1 hk1 hS => ?_)
  obtain ⟨hP1, hD1⟩ := hB
  rw [ht] at hP1
  obtain ⟨hP, hD⟩ := va_join (wr := [(h0, .inr (3, [.ref q1, .ref q2, .ref q3])), (q2, .inl (cs.1, 8, .inl (fun _ => 0))), (q3, .inl (cs.2.2, 320, .inr (.inl (fun _ => 0))))]) (w1 := [(q1, .inl (cs.1, 8, .inl (fun _ => -1)))]) hP hD [1] [0, 2, 3] rfl rfl (by decide) (by decide) hk1 hFc hP1 hD1
  generalize H1 = H at hP hS ⊢
  have hP : va_P D vwCl [(h0, .inr (3, [.ref q1, .ref q2, .ref q3])), (q2, .inl (cs.1, 8, .inl (fun _ => 0))), (q3, .inl (cs.2.2, 320, .inr (.inl (fun _ => 0)))), (q1, .inl (cs.1, 8, .inl (fun _ => -1)))] H := hP
  have hD : va_D A [(h0, .inr (3, [.ref q1, .ref q2, .ref q3])), (q2, .inl (cs.1, 8, .inl (fun _ => 0))), (q3, .inl (cs.2.2, 320, .inr (.inl (fun _ => 0)))), (q1, .inl (cs.1, 8, .inl (fun _ => -1)))] := hD
  refine W.widen (k := 3) (n := 336) (by omega) (by omega) ?_
  exact W.vret hx hb hr (fun t ht hW => ⟨⟨(), rfl, trivial, q2, q3, q1, by rw [ht]; exact hP, hD⟩, hS.F ht⟩) hS.2.2 kd3_37
set_option maxHeartbeats 4000000 in
set_option maxRecDepth 100000 in
theorem k_init4 (l : Launch) (D : va_G) (cs : ClassId × ClassId × ClassId) (h0 : Nat) (sz : Nat) : Met l ky4 (.code ky4 kc4 1 none :: tbG) ({ frames := 1, cells := 1, slots := 4, locals := 12 }) (va_Pc [.ref h0] (fun U => U.heap.size = sz ∧ va_P D vwCl [(h0, .inr (4, [.null, .int 0]))] U.heap ∧ va_K D vwCl (jtys cs) U ∧ va_D (fun _ => True) [(h0, .inr (4, [.null, .int 0]))])) (va_Qv (fun _ : Unit => True) (fun _ t => ∃ q1 : Nat, va_P D vwCl [(h0, .inr (4, [.ref q1, .int 0])), (q1, .inl (cs.1, 4, .inl (fun _ => 0)))] t.heap ∧ va_D (va_A [(h0, .inr (4, [.null, .int 0]))] sz) [(h0, .inr (4, [.ref q1, .int 0])), (q1, .inl (cs.1, 4, .inl (fun _ => 0)))]) (va_A [(h0, .inr (4, [.null, .int 0]))] sz)) 1 4 (va_A [(h0, .inr (4, [.null, .int 0]))] sz) := by
  refine Met.ofW (cc := kc4) (maxL := 1) (ret := none) (by decide) rfl ?_
  intro p e s m args below meth c s₁ B hml hv
  obtain ⟨rfl, hsz, hP, hK, hD0⟩ := hv
  have hx := B.exec
  have hb := B.bytes
  have hr := B.returns
  have hts : ∀ w ∈ tbG, w.before _ s = true := fun w hw => atoms_spec (ws := .code ky4 kc4 1 none :: tbG) B.pre w (List.mem_cons_of_mem _ hw)
  have hown : s.vm.findClass RX4 = some m.cls := findClass_of_methodNamed B.named
  have hlocks := B.notSynchronized
  have hin : meth.name = "<init>" := (name_of_methodNamed B.named B.method).1
  subst hsz
  have hD := hD0.self (sz := s.heap.size)
  generalize hAe : va_A [(h0, .inr (4, [.null, .int 0]))] s.heap.size = A at hD ⊢
  have hA : ∀ q : Nat, s.heap.size ≤ q → A q := fun q h => by rw [← hAe]; exact Or.inr h
  have hS : va_S A s.heap s.heap [] := va_S.rf
  have hl := lv_entry ([.ref h0]) (n := 1) (Nat.le_of_ble_eq_true rfl)
  rw [lg_entry_eq]
  generalize (lg_sl ([.ref h0]) ++ List.replicate (1 - (lg_sl ([.ref h0])).length) Slot.unset).toArray = ls at hl ⊢
  have hl : lv_has ls 1 [(0, .ref h0)] := hl
  refine lv_aload_n hx hb kd4_0 rfl (lv_at hl 0 rfl) ?_
  refine W.objInit hx hb hown (hts _ (kn_in 32 rfl)) (hts _ (kn_in 1 rfl)) (hts _ (kn_in 2 rfl)) rfl (by rw [hml]; exact hl.1) rfl kd4_1 (Nat.le_of_ble_eq_true rfl) (Nat.le_of_ble_eq_true rfl) ?_
  refine W.eq (g2 := F0 m 4 ls []) rfl ?_
  refine lv_aload_n hx hb kd4_4 rfl (lv_at hl 0 rfl) ?_
  refine lv_iconst (v := 4) hx hb kd4_5 (by decide) ?_
  refine va_newa (atype := .int) (n := 4) (N' := 4) (a0 := (4, .inl (fun _ => 0))) hx hb (hts _ (kn_in 5 rfl)) rfl hK hP hD hS hA (fun _ => rfl) (by decide) (by decide) (Nat.le_of_ble_eq_true rfl) (Nat.le_of_ble_eq_true rfl) (Nat.le_of_ble_eq_true rfl) kd4_6 (fun q1 cA H hK2 hP hD hS => ?_)
  obtain rfl := k_int hK2
  have hP : va_P D vwCl [(h0, .inr (4, [.null, .int 0])), (q1, .inl (cs.1, 4, .inl (fun _ => 0)))] H := hP
  have hD : va_D A [(h0, .inr (4, [.null, .int 0])), (q1, .inl (cs.1, 4, .inl (fun _ => 0)))] := hD
  refine va_putF (D := D) (ci := 4) (v := .ref q1) (ty := .array .int) (C := RX4) (T := TX4) (N := 2) hx hb hts (jcl_ws (a := 4) (by decide)) tyX4 tyX4_ok nmX4 hown hK hP hD hS 0 rfl rfl 0 (by decide) (hts _ (kn_in 33 rfl)) (fun _ h9 => h9) rfl hin rfl (by decide +kernel) rfl rfl (Nat.le_of_ble_eq_true rfl) kd4_8 (fun H locs hP hD hS => ?_)
  have hP : va_P D vwCl [(h0, .inr (4, [.ref q1, .int 0])), (q1, .inl (cs.1, 4, .inl (fun _ => 0)))] H := hP
  have hD : va_D A [(h0, .inr (4, [.ref q1, .int 0])), (q1, .inl (cs.1, 4, .inl (fun _ => 0)))] := hD
  refine W.widen (k := 1) (n := 4) (by omega) (by omega) ?_
  exact W.vret hx hb hr (fun t ht hW => ⟨⟨(), rfl, trivial, q1, by rw [ht]; exact hP, hD⟩, hS.F ht⟩) hS.2.2 kd4_11
set_option maxHeartbeats 4000000 in
set_option maxRecDepth 100000 in
theorem k_init5 (l : Launch) (D : va_G) (cs : ClassId × ClassId × ClassId) (h0 : Nat) (sz : Nat) : Met l ky5 (.code ky5 kc5 1 none :: tbG) ({ frames := 1, cells := 1, slots := 250, locals := 12 }) (va_Pc [.ref h0] (fun U => U.heap.size = sz ∧ va_P D vwCl [(h0, .inr (5, [.int 0, .int 0, .int 0, .null]))] U.heap ∧ va_K D vwCl (jtys cs) U ∧ va_D (fun _ => True) [(h0, .inr (5, [.int 0, .int 0, .int 0, .null]))])) (va_Qv (fun _ : Unit => True) (fun _ t => ∃ q1 : Nat, va_P D vwCl [(h0, .inr (5, [.int 0, .int 0, .int 0, .ref q1])), (q1, .inl (cs.1, 250, .inl (fun _ => 0)))] t.heap ∧ va_D (va_A [(h0, .inr (5, [.int 0, .int 0, .int 0, .null]))] sz) [(h0, .inr (5, [.int 0, .int 0, .int 0, .ref q1])), (q1, .inl (cs.1, 250, .inl (fun _ => 0)))]) (va_A [(h0, .inr (5, [.int 0, .int 0, .int 0, .null]))] sz)) 1 250 (va_A [(h0, .inr (5, [.int 0, .int 0, .int 0, .null]))] sz) := by
  refine Met.ofW (cc := kc5) (maxL := 1) (ret := none) (by decide) rfl ?_
  intro p e s m args below meth c s₁ B hml hv
  obtain ⟨rfl, hsz, hP, hK, hD0⟩ := hv
  have hx := B.exec
  have hb := B.bytes
  have hr := B.returns
  have hts : ∀ w ∈ tbG, w.before _ s = true := fun w hw => atoms_spec (ws := .code ky5 kc5 1 none :: tbG) B.pre w (List.mem_cons_of_mem _ hw)
  have hown : s.vm.findClass RX5 = some m.cls := findClass_of_methodNamed B.named
  have hlocks := B.notSynchronized
  have hin : meth.name = "<init>" := (name_of_methodNamed B.named B.method).1
  subst hsz
  have hD := hD0.self (sz := s.heap.size)
  generalize hAe : va_A [(h0, .inr (5, [.int 0, .int 0, .int 0, .null]))] s.heap.size = A at hD ⊢
  have hA : ∀ q : Nat, s.heap.size ≤ q → A q := fun q h => by rw [← hAe]; exact Or.inr h
  have hS : va_S A s.heap s.heap [] := va_S.rf
  have hl := lv_entry ([.ref h0]) (n := 1) (Nat.le_of_ble_eq_true rfl)
  rw [lg_entry_eq]
  generalize (lg_sl ([.ref h0]) ++ List.replicate (1 - (lg_sl ([.ref h0])).length) Slot.unset).toArray = ls at hl ⊢
  have hl : lv_has ls 1 [(0, .ref h0)] := hl
  refine lv_aload_n hx hb kd5_0 rfl (lv_at hl 0 rfl) ?_
  refine W.objInit hx hb hown (hts _ (kn_in 34 rfl)) (hts _ (kn_in 1 rfl)) (hts _ (kn_in 2 rfl)) rfl (by rw [hml]; exact hl.1) rfl kd5_1 (Nat.le_of_ble_eq_true rfl) (Nat.le_of_ble_eq_true rfl) ?_
  refine W.eq (g2 := F0 m 4 ls []) rfl ?_
  refine lv_aload_n hx hb kd5_4 rfl (lv_at hl 0 rfl) ?_
  refine lv_sipush (v := 250) hx hb kd5_5 (by decide) ?_
  refine va_newa (atype := .int) (n := 250) (N' := 250) (a0 := (250, .inl (fun _ => 0))) hx hb (hts _ (kn_in 5 rfl)) rfl hK hP hD hS hA (fun _ => rfl) (by decide) (by decide) (Nat.le_of_ble_eq_true rfl) (Nat.le_of_ble_eq_true rfl) (Nat.le_of_ble_eq_true rfl) kd5_8 (fun q1 cA H hK2 hP hD hS => ?_)
  obtain rfl := k_int hK2
  have hP : va_P D vwCl [(h0, .inr (5, [.int 0, .int 0, .int 0, .null])), (q1, .inl (cs.1, 250, .inl (fun _ => 0)))] H := hP
  have hD : va_D A [(h0, .inr (5, [.int 0, .int 0, .int 0, .null])), (q1, .inl (cs.1, 250, .inl (fun _ => 0)))] := hD
  refine va_putF (D := D) (ci := 5) (v := .ref q1) (ty := .array .int) (C := RX5) (T := TX5) (N := 4) hx hb hts (jcl_ws (a := 5) (by decide)) tyX5 tyX5_ok nmX5 hown hK hP hD hS 0 rfl rfl 3 (by decide) (hts _ (kn_in 35 rfl)) (fun _ h9 => h9) rfl hin rfl (by decide +kernel) rfl rfl (Nat.le_of_ble_eq_true rfl) kd5_10 (fun H locs hP hD hS => ?_)
  have hP : va_P D vwCl [(h0, .inr (5, [.int 0, .int 0, .int 0, .ref q1])), (q1, .inl (cs.1, 250, .inl (fun _ => 0)))] H := hP
  have hD : va_D A [(h0, .inr (5, [.int 0, .int 0, .int 0, .ref q1])), (q1, .inl (cs.1, 250, .inl (fun _ => 0)))] := hD
  refine W.widen (k := 1) (n := 250) (by omega) (by omega) ?_
  exact W.vret hx hb hr (fun t ht hW => ⟨⟨(), rfl, trivial, q1, by rw [ht]; exact hP, hD⟩, hS.F ht⟩) hS.2.2 kd5_13
