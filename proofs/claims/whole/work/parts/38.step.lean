theorem jpM_word {oc idx a : Nat} (h : jpM.any (fun t => Nat.beq t.1 oc && Nat.beq t.2.1 idx && Nat.beq t.2.2.2.1 a) = true) : ∃ q ∈ jpM, q.1 = oc ∧ q.2.1 = idx ∧ q.2.2.2.1 = a ∧ ((q.2.2.2.2.2.2 = 0 ∧ jmcd oc idx a 0 ∈ tbG) ∨ q.2.2.2.2.2.2 = 1) := by
  obtain ⟨⟨t1, t2, t3, t4, t5, t6, t7⟩, ht, h1⟩ := List.any_eq_true.mp h
  simp only [Bool.and_eq_true] at h1
  obtain ⟨⟨e1, e2⟩, e3⟩ := h1
  cases Nat.eq_of_beq_eq_true e1; cases Nat.eq_of_beq_eq_true e2; cases Nat.eq_of_beq_eq_true e3
  have h2 := List.all_eq_true.mp jpM_ok _ ht
  simp only [Bool.and_eq_true] at h2
  obtain ⟨h3, h4⟩ := h2
  refine ⟨_, ht, rfl, rfl, rfl, ?_⟩
  have h6 : t7 ≤ 1 := Nat.le_of_ble_eq_true h4
  rcases (by omega : t7 = 0 ∨ t7 = 1) with rfl | rfl
  · exact Or.inl ⟨rfl, jis_in h3⟩
  · exact Or.inr rfl
theorem jpM_lib0 : (jpM.all fun t => Nat.blt t.2.2.2.1 1000 || Nat.beq t.2.2.2.2.2.2 0) = true := by decide +kernel
theorem jlib_in {w : Cond} (h : w ∈ [Cond.native arraycopyName, .static arraycopyName, .initialized "java/lang/System", .static Lib.Math.max.name, .static Lib.Math.min.name, .static Lib.Math.abs.name, .initialized "java/lang/Math", .code Lib.Math.max.name Lib.Math.max.code 2 (some .int), .code Lib.Math.min.name Lib.Math.min.code 2 (some .int), .code Lib.Math.abs.name Lib.Math.abs.code 1 (some .int)]) : w ∈ tbG := by
  have h1 := List.all_eq_true.mp jlib_ok w h
  rw [Bool.and_eq_true] at h1
  exact List.mem_filter.mpr ⟨of_decide_eq_true h1.1, h1.2⟩
theorem jpM_lib {oc idx a : Nat} (ha : 1000 ≤ a) (h : jpM.any (fun t => Nat.beq t.1 oc && Nat.beq t.2.1 idx && Nat.beq t.2.2.2.1 a) = true) : jmcd oc idx a 0 ∈ tbG := by
  obtain ⟨q, hq, e1, e2, e3, h1 | h1⟩ := jpM_word h
  · exact h1.2
  · have := List.all_eq_true.mp jpM_lib0 q hq
    rw [Bool.or_eq_true, h1, e3] at this
    rcases this with z | z
    · exact absurd (Nat.le_of_ble_eq_true z) (by omega)
    · cases z
theorem jabs_in {x : Int} (h : in32 x) : in32 (jabs x) := by
  unfold jabs
  split
  · exact h
  · exact n32_in _
section AS
variable {p : Program} {l : Launch} {e : Env} {R : Room} {s : State} {mm : MethodId} {args : Array Value} {below : List Frame} {meth : Method} {c : Code} {cells slots : Nat} {Q : State → Prop}
variable {D : va_G} {cs : ClassId × ClassId × ClassId} {ad : Nat → Nat} {sio : Value} {L : Nat} {xs : Nat → Int} {A : Nat → Prop} {m : Nat}
variable {pc a b : Nat} {v : Int} {ls st : List jV} {w : jW} {s2 : jS}
theorem jmath_words {idx a : Nat} (hts : ∀ w ∈ tbG, w.before args s = true) (ha : 1000 ≤ a) (h : jpM.any (fun t => Nat.beq t.1 (jm m).1 && Nat.beq t.2.1 idx && Nat.beq t.2.2.2.1 a) = true) : (jmcd (jm m).1 idx a 0).before args s = true := hts _ (jpM_lib ha h)
theorem ad_lib {idx : Nat} (hC : jCx p R s mm args meth c D cs ad sio L xs A m) (hcr : cells ≤ R.cells) (hsr : slots ≤ R.slots) (hd : decode (jmc m) pc = .ok (.invokestatic idx, 3)) (hl : jlnk m (pc, .invokestatic idx, a, b, v) = true) (hs : jstp (.invokestatic idx) a b v pc ls st w = some s2)
    (k : jG p l e R s mm args below meth c cells slots Q D cs ad sio L xs A m s2.1 s2.2.1 s2.2.2.1 s2.2.2.2) : jG p l e R s mm args below meth c cells slots Q D cs ad sio L xs A m pc ls st w := by
  obtain ⟨hx, hb, hml, hown, hts, hlk, hrf, hrl, hK, hE, hA, hsc, hL31, hxs⟩ := id hC
  have hl : (jpM.any (fun t => Nat.beq t.1 (jm m).1 && Nat.beq t.2.1 idx && Nat.beq t.2.2.2.1 a) && ((Nat.blt 999 a && Nat.blt a 1004 && Nat.ble 1 (jrf m) && Nat.ble (bif Nat.beq a 1000 then 60 else 24) (jrl m)) || (Nat.blt a 999 && jpC.any (fun t => Nat.beq t.1 a && Nat.beq t.2.2.2.2.2 1) && Nat.ble (jrf a + 1) (jrf m) && Nat.ble (19 + jml a + jrl a) (jrl m) && decide ((parseMethodDescriptor (jmy a).desc).map (fun d => d.parameters.length) = some b)))) = true := hl
  rw [Bool.and_eq_true] at hl
  obtain ⟨hl1, hl2⟩ := hl
  simp only [jstp] at hs
  have ha : 1000 ≤ a := by
    by_cases h0 : a = 1000
    · omega
    · rw [nbeq_ne h0] at hs
      by_cases h1 : a = 1001
      · omega
      · rw [nbeq_ne h1] at hs
        by_cases h2 : a = 1002
        · omega
        · rw [nbeq_ne h2] at hs
          by_cases h3 : a = 1003
          · omega
          · rw [nbeq_ne h3] at hs; cases hs
  have hw0 := jmath_words (m := m) hts ha hl1
  have hl3 : Nat.ble 1 (jrf m) = true ∧ Nat.ble (bif Nat.beq a 1000 then 60 else 24) (jrl m) = true := by
    rw [Bool.or_eq_true] at hl2
    rcases hl2 with q | q
    · simp only [Bool.and_eq_true] at q; exact ⟨q.1.2, q.2⟩
    · simp only [Bool.and_eq_true] at q
      exact absurd (Nat.le_of_ble_eq_true q.1.1.1.1) (by omega)
  have hF : 1 ≤ R.frames := Nat.le_trans (Nat.le_of_ble_eq_true hl3.1) hrf
  have hcats : ∀ r : List jV, Nat.ble (r.map jcat).sum 8 = true → ((r.map (jcv ad sio)).map fun v => v.category).sum ≤ 8 := fun r q => by rw [jcv_cats hsc]; exact Nat.le_of_ble_eq_true q
  by_cases h0 : a = 1000
  · subst h0
    have hLo : 60 ≤ R.locals := Nat.le_trans (Nat.le_of_ble_eq_true hl3.2) hrl
    replace hs : jcopy ls st pc w = some s2 := hs
    unfold jcopy at hs
    split at hs
    · rename_i n j q i o r
      cases hq62 : (Nat.blt o 62 && Nat.blt q 62 && Nat.ble (r.map jcat).sum 8) with
      | false => rw [hq62] at hs; cases hs
      | true =>
        rw [hq62] at hs
        simp only [Bool.and_eq_true] at hq62
        have ho : o < 62 := Nat.le_of_ble_eq_true hq62.1.1
        have hq : q < 62 := Nat.le_of_ble_eq_true hq62.1.2
        simp only [cond_true] at hs
        split at hs
        · rename_i k1 n1 k2 n2 hk1 hk2
          cases hkk : (Nat.beq k1 k2 && (Nat.beq k1 10 || Nat.beq k1 12)) with
          | false => rw [hkk] at hs; cases hs
          | true =>
            rw [hkk] at hs
            simp only [Bool.and_eq_true, Bool.or_eq_true] at hkk
            cases Nat.eq_of_beq_eq_true hkk.1
            simp only [cond_true] at hs
            split at hs
            · rename_i hin
              obtain ⟨i0, j0, n0, hi1, hj1⟩ := hin
              cases hs
              intro H locs lsC hR hL hlr hst
              have hnr : in32 n := hst _ List.mem_cons_self
              have hjr : in32 j := hst _ (List.mem_cons_of_mem _ List.mem_cons_self)
              have hir : in32 i := hst _ (List.mem_cons_of_mem _ (List.mem_cons_of_mem _ (List.mem_cons_of_mem _ List.mem_cons_self)))
              have nn : ∀ {z : Int}, 0 ≤ z → in32 z → ¬ Int32.ofInt z < 0 := fun h0 h1 => by rw [c_z0, c_lt h1 in32_0]; omega
              obtain ⟨t1, ht1, e1, e2⟩ := ad_arr hk1 ho
              obtain ⟨t2, ht2, e3, e4⟩ := ad_arr hk2 hq
              subst e2; subst e4
              have hg1 := jws_get (ad := ad) (cs := cs) (w := w) ht1
              have hg2 := jws_get (ad := ad) (cs := cs) (w := w) ht2
              have hml2 : c.maxLocals = lsC.size := by rw [hml]; exact hL.2.1.symm
              have hloc : ((r.map (jcv ad sio)).map fun v => v.category).sum + (nativeFrameWords "java/lang/System" "arraycopy" 5 + 11) ≤ R.locals := by
                have := hcats r hq62.2
                have h3 : nativeFrameWords "java/lang/System" "arraycopy" 5 ≤ 40 := by decide
                omega
              have hw1 : (Cond.methodLink (jown (jm m).1) idx arraycopyName).before args s = true := hw0
              have lw : ∀ {w : Cond}, w ∈ [Cond.native arraycopyName, .static arraycopyName, .initialized "java/lang/System", .static Lib.Math.max.name, .static Lib.Math.min.name, .static Lib.Math.abs.name, .initialized "java/lang/Math", .code Lib.Math.max.name Lib.Math.max.code 2 (some .int), .code Lib.Math.min.name Lib.Math.min.code 2 (some .int), .code Lib.Math.abs.name Lib.Math.abs.code 1 (some .int)] → w.before args s = true := fun h => hts _ (jlib_in h)
              have hwr : jWR (jmv w o i q j n) := by
                intro z t ht kk
                by_cases hz : z = q
                · subst hz
                  rw [jmv_self]
                  rw [ht2] at ht; cases ht
                  by_cases hc : j ≤ kk ∧ kk < j + n
                  · rw [if_pos hc]
                    have := hR.2.2.2.1 o t1 ht1 (i + (kk - j)); rw [e1] at this; rw [e3]; exact this
                  · rw [if_neg hc]
                    exact hR.2.2.2.1 z t2 ht2 kk
                · rw [jmv_ne hz]; exact hR.2.2.2.1 z t ht kk
              rw [List.map_cons, List.map_cons, List.map_cons, List.map_cons, List.map_cons, jref62 ho, jref62 hq]
              rcases hkk.2 with z | z
              · have z := Nat.eq_of_beq_eq_true z
                subst z
                rw [jcel_i e1] at hg1
                rw [jcel_i e3] at hg2
                refine va_copyi hx hb hml2 hown hw1 (lw (by simp)) (lw (by simp)) (lw (by simp)) hK hR.1 hR.2.1 hR.2.2.1 o q 0 0 hg1 hg2 rfl rfl rfl (nn i0 hir) (nn j0 hjr) (nn n0 hnr) ?_ ?_ (fun _ _ => rfl) hF hloc hd (fun H1 locs1 hP1 hD1 hS1 => ?_)
                · rw [c_clamp i0 hir, c_clamp n0 hnr]; omega
                · rw [c_clamp j0 hjr, c_clamp n0 hnr]; omega
                · refine k H1 locs1 lsC (hR.put ht2 ?_ (fun z hz => jmv_ne hz) hwr hP1 hS1) hL hlr (tail_in (tail_in (tail_in (tail_in (tail_in hst)))))
                  rw [jcel_i e3, jmv_arr i0 j0 n0, c_clamp i0 hir, c_clamp j0 hjr, c_clamp n0 hnr]
              · have z := Nat.eq_of_beq_eq_true z
                subst z
                rw [jcel_l e1] at hg1
                rw [jcel_l e3] at hg2
                refine va_copyl hx hb hml2 hown hw1 (lw (by simp)) (lw (by simp)) (lw (by simp)) hK hR.1 hR.2.1 hR.2.2.1 o q 2 2 hg1 hg2 rfl rfl rfl (nn i0 hir) (nn j0 hjr) (nn n0 hnr) ?_ ?_ (fun _ _ => rfl) hF hloc hd (fun H1 locs1 hP1 hD1 hS1 => ?_)
                · rw [c_clamp i0 hir, c_clamp n0 hnr]; omega
                · rw [c_clamp j0 hjr, c_clamp n0 hnr]; omega
                · refine k H1 locs1 lsC (hR.put ht2 ?_ (fun z hz => jmv_ne hz) hwr hP1 hS1) hL hlr (tail_in (tail_in (tail_in (tail_in (tail_in hst)))))
                  rw [jcel_l e3, jmv_arrL i0 j0 n0, c_clamp i0 hir, c_clamp j0 hjr, c_clamp n0 hnr]
            · cases hs
        · cases hs
    · cases hs
  · have hLo : 24 ≤ R.locals := by
      have := hl3.2
      rw [nbeq_ne h0] at this
      exact Nat.le_trans (Nat.le_of_ble_eq_true this) hrl
    have lw : ∀ {w : Cond}, w ∈ [Cond.native arraycopyName, .static arraycopyName, .initialized "java/lang/System", .static Lib.Math.max.name, .static Lib.Math.min.name, .static Lib.Math.abs.name, .initialized "java/lang/Math", .code Lib.Math.max.name Lib.Math.max.code 2 (some .int), .code Lib.Math.min.name Lib.Math.min.code 2 (some .int), .code Lib.Math.abs.name Lib.Math.abs.code 1 (some .int)] → w.before args s = true := fun h => hts _ (jlib_in h)
    rw [nbeq_ne h0] at hs
    simp only [cond_false] at hs
    by_cases h1 : a = 1001
    · subst h1
      replace hs : jlib jmax ls st pc w = some s2 := hs
      unfold jlib at hs
      split at hs
      · rename_i y x r
        cases hq : Nat.ble (r.map jcat).sum 8 with
        | false => rw [hq] at hs; cases hs
        | true =>
          rw [hq] at hs; cases hs
          intro H locs lsC hR hL hlr hst
          have hy : in32 y := hst _ List.mem_cons_self
          have hx' : in32 x := hst _ (List.mem_cons_of_mem _ List.mem_cons_self)
          have hw1 : (Cond.methodLink (jown (jm m).1) idx Lib.Math.max.name).before args s = true := hw0
          refine va_mmax hx hb (by rw [hml]; exact hL.2.1.symm) hown hw1 (lw (by simp)) (lw (by simp)) (lw (by simp)) hF (by have := hcats r hq; omega) hcr hsr hd ?_
          rw [c_max hx' hy]
          exact k H locs lsC hR hL hlr (List.forall_mem_cons.mpr ⟨by show in32 (jmax x y); unfold jmax; split <;> assumption, tail_in (tail_in hst)⟩)
      · cases hs
    · rw [nbeq_ne h1] at hs
      simp only [cond_false] at hs
      by_cases h2 : a = 1002
      · subst h2
        replace hs : jlib jmin ls st pc w = some s2 := hs
        unfold jlib at hs
        split at hs
        · rename_i y x r
          cases hq : Nat.ble (r.map jcat).sum 8 with
          | false => rw [hq] at hs; cases hs
          | true =>
            rw [hq] at hs; cases hs
            intro H locs lsC hR hL hlr hst
            have hy : in32 y := hst _ List.mem_cons_self
            have hx' : in32 x := hst _ (List.mem_cons_of_mem _ List.mem_cons_self)
            have hw1 : (Cond.methodLink (jown (jm m).1) idx Lib.Math.min.name).before args s = true := hw0
            refine va_mmin hx hb (by rw [hml]; exact hL.2.1.symm) hown hw1 (lw (by simp)) (lw (by simp)) (lw (by simp)) hF (by have := hcats r hq; omega) hcr hsr hd ?_
            rw [c_min hx' hy]
            exact k H locs lsC hR hL hlr (List.forall_mem_cons.mpr ⟨by show in32 (jmin x y); unfold jmin; split <;> assumption, tail_in (tail_in hst)⟩)
        · cases hs
      · rw [nbeq_ne h2] at hs
        simp only [cond_false] at hs
        by_cases h3 : a = 1003
        · subst h3
          replace hs : jlibA ls st pc w = some s2 := hs
          unfold jlibA at hs
          split at hs
          · rename_i x r
            cases hq : Nat.ble (r.map jcat).sum 8 with
            | false => rw [hq] at hs; cases hs
            | true =>
              rw [hq] at hs; cases hs
              intro H locs lsC hR hL hlr hst
              have hx' : in32 x := hst _ List.mem_cons_self
              have hw1 : (Cond.methodLink (jown (jm m).1) idx Lib.Math.abs.name).before args s = true := hw0
              refine va_mabs hx hb (by rw [hml]; exact hL.2.1.symm) hown hw1 (lw (by simp)) (lw (by simp)) (lw (by simp)) hF (by have := hcats r hq; omega) hcr hsr hd ?_
              rw [c_abs hx']
              exact k H locs lsC hR hL hlr (List.forall_mem_cons.mpr ⟨jabs_in hx', tail_in hst⟩)
          · cases hs
        · rw [nbeq_ne h3] at hs; cases hs
end AS
