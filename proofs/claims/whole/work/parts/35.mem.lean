theorem jpF_word {oc idx a b : Nat} (h : jpF.any (fun t => Nat.beq t.1 oc && Nat.beq t.2.1 idx && Nat.beq t.2.2.2.1 a && Nat.beq t.2.2.2.2 b) = true) : jfc oc idx a b ∈ tbG := by
  obtain ⟨⟨t1, t2, t3, t4, t5⟩, ht, h1⟩ := List.any_eq_true.mp h
  simp only [Bool.and_eq_true] at h1
  obtain ⟨⟨⟨e1, e2⟩, e3⟩, e4⟩ := h1
  cases Nat.eq_of_beq_eq_true e1; cases Nat.eq_of_beq_eq_true e2; cases Nat.eq_of_beq_eq_true e3; cases Nat.eq_of_beq_eq_true e4
  exact jis_in (List.all_eq_true.mp jpF_ok _ ht)
theorem jpI_word {oc idx : Nat} {v : Int} (h : jpI.any (fun t => Nat.beq t.1 oc && Nat.beq t.2.1 idx && decide (t.2.2.2 = v)) = true) : Cond.constant (jown oc) idx (Int32.ofInt v) ∈ tbG ∧ in32 v := by
  obtain ⟨⟨t1, t2, t3, t4⟩, ht, h1⟩ := List.any_eq_true.mp h
  simp only [Bool.and_eq_true] at h1
  obtain ⟨⟨e1, e2⟩, e3⟩ := h1
  cases Nat.eq_of_beq_eq_true e1; cases Nat.eq_of_beq_eq_true e2; cases of_decide_eq_true e3
  have h2 := List.all_eq_true.mp jpI_ok _ ht
  rw [Bool.and_eq_true] at h2
  have h3 := of_decide_eq_true h2.2
  exact ⟨jis_in h2.1, h3⟩
theorem jpJ_word {oc idx : Nat} {v : Int} (h : jpJ.any (fun t => Nat.beq t.1 oc && Nat.beq t.2.1 idx && decide (t.2.2.2 = v)) = true) : Cond.constantLong (jown oc) idx (Int64.ofInt v) ∈ tbG ∧ in64 v := by
  obtain ⟨⟨t1, t2, t3, t4⟩, ht, h1⟩ := List.any_eq_true.mp h
  simp only [Bool.and_eq_true] at h1
  obtain ⟨⟨e1, e2⟩, e3⟩ := h1
  cases Nat.eq_of_beq_eq_true e1; cases Nat.eq_of_beq_eq_true e2; cases of_decide_eq_true e3
  have h2 := List.all_eq_true.mp jpJ_ok _ ht
  rw [Bool.and_eq_true] at h2
  have h3 := of_decide_eq_true h2.2
  exact ⟨jis_in h2.1, h3⟩
theorem jpS_mem {oc idx b : Nat} (h : jpS.any (fun t => Nat.beq t.1 oc && Nat.beq t.2.1 idx && Nat.beq t.2.2.2 b) = true) : ∃ q ∈ jpS, q.1 = oc ∧ q.2.1 = idx ∧ q.2.2.2 = b := by
  obtain ⟨⟨t1, t2, t3, t4⟩, ht, h1⟩ := List.any_eq_true.mp h
  simp only [Bool.and_eq_true] at h1
  obtain ⟨⟨e1, e2⟩, e3⟩ := h1
  exact ⟨_, ht, Nat.eq_of_beq_eq_true e1, Nat.eq_of_beq_eq_true e2, Nat.eq_of_beq_eq_true e3⟩
theorem jpG_mem {oc idx a : Nat} (h : jpG.any (fun t => Nat.beq t.1 oc && Nat.beq t.2.1 idx && Nat.beq t.2.2.2.1 a) = true) : ∃ q ∈ jpG, q.1 = oc ∧ q.2.1 = idx ∧ q.2.2.2.1 = a ∧ ((q.2.2.2.2 = 0 ∧ jgc oc idx a 0 ∈ tbG) ∨ q.2.2.2.2 = 1) := by
  obtain ⟨⟨t1, t2, t3, t4, t5⟩, ht, h1⟩ := List.any_eq_true.mp h
  simp only [Bool.and_eq_true] at h1
  obtain ⟨⟨e1, e2⟩, e3⟩ := h1
  cases Nat.eq_of_beq_eq_true e1; cases Nat.eq_of_beq_eq_true e2; cases Nat.eq_of_beq_eq_true e3
  have h2 := List.all_eq_true.mp jpG_ok _ ht
  simp only [Bool.and_eq_true] at h2
  obtain ⟨⟨h3, h4⟩, h5⟩ := h2
  refine ⟨_, ht, rfl, rfl, rfl, ?_⟩
  have h6 : t5 ≤ 1 := Nat.le_of_ble_eq_true h5
  rcases (by omega : t5 = 0 ∨ t5 = 1) with rfl | rfl
  · exact Or.inl ⟨rfl, jis_in h3⟩
  · exact Or.inr rfl
section AM
variable {p : Program} {l : Launch} {e : Env} {R : Room} {s : State} {mm : MethodId} {args : Array Value} {below : List Frame} {meth : Method} {c : Code} {cells slots : Nat} {Q : State → Prop}
variable {D : va_G} {cs : ClassId × ClassId × ClassId} {ad : Nat → Nat} {sio : Value} {L : Nat} {xs : Nat → Int} {A : Nat → Prop} {m : Nat}
variable {pc a b : Nat} {v : Int} {ls st : List jV} {w : jW} {s2 : jS}
theorem jref62 {o : Nat} (h : o < 62) : jcv ad sio (jR o) = .ref (ad o) := jcv_ref (by unfold jro; rw [nbeq_ne (by omega), nbeq_ne (by omega)]; rfl)
theorem jrefk {o : Nat} (h1 : o ≠ 102) : jcv ad sio (jR o) = .ref (ad o) := by
  show (bif Nat.beq o 102 then sio else .ref (ad o)) = _
  rw [nbeq_ne h1]; rfl
theorem jfv_cv {o k f : Nat} {u : jV} (h : (match f with | 0 => some (jI (w o k)) | 1 => some (jI (w o k)) | r + 2 => some (jR r) : Option jV) = some u) (hr : f < 102) : jfv ad w o k f = jcv ad sio u := by
  rcases f with _ | _ | r
  · cases h; rfl
  · cases h; rfl
  · cases h; exact (jrefk (by omega)).symm
theorem jsh_f0 : (jsh.all fun s => s.2.2.all fun f => Nat.blt f 66) = true := by decide +kernel
theorem jsh_f {o k f : Nat} {t : Nat × Nat × List Nat} (h : jsh[o]? = some t) (hf : t.2.2[k]? = some f) : f < 66 := Nat.le_of_ble_eq_true (List.all_eq_true.mp (List.all_eq_true.mp jsh_f0 t (List.mem_of_getElem? h)) f (List.mem_of_getElem? hf))
theorem jlt62 {o : Nat} {t : Nat × Nat × List Nat} (h : jsh[o]? = some t) : o < 62 := (List.getElem?_eq_some_iff.mp h).1
theorem ad_getf {idx : Nat} (hC : jCx p R s mm args meth c D cs ad sio L xs A m) (hd : decode (jmc m) pc = .ok (.getfield idx, 3)) (hl : jlnk m (pc, .getfield idx, a, b, v) = true) (hs : jstp (.getfield idx) a b v pc ls st w = some s2)
    (k : jG p l e R s mm args below meth c cells slots Q D cs ad sio L xs A m s2.1 s2.2.1 s2.2.2.1 s2.2.2.2) : jG p l e R s mm args below meth c cells slots Q D cs ad sio L xs A m pc ls st w := by
  obtain ⟨hx, hb, hml, hown, hts, hlk, hrf, hrl, hK, hE, hA, hsc, hL31, hxs⟩ := id hC
  have hl : (jpF.any (fun t => Nat.beq t.1 (jm m).1 && Nat.beq t.2.1 idx && Nat.beq t.2.2.2.1 a && Nat.beq t.2.2.2.2 b) && (Nat.beq a 20 || Nat.blt a 8)) = true := hl
  rw [Bool.and_eq_true] at hl
  have hword := jpF_word hl.1
  simp only [jstp] at hs
  split at hs
  · rename_i o r
    split at hs
    · rename_i u hu
      cases hs
      unfold jfld at hu
      cases ho : Nat.blt o 62 with
      | true =>
        rw [ho] at hu
        simp only [cond_true] at hu
        split at hu
        · rename_i ci len fs hsh
          cases hci : Nat.beq ci a with
          | false => rw [hci] at hu; cases hu
          | true =>
            rw [hci] at hu
            cases Nat.eq_of_beq_eq_true hci
            simp only [cond_true] at hu
            have h8 : a < 8 := by
              rcases (jsh_ok hsh).1 with q | q | q | q
              · exact absurd hl.2 (by dsimp only at q; subst q; decide)
              · exact absurd hl.2 (by dsimp only at q; subst q; decide)
              · exact absurd hl.2 (by dsimp only at q; subst q; decide)
              · exact q.1
            have hlen : fs.length = jNN a := by
              rcases (jsh_ok hsh).1 with q | q | q | q
              · dsimp only at q; omega
              · dsimp only at q; omega
              · dsimp only at q; omega
              · exact q.2.1
            cases hf : fs[b]? with
            | none => rw [hf] at hu; cases hu
            | some f =>
              rw [hf] at hu
              have hblt : b < fs.length := (List.getElem?_eq_some_iff.mp hf).1
              have hfl := jsh_f hsh hf
              have hju : jfv ad w o b f = jcv ad sio u := by
                rcases f with _ | _ | rr
                · cases hu; rfl
                · cases hu; rfl
                · cases hu; exact (jrefk (by omega)).symm
              intro H locs lsC hR hL hlr hst
              have hget := jws_get (ad := ad) (cs := cs) (w := w) hsh
              rw [jcel_obj h8] at hget
              have hlink : (Cond.fieldLink (jown (jm m).1) idx (jTT a b).1 (jTT a b).2.1 (jTT a b).2.2.1).before args s = true := by
                have := hts _ hword
                unfold jfc at this
                rw [nbeq_ne (by omega : a ≠ 20)] at this
                exact this
              rw [List.map_cons, jref62 (jlt62 hsh)]
              refine va_get (D := D) (ci := a) (v := jcv ad sio u) (C := jRR a) (T := jTT a) (N := jNN a) hx hb hts (jcl_ws h8) hown hK hR.1 o hget (jcl_cl h8) b (by rw [← hlen]; exact hblt) hlink (fun _ h9 => h9) ?_ hd ?_
              · rw [List.getElem?_mapIdx, hf]; simp only [Option.map_some]; rw [hju]
              · refine k H locs lsC hR hL hlr (List.forall_mem_cons.mpr ⟨?_, fun u hu => hst u (List.mem_cons_of_mem _ hu)⟩)
                have hwr := hR.2.2.2.1 o _ hsh b
                rw [if_neg (show ¬ a = 12 by omega)] at hwr
                rcases f with _ | _ | rr
                · cases hu; exact hwr
                · cases hu; exact hwr
                · cases hu; exact trivial
        · cases hu
      | false =>
        rw [ho] at hu
        simp only [cond_false] at hu
        cases hc : (Nat.beq a 20 && (Nat.ble 110 o && Nat.blt o 116)) with
        | false => rw [hc] at hu; cases hu
        | true =>
          rw [hc] at hu
          simp only [Bool.and_eq_true] at hc
          obtain ⟨ha, ho1, ho2⟩ := hc
          cases Nat.eq_of_beq_eq_true ha
          have ho1 : 110 ≤ o := Nat.le_of_ble_eq_true ho1
          have ho2 : o < 116 := Nat.le_of_ble_eq_true ho2
          obtain ⟨oi, rfl⟩ : ∃ z, o = 110 + z := ⟨o - 110, by omega⟩
          obtain ⟨-, -, -, -, -, hS6, -⟩ := hE
          obtain ⟨g1, g2, g3, g4⟩ := hS6.1 oi (by omega)
          simp only [cond_true] at hu
          split at hu
          · cases hu
            intro H locs lsC hR hL hlr hst
            rw [List.map_cons, jrefk (by omega)]
            have hlink : (Cond.fieldLink (jown (jm m).1) idx "java/lang/String" "value" "[B").before args s = true := hts _ hword
            refine vk_getf hx hb g3 hR.2.2.1 hown hlink (fun _ h9 => h9) hd ?_
            have k2 := k H locs lsC hR hL hlr (List.forall_mem_cons.mpr ⟨trivial, fun u hu => hst u (List.mem_cons_of_mem _ hu)⟩)
            rw [List.map_cons, jrefk (by omega), show 110 + oi + 20 = 130 + oi by omega] at k2
            exact k2
          · cases hu
            intro H locs lsC hR hL hlr hst
            rw [List.map_cons, jrefk (by omega)]
            have hlink : (Cond.fieldLink (jown (jm m).1) idx "java/lang/String" "coder" "B").before args s = true := hts _ hword
            refine vk_getf hx hb g2 hR.2.2.1 hown hlink (fun _ h9 => h9) hd ?_
            exact k H locs lsC hR hL hlr (List.forall_mem_cons.mpr ⟨in32_0, fun u hu => hst u (List.mem_cons_of_mem _ hu)⟩)
          · cases hu
    · cases hs
  · cases hs
end AM
