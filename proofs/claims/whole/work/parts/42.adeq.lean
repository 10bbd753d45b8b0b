section AC
variable {p : Program} {l : Launch} {e : Env} {R : Room} {s : State} {mm : MethodId} {args : Array Value} {below : List Frame} {meth : Method} {c : Code} {cells slots : Nat} {Q : State → Prop}
variable {D : va_G} {cs : ClassId × ClassId × ClassId} {ad : Nat → Nat} {sio : Value} {L : Nat} {xs : Nat → Int} {A : Nat → Prop} {m : Nat}
/-- behind a call -/
theorem ad_after {pc k : Nat} {w w1 : jW} {r1 : jV} {H : Heap} {locs : List Loc} {lsC : Array Slot} {stC restC : List Value} {a : Array Value} (hR : jRp D cs ad L xs A s.heap w H locs) (hA : ∀ q, s.heap.size ≤ q → A q)
    (hr : va_Run p l e R s mm args below meth c H locs cells slots 0 0 (F0 mm pc lsC stC) restC (jQc D cs ad sio L xs w H.size k r1 w1 a) (va_A (jws ad cs w) H.size))
    (kk : ∀ (H1 : Heap) (locs1 : List Loc), jVR r1 → jRp D cs ad L xs A s.heap w1 H1 locs1 → W p l e R s mm args below meth c H1 locs1 cells slots Q (F0 mm (pc + 3) lsC ((jrv ad sio k r1).toList ++ restC))) : W p l e R s mm args below meth c H locs cells slots Q (F0 mm pc lsC stC) := by
  intro T hT X
  obtain ⟨v, st₀, t, T', L1, h0, X', hL, e1, e2, ⟨hv, hP, ⟨hz, hk⟩, hvr, hwr, h98, h100⟩, st⟩ := hr T hT X
  have hv : v = jrv ad sio k r1 := Outcome.returned.inj hv
  subst hv
  obtain ⟨hP0, hD0, hS0, -, -, -⟩ := hR
  have hF : ∀ q, va_A (jws ad cs w) H.size q → A q := by
    rintro q (⟨i, ev, h⟩ | h)
    · exact hD0.2 i (q, ev) h
    · exact hA q (Nat.le_trans hS0.1 h)
  rw [h0] at hz hk
  have hS1 : va_S A s.heap T'.heap (locs ++ L1) := ⟨Nat.le_trans hS0.1 (by rw [e1]; exact hz), fun q h1 h2 => by
      rw [e1, hk q (Nat.lt_of_lt_of_le h1 hS0.1) (fun z => h2 (hF q z))]; exact hS0.2.1 q h1 h2, fun q hq => by
      rcases List.mem_append.mp hq with h | h
      · exact hS0.2.2 q h
      · exact hF _ (hL q h)⟩
  obtain ⟨t2, a1, b1⟩ := kk T'.heap (locs ++ L1) hvr ⟨by rw [e1]; exact hP, jws_D hD0, hS1, hwr, h98, h100⟩ T' rfl X'
  exact ⟨t2, st t2 a1, b1⟩
theorem jrv_list {k : Nat} {r1 : jV} {rest : List jV} : (jrv ad sio k r1).toList ++ rest.map (jcv ad sio) = (bif Nat.beq k 0 then rest else r1 :: rest).map (jcv ad sio) := by
  unfold jrv
  cases Nat.beq k 0 <;> rfl
theorem jPc_blind {w : jW} {sz : Nat} {as : List jV} : FrameBlind (jPc D cs ad sio L xs w sz as) := by
  intro a U g mk q
  obtain ⟨q0, q1, qP, qK, qD, qE⟩ := q
  exact ⟨q0, q1, qP, va_K.moved (u := U) (U := U.calling g mk a) (Vm.Alike.refl U.vm) qK, qD, jEx.same (u := U) (U := U.calling g mk a) qE rfl⟩
theorem tbG_good (a : Nat) (h : jcw a ∈ tbG) : GoodIn tbG (jWs a) := by
  intro u hu
  have hm : u ∈ tbG := by
    rcases List.mem_cons.mp hu with h1 | h1
    · rw [h1]; exact h
    · exact h1
  exact ⟨hm, good_of_word (List.mem_filter.mp hm).2⟩
theorem jpM_v0 : (jpM.all fun t => Nat.beq t.2.2.2.2.2.2 0 || !(jpC.any (fun u => Nat.beq u.1 t.2.2.2.1 && Nat.beq u.2.2.2.2.2 0))) = true := by decide +kernel
/-- a call, whichever it is -/
theorem ad_call {f : jF} (hf : jAd l f) {i : Instr} {a b pc : Nat} {v : Int} {ls st : List jV} {w w' : jW} {r : jV} (hC : jCx p R s mm args meth c D cs ad sio L xs A m) (hcr : cells ≤ R.cells) (hsr : slots ≤ R.slots) (hcd : jcd m pc = some (i, a, b, v))
    (hi : (∃ idx, i = .invokevirtual idx ∧ jrcv w v (st.take b).reverse = true) ∨ (∃ idx, i = .invokestatic idx ∧ Nat.blt 999 a = false))
    (hrun : jcal f m a b pc ls st w = some (r, w'))
    (hend : ∀ (i : Instr) (a b : Nat) (v : Int) (pc' : Nat) (st' : List jV) (lsC : Array Slot) (H : Heap) (locs : List Loc), jcd m pc' = some (i, a, b, v) → jend i (jrk m) st' w' = some (r, w') → jVR r → jRp D cs ad L xs A s.heap w' H locs → W p l e R s mm args below meth c H locs cells slots Q (F0 mm pc' lsC (st'.map (jcv ad sio)))) :
    jG p l e R s mm args below meth c cells slots Q D cs ad sio L xs A m pc ls st w := by
  obtain ⟨hx, hb, hml, hown, hts, hlk, hrf, hrl, hK, hE, hA, hsc, hL31, hxs⟩ := id hC
  obtain ⟨⟨n, hd, hn⟩, hl⟩ := jdec (jOk_all m) hcd
  unfold jcal at hrun
  cases hcond : (Nat.ble b st.length && Nat.ble ((st.drop b).map jcat).sum 8 && Nat.ble ((st.take b).map jcat).sum (jml a)) with
  | false => rw [hcond] at hrun; cases hrun
  | true =>
    rw [hcond] at hrun
    simp only [Bool.and_eq_true] at hcond
    obtain ⟨⟨hb1, hb2⟩, hb3⟩ := hcond
    have hbl : b ≤ st.length := Nat.le_of_ble_eq_true hb1
    have h8 : ((st.drop b).map jcat).sum ≤ 8 := Nat.le_of_ble_eq_true hb2
    have hal : (((st.take b).reverse).map jcat).sum ≤ jml a := by
      rw [List.map_reverse, List.sum_reverse]; exact Nat.le_of_ble_eq_true hb3
    simp only [cond_true] at hrun
    cases hr1 : f a 0 (jent (jml a) (st.take b).reverse) [] w with
    | none => rw [hr1] at hrun; cases hrun
    | some y =>
      obtain ⟨r1, w1⟩ := y
      rw [hr1] at hrun
      dsimp only at hrun
      intro H locs lsC hR hL hlr hst
      have has : ∀ u ∈ (st.take b).reverse, jVR u := fun u hu => hst u (List.mem_of_mem_take (List.mem_reverse.mp hu))
      have hrest : ∀ u ∈ st.drop b, jVR u := fun u hu => hst u (List.mem_of_mem_drop hu)
      have hkk : ∀ (H1 : Heap) (locs1 : List Loc), jVR r1 → jRp D cs ad L xs A s.heap w1 H1 locs1 → W p l e R s mm args below meth c H1 locs1 cells slots Q (F0 mm (pc + 3) lsC ((jrv ad sio (jrk a) r1).toList ++ (st.drop b).map (jcv ad sio))) := by
        intro H1 locs1 hv1 hR1
        rw [jrv_list]
        refine hf m (pc + 3) ls _ w1 r w' hrun p e R s mm args below meth c cells slots Q D cs ad sio L xs A hC hcr hsr hend H1 locs1 lsC hR1 hL hlr ?_
        cases Nat.beq (jrk a) 0
        · exact List.forall_mem_cons.mpr ⟨hv1, hrest⟩
        · exact hrest
      have hpre : ∀ U : State, U.heap = H → s.WarmedH U.vm → jPc D cs ad sio L xs w H.size (st.take b).reverse (((st.take b).reverse).map (jcv ad sio)).toArray U := by
        intro U hU hW
        have hF : ∀ q, va_A (jws ad cs w) H.size q → A q := by
          rintro q (⟨i, ev, h⟩ | h)
          · exact hR.2.1.2 i (q, ev) h
          · exact hA q (Nat.le_trans hR.2.2.1.1 h)
        exact ⟨rfl, by rw [hU], by rw [hU]; exact hR.1, va_K.moved hW.alike hK, hR.2.1.weaken (fun _ _ _ _ => trivial), by rw [hU]; exact hE.go hW hR.2.2.1.2.1 hF⟩
      have hlen8 : 2 * (F0 mm pc lsC (st.map (jcv ad sio))).monitorRoom + (((st.drop b).map (jcv ad sio)).map fun v => v.category).sum ≤ 8 := lv_room (by rw [jcv_cats hsc]; exact h8)
      have hsz : (F0 mm pc lsC (st.map (jcv ad sio))).locals.size = jml m := hL.2.1
      have hfix : CallFix p mm c (jmc m) (jml m) s args tbG (jown (jm m).1) := ⟨hx, hb, hml, hown, hts⟩
      have hstk : (F0 mm pc lsC (st.map (jcv ad sio))).stack = (((st.take b).reverse).map (jcv ad sio)).reverse ++ (st.drop b).map (jcv ad sio) := by
        show st.map (jcv ad sio) = _
        rw [List.map_reverse, List.reverse_reverse, ← List.map_append, List.take_append_drop]
      rcases hi with ⟨idx, rfl, hrcv⟩ | ⟨idx, rfl, ha999⟩
      · obtain rfl := jn_of (k := 3) hn
        have hl : (jpM.any (fun t => Nat.beq t.1 (jm m).1 && Nat.beq t.2.1 idx && Nat.beq t.2.2.2.1 a) && jpC.any (fun t => Nat.beq t.1 a && Nat.beq t.2.2.2.2.2 0) && Nat.ble (jrf a + 1) (jrf m) && Nat.ble (19 + jml a + jrl a) (jrl m) && Nat.blt 0 b && decide ((parseMethodDescriptor (jmy a).desc).map (fun d => d.parameters.length) = some (b - 1)) && !Nat.blt 999 a && decide (v = (if (jm a).1 = 11 then 20 else ((jm a).1 : Int))) && (Nat.blt (jm a).1 8 || Nat.beq (jm a).1 11)) = true := hl
        simp only [Bool.and_eq_true] at hl
        obtain ⟨⟨⟨⟨⟨⟨⟨⟨hl1, hl2⟩, hl3⟩, hl4⟩, hl5⟩, hl6⟩, hl7⟩, hl8⟩, hl9⟩ := hl
        obtain ⟨g1, g2, g3, g4, g5, g6, -⟩ := jcl_words (Or.inl hl2)
        obtain ⟨g6, g7⟩ := g6 hl2
        have hb0 : 0 < b := Nat.le_of_ble_eq_true hl5
        have hdesc := of_decide_eq_true hl6
        have hv := of_decide_eq_true hl8
        -- the receiver
        obtain ⟨o, rs, hargs⟩ : ∃ o rs, (st.take b).reverse = jR o :: rs := by
          unfold jrcv at hrcv
          split at hrcv
          · exfalso; split at hv <;> omega
          · split at hrcv
            · rename_i o rs heq; exact ⟨o, rs, heq⟩
            · cases hrcv
        have hkind : ∃ kk, jkind w o = some (if (jm a).1 = 11 then 20 else (jm a).1, kk) := by
          rw [hv, hargs] at hrcv
          unfold jrcv at hrcv
          split at hrcv
          · rename_i z hz; exfalso; split at hz <;> omega
          · rename_i z hz
            cases hk : jkind w o with
            | none => simp only [hk] at hrcv; cases hrcv
            | some q =>
              obtain ⟨q1, q2⟩ := q
              simp only [hk] at hrcv
              have e1 := Nat.eq_of_beq_eq_true hrcv
              refine ⟨q2, ?_⟩
              rw [e1]
              congr 2
              have hz : (if (jm a).1 = 11 then (20 : Int) else ((jm a).1 : Int)) = ((z : Nat) : Int) := hz
              by_cases h11 : (jm a).1 = 11
              · rw [if_pos h11] at hz ⊢; omega
              · rw [if_neg h11] at hz ⊢; omega
        obtain ⟨kk, hkind⟩ := hkind
        have hrecv : jcv ad sio (jR o) = .ref (ad o) ∧ ∃ cell : Cell, H[ad o]? = some cell ∧ cell.vm.isStatics = false ∧ s.vm.findClass (jmy a).cls = some cell.cls := by
          by_cases h62 : o < 62
          · obtain ⟨t, ht, e1, e2⟩ := ad_arr hkind h62
            have h8' : t.1 < 8 ∧ t.1 = (jm a).1 := by
              rw [Bool.or_eq_true] at hl9
              rcases hl9 with z | z
              · have z : (jm a).1 < 8 := Nat.le_of_ble_eq_true z
                rw [if_neg (by omega)] at e1
                exact ⟨by omega, e1⟩
              · have z := Nat.eq_of_beq_eq_true z
                rw [if_pos z] at e1
                rcases (jsh_ok ht).1 with y | y | y | y <;> omega
            have hget := jws_get (ad := ad) (cs := cs) (w := w) ht
            rw [jcel_obj h8'.1] at hget
            refine ⟨jref62 h62, ?_⟩
            have h3 := va_recv hK hR.1 (ci := t.1) (q0 := o) (jcl_cl h8'.1) hget
            obtain ⟨cell, q1, q2, q3⟩ := h3
            refine ⟨cell, q1, q2, ?_⟩
            rw [g5, ← h8'.2]
            have : jown t.1 = jRR t.1 := by rcases j8 h8'.1 with z | z | z | z | z | z | z | z <;> rw [z] <;> rfl
            rw [this]; exact q3
          · rw [Bool.or_eq_true] at hl9
            rcases jkind_hi hkind h62 with ⟨-, q, -⟩ | ⟨-, q, -⟩ | ⟨y1, y2, q, -⟩ | ⟨-, -, q, -⟩
            · exfalso; rcases hl9 with z | z
              · have z : (jm a).1 < 8 := Nat.le_of_ble_eq_true z
                rw [if_neg (by omega)] at q; omega
              · rw [if_pos (Nat.eq_of_beq_eq_true z)] at q; omega
            · exfalso; rcases hl9 with z | z
              · have z : (jm a).1 < 8 := Nat.le_of_ble_eq_true z
                rw [if_neg (by omega)] at q; omega
              · rw [if_pos (Nat.eq_of_beq_eq_true z)] at q; omega
            · have h11 : (jm a).1 = 11 := by
                by_cases h : (jm a).1 = 11
                · exact h
                · rw [if_neg h] at q
                  rcases hl9 with z | z
                  · have z : (jm a).1 < 8 := Nat.le_of_ble_eq_true z
                    omega
                  · exact Nat.eq_of_beq_eq_true z
              obtain ⟨oi, rfl⟩ : ∃ z, o = 110 + z := ⟨o - 110, by omega⟩
              refine ⟨jrefk (by omega), ?_⟩
              rw [g5, h11]
              obtain ⟨-, -, -, -, -, hS6, -⟩ := hE
              exact vk_recv hS6 (i := oi) (by omega) hR.2.2.1
            · exfalso; rcases hl9 with z | z
              · have z : (jm a).1 < 8 := Nat.le_of_ble_eq_true z
                rw [if_neg (by omega)] at q; omega
              · rw [if_pos (Nat.eq_of_beq_eq_true z)] at q; omega
        obtain ⟨hrv, hrecv⟩ := hrecv
        have hM := met_of hf hr1 g4 g5 hal has (D := D) (cs := cs) (ad := ad) hR.2.2.2.1 hR.2.2.2.2.1 hR.2.2.2.2.2 hsc hL31 hxs H.size
        have hlnk : (Cond.methodLink (jown (jm m).1) idx (jmy a)).before args s = true := by
          obtain ⟨q, hq, e1, e2, e3, hw⟩ := jpM_word hl1
          rcases hw with ⟨h0, h1⟩ | h1
          · have h2 := hts _ h1
            unfold jmcd at h2
            have h999 : ¬ 999 < a := fun z => by
              rw [show Nat.blt 999 a = true from Nat.ble_eq_true_of_le z] at hl7; cases hl7
            rw [nbeq_ne (by omega), nbeq_ne (by omega), nbeq_ne (by omega), nbeq_ne (by omega)] at h2
            exact h2
          · have h2 := List.all_eq_true.mp jpM_v0 q hq
            rw [Bool.or_eq_true, h1, e3] at h2
            rcases h2 with z | z
            · cases z
            · rw [hl2] at z; cases z
        have cw : CallW R s args (jown (jm m).1) (jmy a).cls idx (jmy a) (jmc a) (jml a) (jrt (jrk a)) (jWs a) (jRm a) 0 0 (b - 1) :=
          ⟨callB_of (b - 1) hts (tbG_good a g1) rfl rfl rfl (hts _ g2) hlnk ⟨g3.1, g3.2, hdesc⟩ ⟨Nat.le_trans (Nat.le_of_ble_eq_true hl3) hrf, by have := Nat.le_of_ble_eq_true hl4; show 8 + (jml a + 11) + jrl a ≤ R.locals; omega⟩, hts _ g6, hts _ g7⟩
        have hlenrs : rs.length = b - 1 := by
          have : ((st.take b).reverse).length = b := by rw [List.length_reverse, List.length_take]; omega
          rw [hargs] at this; simp at this; omega
        rw [hargs] at hM hpre hstk
        rw [List.map_cons, hrv] at hpre
        rw [List.map_cons, hrv, List.reverse_cons, List.append_assoc] at hstk
        exact ad_after hR hA (va_runV (As := rs.map (jcv ad sio)) (b := ad o) (rest := (st.drop b).map (jcv ad sio)) hfix hM cw ⟨jPc_blind, hrecv, hpre⟩ (g := F0 mm pc lsC (st.map (jcv ad sio))) rfl (by rw [List.length_map]; exact hlenrs) hsz hstk hlen8 hd ⟨hcr, hsr⟩) hkk
      · obtain rfl := jn_of (k := 3) hn
        have hl : (jpM.any (fun t => Nat.beq t.1 (jm m).1 && Nat.beq t.2.1 idx && Nat.beq t.2.2.2.1 a) && ((Nat.blt 999 a && Nat.blt a 1004 && Nat.ble 1 (jrf m) && Nat.ble (bif Nat.beq a 1000 then 60 else 24) (jrl m)) || (Nat.blt a 999 && jpC.any (fun t => Nat.beq t.1 a && Nat.beq t.2.2.2.2.2 1) && Nat.ble (jrf a + 1) (jrf m) && Nat.ble (19 + jml a + jrl a) (jrl m) && decide ((parseMethodDescriptor (jmy a).desc).map (fun d => d.parameters.length) = some b)))) = true := hl
        rw [ha999] at hl
        simp only [Bool.and_eq_true, Bool.false_and, Bool.false_or] at hl
        obtain ⟨hl1, ⟨⟨⟨hl5, hl2⟩, hl3⟩, hl4⟩, hl6⟩ := hl
        obtain ⟨g1, g2, g3, g4, g5, -, g6⟩ := jcl_words (Or.inr hl2)
        have g6 := g6 hl2
        have hdesc := of_decide_eq_true hl6
        have ha : a < 999 := Nat.le_of_ble_eq_true hl5
        have hM := met_of hf hr1 g4 g5 hal has (D := D) (cs := cs) (ad := ad) hR.2.2.2.1 hR.2.2.2.2.1 hR.2.2.2.2.2 hsc hL31 hxs H.size
        have hlenas : (((st.take b).reverse).map (jcv ad sio)).length = b := by rw [List.length_map, List.length_reverse, List.length_take]; omega
        have hroom : (jRm a).frames + 1 ≤ R.frames ∧ 8 + (jml a + 11) + (jRm a).locals ≤ R.locals := ⟨Nat.le_trans (Nat.le_of_ble_eq_true hl3) hrf, by have := Nat.le_of_ble_eq_true hl4; show 8 + (jml a + 11) + jrl a ≤ R.locals; omega⟩
        obtain ⟨q, hq, e1, e2, e3, hw⟩ := jpM_word hl1
        rcases hw with ⟨h0, h1⟩ | h1
        · have h2 := hts _ h1
          unfold jmcd at h2
          rw [nbeq_ne (by omega), nbeq_ne (by omega), nbeq_ne (by omega), nbeq_ne (by omega)] at h2
          have cw : CallB R s args (jown (jm m).1) idx (jmy a) (jmc a) (jml a) (jrt (jrk a)) (jWs a) (jRm a) 0 0 b ∧ (Cond.static (jmy a)).before args s = true :=
            ⟨callB_of b hts (tbG_good a g1) rfl rfl rfl (hts _ g2) h2 ⟨g3.1, g3.2, hdesc⟩ hroom, hts _ g6⟩
          exact ad_after hR hA (va_runS (As := ((st.take b).reverse).map (jcv ad sio)) (rest := (st.drop b).map (jcv ad sio)) hfix hM cw ⟨jPc_blind, hpre⟩ (g := F0 mm pc lsC (st.map (jcv ad sio))) rfl hlenas hsz hstk hlen8 hd ⟨hcr, hsr⟩) hkk
        · obtain ⟨-, -, -, -, -, -, -, hE8, -⟩ := id hE
          have hz := hE8 q hq h1
          rw [e1, e2, e3] at hz
          have cw := va_cnB (R := R) (args := args) (bytes := jmc a) (maxL := jml a) (ret := jrt (jrk a)) (rm := jRm a) b hts (tbG_good a g1) rfl rfl rfl hz (hts _ g2) ⟨g3.1, g3.2, hdesc⟩ hroom
          exact ad_after hR hA (va_runSN (As := ((st.take b).reverse).map (jcv ad sio)) (rest := (st.drop b).map (jcv ad sio)) hfix hM ⟨cw, hts _ g6, trivial⟩ ⟨jPc_blind, hpre⟩ (g := F0 mm pc lsC (st.map (jcv ad sio))) rfl hlenas hsz hstk hlen8 hd ⟨hcr, hsr⟩) hkk
end AC
theorem jAd_body {l : Launch} {f : jF} (hf : jAd l f) : jAd l (jbody f) := by
  intro m pc ls st w r w' hrun p e R s mm args below meth c cells slots Q D cs ad sio L xs A hC hcr hsr hend
  unfold jbody at hrun
  cases hcd : jcd m pc with
  | none => rw [hcd] at hrun; cases hrun
  | some q =>
    obtain ⟨i, a, b, v⟩ := q
    rw [hcd] at hrun
    dsimp only at hrun
    cases hs : jstp i a b v pc ls st w with
    | some s2 =>
      rw [hs] at hrun
      exact ad_go (jOk_all m) hC hcr hsr hcd hs (hf m s2.1 s2.2.1 s2.2.2.1 s2.2.2.2 r w' hrun p e R s mm args below meth c cells slots Q D cs ad sio L xs A hC hcr hsr hend)
    | none =>
      rw [hs] at hrun
      dsimp only at hrun
      split at hrun
      · cases hr : jrcv w v (st.take b).reverse with
        | false => rw [hr] at hrun; cases hrun
        | true => rw [hr] at hrun; exact ad_call hf hC hcr hsr hcd (Or.inl ⟨_, rfl, hr⟩) hrun hend
      · cases hr : Nat.blt 999 a with
        | true => rw [hr] at hrun; cases hrun
        | false => rw [hr] at hrun; exact ad_call hf hC hcr hsr hcd (Or.inr ⟨_, rfl, hr⟩) hrun hend
      · intro H locs lsC hR hL hlr hst
        have hw := jend_w hrun
        subst hw
        refine hend _ _ _ _ _ _ lsC H locs hcd hrun ?_ hR
        unfold jend at hrun
        split at hrun
        · split at hrun
          · rename_i x
            cases hq : jretI (jrk m) x with
            | false => rw [hq] at hrun; cases hrun
            | true => rw [hq] at hrun; cases hrun; exact hst _ List.mem_cons_self
          · cases hrun
        · split at hrun
          · cases hq : Nat.beq (jrk m) 3 with
            | false => rw [hq] at hrun; cases hrun
            | true => rw [hq] at hrun; cases hrun; exact hst _ List.mem_cons_self
          · cases hrun
        · split at hrun
          · cases hq : Nat.beq (jrk m) 0 with
            | false => rw [hq] at hrun; cases hrun
            | true => rw [hq] at hrun; cases hrun; exact in32_0
          · cases hrun
        · cases hrun
/-- THE RUNS OF THE ABSTRACT MACHINE ARE THE MACHINE'S -/
theorem jAd_all (l : Launch) : ∀ n, jAd l (jex n)
  | 0 => fun m pc ls st w r w' h => by cases h
  | n + 1 => jAd_body (jAd_all l n)
