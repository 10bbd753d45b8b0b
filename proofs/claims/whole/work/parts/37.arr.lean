section AQ
variable {p : Program} {l : Launch} {e : Env} {R : Room} {s : State} {mm : MethodId} {args : Array Value} {below : List Frame} {meth : Method} {c : Code} {cells slots : Nat} {Q : State → Prop}
variable {D : va_G} {cs : ClassId × ClassId × ClassId} {ad : Nat → Nat} {sio : Value} {L : Nat} {xs : Nat → Int} {A : Nat → Prop} {m : Nat}
variable {pc a b : Nat} {v : Int} {ls st : List jV} {w : jW} {s2 : jS}
theorem jstr_len0 : ((List.range 6).all fun i => decide (jlens.getD i 0 = ((jstr[i]?).getD []).length) && decide (((jstr[i]?).getD []).length ≤ 6) && (List.range 7).all fun j => decide ((jbyt.getD i []).getD j 0 = Int32.ofInt ((((jstr[i]?).getD [])[j]?).getD 0) ∧ -2147483648 ≤ (((jstr[i]?).getD [])[j]?).getD 0 ∧ (((jstr[i]?).getD [])[j]?).getD 0 < 2147483648)) = true := by decide +kernel
theorem jstr_of {i j : Nat} (hi : i < 6) (hj : j < ((jstr[i]?).getD []).length) : jlens.getD i 0 = ((jstr[i]?).getD []).length ∧ (jbyt.getD i []).getD j 0 = Int32.ofInt ((((jstr[i]?).getD [])[j]?).getD 0) ∧ in32 ((((jstr[i]?).getD [])[j]?).getD 0) := by
  have h := List.all_eq_true.mp jstr_len0 i (List.mem_range.mpr hi)
  simp only [Bool.and_eq_true] at h
  have h2 : ((jstr[i]?).getD []).length ≤ 6 := of_decide_eq_true h.1.2
  have h3 := List.all_eq_true.mp h.2 j (List.mem_range.mpr (by omega))
  have h4 := of_decide_eq_true h3
  exact ⟨of_decide_eq_true h.1.1, h4.1, h4.2⟩
theorem ad_bald (hC : jCx p R s mm args meth c D cs ad sio L xs A m) (hd : decode (jmc m) pc = .ok (.baload, 1)) (hs : jldB ls st pc w = some s2)
    (k : jG p l e R s mm args below meth c cells slots Q D cs ad sio L xs A m s2.1 s2.2.1 s2.2.2.1 s2.2.2.2) : jG p l e R s mm args below meth c cells slots Q D cs ad sio L xs A m pc ls st w := by
  obtain ⟨hx, hb, hml, hown, hts, hlk, hrf, hrl, hK, hE, hA, hsc, hL31, hxs⟩ := id hC
  unfold jldB at hs
  split at hs
  · rename_i i o r
    split at hs
    · rename_i kd n hkd
      cases hk : (Nat.beq kd 11 || Nat.beq kd 13) with
      | false => rw [hk] at hs; cases hs
      | true =>
        rw [hk] at hs
        simp only [cond_true] at hs
        split at hs
        · rename_i hin
          cases hs
          intro H locs lsC hR hL hlr hst
          have hi : in32 i := hst _ List.mem_cons_self
          have hvp : vp_in (Int32.ofInt i) n := c_vpin hin.1 hin.2 hi
          by_cases h62 : o < 62
          · obtain ⟨t, ht, e1, e2⟩ := ad_arr hkd h62
            subst e2
            have h11 : t.1 = 11 := by
              rw [e1]
              rw [Bool.or_eq_true] at hk
              rcases hk with q | q
              · exact Nat.eq_of_beq_eq_true q
              · have := Nat.eq_of_beq_eq_true q
                rcases (jsh_ok ht).1 with z | z | z | z <;> omega
            have hget := jws_get (ad := ad) (cs := cs) (w := w) ht
            rw [jcel_z h11] at hget
            rw [List.map_cons, List.map_cons, jref62 h62]
            refine va_zald hx hb hK hR.1 o 1 hget rfl hvp hd ?_
            have k2 := k H locs lsC hR hL hlr (List.forall_mem_cons.mpr ⟨?_, tail_in (tail_in hst)⟩)
            · have e3 : (Int32.ofInt (w o (((Int32.ofInt i).toNatClampNeg : Nat) : Int))) = Int32.ofInt (jel w o i) := by rw [clamp_nat hin.1 hi, jel_lo (by omega)]
              show jWg p l e R s mm args below meth c cells slots Q H locs (pc + 1) lsC (.int (Int32.ofInt (w o (((Int32.ofInt i).toNatClampNeg : Nat) : Int))) :: r.map (jcv ad sio))
              rw [e3]; exact k2
            · have := hR.2.2.2.1 o t ht i
              rw [if_neg (by omega)] at this
              show in32 (jel w o i)
              rw [jel_lo (by omega)]; exact this
          · rcases jkind_hi hkd h62 with ⟨-, rfl, -⟩ | ⟨-, rfl, -⟩ | ⟨-, -, rfl, -⟩ | ⟨g1, g2, -, hn⟩
            · cases hk
            · cases hk
            · cases hk
            · obtain ⟨oi, rfl⟩ : ∃ z, o = 130 + z := ⟨o - 130, by omega⟩
              rw [show 130 + oi - 130 = oi by omega] at hn
              rw [hn] at hvp hin
              obtain ⟨iN, rfl⟩ : ∃ z : Nat, i = z := ⟨i.toNat, by omega⟩
              obtain ⟨f1, f2, f3⟩ := jstr_of (i := oi) (j := iN) (by omega) (by omega)
              obtain ⟨-, -, -, -, -, hS6, -⟩ := hE
              obtain ⟨-, -, -, hT⟩ := hS6.1 oi (by omega)
              rw [f1] at hT
              have hje : jel w (130 + oi) iN = (((jstr[oi]?).getD [])[iN]?).getD 0 := by
                unfold jel
                rw [nbeq_ne (by omega), show Nat.blt (130 + oi) 130 = false from by
                  cases hq : Nat.blt (130 + oi) 130
                  · rfl
                  · exact absurd (Nat.le_of_ble_eq_true hq) (by omega)]
                simp only [cond_false]
                rw [show 130 + oi - 130 = oi by omega]; rfl
              rw [List.map_cons, List.map_cons, jrefk (by omega)]
              refine va_tb hx hb hT hR.2.2.1 hvp rfl hd ?_
              have k2 := k H locs lsC hR hL hlr (List.forall_mem_cons.mpr ⟨?_, tail_in (tail_in hst)⟩)
              · have e3 : (jbyt.getD oi []).getD (Int32.ofInt (iN : Int)).toNatClampNeg 0 = Int32.ofInt (jel w (130 + oi) iN) := by
                  rw [c_clamp (by omega) hi, hje]; exact f2
                rw [e3]; exact k2
              · show in32 (jel w (130 + oi) iN)
                rw [hje]; exact f3
        · cases hs
    · cases hs
  · cases hs
theorem ad_lald (hC : jCx p R s mm args meth c D cs ad sio L xs A m) (hd : decode (jmc m) pc = .ok (.laload, 1)) (hs : jld 12 ls st pc w = some s2)
    (k : jG p l e R s mm args below meth c cells slots Q D cs ad sio L xs A m s2.1 s2.2.1 s2.2.2.1 s2.2.2.2) : jG p l e R s mm args below meth c cells slots Q D cs ad sio L xs A m pc ls st w := by
  obtain ⟨hx, hb, hml, hown, hts, hlk, hrf, hrl, hK, hE, hA, hsc, hL31, hxs⟩ := id hC
  unfold jld at hs
  split at hs
  · rename_i i o r
    split at hs
    · rename_i kd n hkd
      cases hk : Nat.beq kd 12 with
      | false => rw [hk] at hs; cases hs
      | true =>
        rw [hk] at hs
        cases Nat.eq_of_beq_eq_true hk
        simp only [cond_true] at hs
        split at hs
        · rename_i hin
          cases hs
          intro H locs lsC hR hL hlr hst
          have hi : in32 i := hst _ List.mem_cons_self
          have hvp : vp_in (Int32.ofInt i) n := c_vpin hin.1 hin.2 hi
          by_cases h62 : o < 62
          · obtain ⟨t, ht, e1, e2⟩ := ad_arr hkd h62
            subst e2
            have hget := jws_get (ad := ad) (cs := cs) (w := w) ht
            rw [jcel_l e1] at hget
            rw [List.map_cons, List.map_cons, jref62 h62]
            refine va_lald hx hb hK hR.1 o 2 hget rfl hvp hd ?_
            have k2 := k H locs lsC hR hL hlr (List.forall_mem_cons.mpr ⟨?_, tail_in (tail_in hst)⟩)
            · have e3 : (Int64.ofInt (w o (((Int32.ofInt i).toNatClampNeg : Nat) : Int))) = Int64.ofInt (jel w o i) := by rw [clamp_nat hin.1 hi, jel_lo (by omega)]
              show jWg p l e R s mm args below meth c cells slots Q H locs (pc + 1) lsC (.long (Int64.ofInt (w o (((Int32.ofInt i).toNatClampNeg : Nat) : Int))) :: r.map (jcv ad sio))
              rw [e3]; exact k2
            · have := hR.2.2.2.1 o t ht i
              rw [if_pos e1] at this
              show in64 (jel w o i)
              rw [jel_lo (by omega)]; exact this
          · rcases jkind_hi hkd h62 with ⟨-, q, -⟩ | ⟨-, q, -⟩ | ⟨-, -, q, -⟩ | ⟨-, -, q, -⟩ <;> cases q
        · cases hs
    · cases hs
  · cases hs
theorem ad_iast (hC : jCx p R s mm args meth c D cs ad sio L xs A m) (hd : decode (jmc m) pc = .ok (.iastore, 1)) (hs : jst 10 ls st pc w = some s2)
    (k : jG p l e R s mm args below meth c cells slots Q D cs ad sio L xs A m s2.1 s2.2.1 s2.2.2.1 s2.2.2.2) : jG p l e R s mm args below meth c cells slots Q D cs ad sio L xs A m pc ls st w := by
  obtain ⟨hx, hb, hml, hown, hts, hlk, hrf, hrl, hK, hE, hA, hsc, hL31, hxs⟩ := id hC
  unfold jst at hs
  split at hs
  · rename_i x i o r
    cases h62b : Nat.blt o 62 with
    | false => rw [h62b] at hs; cases hs
    | true =>
      rw [h62b] at hs
      have h62 : o < 62 := Nat.le_of_ble_eq_true h62b
      simp only [cond_true] at hs
      split at hs
      · rename_i kd n hkd
        cases hk : Nat.beq kd 10 with
        | false => rw [hk] at hs; cases hs
        | true =>
          rw [hk] at hs
          cases Nat.eq_of_beq_eq_true hk
          simp only [cond_true] at hs
          split at hs
          · rename_i hin
            rw [if_pos (fun q => by cases q)] at hs
            cases hs
            intro H locs lsC hR hL hlr hst
            have hxr : in32 x := hst _ List.mem_cons_self
            have hi : in32 i := hst _ (List.mem_cons_of_mem _ List.mem_cons_self)
            have hvp : vp_in (Int32.ofInt i) n := c_vpin hin.1 hin.2 hi
            obtain ⟨t, ht, e1, e2⟩ := ad_arr hkd h62
            subst e2
            have hget := jws_get (ad := ad) (cs := cs) (w := w) ht
            rw [jcel_i e1] at hget
            rw [List.map_cons, List.map_cons, List.map_cons, jref62 h62]
            refine va_iast hx hb hK hR.1 hR.2.1 hR.2.2.1 o 0 hget rfl hvp hd (fun H1 locs1 hP1 hD1 hS1 => ?_)
            refine k H1 locs1 lsC (hR.put ht ?_ (fun q hq => jup_ne hq) (jWR_up hR.2.2.2.1 (fun t' ht' => ?_)) hP1 hS1) hL hlr (tail_in (tail_in (tail_in hst)))
            · rw [jcel_i e1, jup_arr hin.1, c_clamp hin.1 hi]
            · rw [ht] at ht'; cases ht'; rw [if_neg (by omega)]; exact hxr
          · cases hs
      · cases hs
  · cases hs
theorem ad_bast (hC : jCx p R s mm args meth c D cs ad sio L xs A m) (hd : decode (jmc m) pc = .ok (.bastore, 1)) (hs : jst 11 ls st pc w = some s2)
    (k : jG p l e R s mm args below meth c cells slots Q D cs ad sio L xs A m s2.1 s2.2.1 s2.2.2.1 s2.2.2.2) : jG p l e R s mm args below meth c cells slots Q D cs ad sio L xs A m pc ls st w := by
  obtain ⟨hx, hb, hml, hown, hts, hlk, hrf, hrl, hK, hE, hA, hsc, hL31, hxs⟩ := id hC
  unfold jst at hs
  split at hs
  · rename_i x i o r
    cases h62b : Nat.blt o 62 with
    | false => rw [h62b] at hs; cases hs
    | true =>
      rw [h62b] at hs
      have h62 : o < 62 := Nat.le_of_ble_eq_true h62b
      simp only [cond_true] at hs
      split at hs
      · rename_i kd n hkd
        cases hk : Nat.beq kd 11 with
        | false => rw [hk] at hs; cases hs
        | true =>
          rw [hk] at hs
          cases Nat.eq_of_beq_eq_true hk
          simp only [cond_true] at hs
          split at hs
          · rename_i hin
            split at hs
            · rename_i h01
              have h01 := h01 trivial
              cases hs
              intro H locs lsC hR hL hlr hst
              have hxr : in32 x := hst _ List.mem_cons_self
              have hi : in32 i := hst _ (List.mem_cons_of_mem _ List.mem_cons_self)
              have hvp : vp_in (Int32.ofInt i) n := c_vpin hin.1 hin.2 hi
              obtain ⟨t, ht, e1, e2⟩ := ad_arr hkd h62
              subst e2
              have hget := jws_get (ad := ad) (cs := cs) (w := w) ht
              rw [jcel_z e1] at hget
              rw [List.map_cons, List.map_cons, List.map_cons, jref62 h62]
              refine va_zast hx hb hK hR.1 hR.2.1 hR.2.2.1 o 1 hget rfl hvp hd (fun H1 locs1 hP1 hD1 hS1 => ?_)
              refine k H1 locs1 lsC (hR.put ht ?_ (fun q hq => jup_ne hq) (jWR_up hR.2.2.2.1 (fun t' ht' => ?_)) hP1 hS1) hL hlr (tail_in (tail_in (tail_in hst)))
              · rw [jcel_z e1, jup_arr hin.1, c_clamp hin.1 hi, show vp_nar .boolean (Int32.ofInt x) = Int32.ofInt x from by rcases h01 with rfl | rfl <;> rfl]
              · rw [ht] at ht'; cases ht'; rw [if_neg (by omega)]; exact hxr
            · cases hs
          · cases hs
      · cases hs
  · cases hs
theorem ad_last (hC : jCx p R s mm args meth c D cs ad sio L xs A m) (hd : decode (jmc m) pc = .ok (.lastore, 1)) (hs : jstL ls st pc w = some s2)
    (k : jG p l e R s mm args below meth c cells slots Q D cs ad sio L xs A m s2.1 s2.2.1 s2.2.2.1 s2.2.2.2) : jG p l e R s mm args below meth c cells slots Q D cs ad sio L xs A m pc ls st w := by
  obtain ⟨hx, hb, hml, hown, hts, hlk, hrf, hrl, hK, hE, hA, hsc, hL31, hxs⟩ := id hC
  unfold jstL at hs
  split at hs
  · rename_i x i o r
    cases h62b : Nat.blt o 62 with
    | false => rw [h62b] at hs; cases hs
    | true =>
      rw [h62b] at hs
      have h62 : o < 62 := Nat.le_of_ble_eq_true h62b
      simp only [cond_true] at hs
      split at hs
      · rename_i kd n hkd
        cases hk : Nat.beq kd 12 with
        | false => rw [hk] at hs; cases hs
        | true =>
          rw [hk] at hs
          cases Nat.eq_of_beq_eq_true hk
          simp only [cond_true] at hs
          split at hs
          · rename_i hin
            cases hs
            intro H locs lsC hR hL hlr hst
            have hxr : in64 x := hst _ List.mem_cons_self
            have hi : in32 i := hst _ (List.mem_cons_of_mem _ List.mem_cons_self)
            have hvp : vp_in (Int32.ofInt i) n := c_vpin hin.1 hin.2 hi
            obtain ⟨t, ht, e1, e2⟩ := ad_arr hkd h62
            subst e2
            have hget := jws_get (ad := ad) (cs := cs) (w := w) ht
            rw [jcel_l e1] at hget
            rw [List.map_cons, List.map_cons, List.map_cons, jref62 h62]
            refine va_last hx hb hK hR.1 hR.2.1 hR.2.2.1 o 2 hget rfl hvp hd (fun H1 locs1 hP1 hD1 hS1 => ?_)
            refine k H1 locs1 lsC (hR.put ht ?_ (fun q hq => jup_ne hq) (jWR_up hR.2.2.2.1 (fun t' ht' => ?_)) hP1 hS1) hL hlr (tail_in (tail_in (tail_in hst)))
            · rw [jcel_l e1, jup_arrL hin.1, c_clamp hin.1 hi]
            · rw [ht] at ht'; cases ht'; rw [if_pos e1]; exact hxr
          · cases hs
      · cases hs
  · cases hs
theorem ad_alen (hC : jCx p R s mm args meth c D cs ad sio L xs A m) (hd : decode (jmc m) pc = .ok (.arraylength, 1)) (hs : jstp .arraylength a b v pc ls st w = some s2)
    (k : jG p l e R s mm args below meth c cells slots Q D cs ad sio L xs A m s2.1 s2.2.1 s2.2.2.1 s2.2.2.2) : jG p l e R s mm args below meth c cells slots Q D cs ad sio L xs A m pc ls st w := by
  obtain ⟨hx, hb, hml, hown, hts, hlk, hrf, hrl, hK, hE, hA, hsc, hL31, hxs⟩ := id hC
  simp only [jstp] at hs
  split at hs
  · rename_i o r
    split at hs
    · rename_i kd n hkd
      cases hk : (Nat.ble 10 kd && !Nat.beq kd 20) with
      | false => rw [hk] at hs; cases hs
      | true =>
        rw [hk] at hs
        simp only [cond_true] at hs
        cases hs
        simp only [Bool.and_eq_true, Bool.not_eq_true'] at hk
        have hk10 : 10 ≤ kd := Nat.le_of_ble_eq_true hk.1
        intro H locs lsC hR hL hlr hst
        have fin : ∀ N : Nat, N < 2147483648 → N = n → jWg p l e R s mm args below meth c cells slots Q H locs (pc + 1) lsC (.int (Int32.ofNat N) :: r.map (jcv ad sio)) := by
          rintro N hN rfl
          exact k H locs lsC hR hL hlr (List.forall_mem_cons.mpr ⟨by show in32 (N : Int); unfold in32; omega, tail_in hst⟩)
        by_cases h62 : o < 62
        · obtain ⟨t, ht, e1, e2⟩ := ad_arr hkd h62
          have hget := jws_get (ad := ad) (cs := cs) (w := w) ht
          have h490 := (jsh_ok ht).2
          rw [List.map_cons, jref62 h62]
          rcases (jsh_ok ht).1 with z | z | z | z
          · rw [jcel_i z] at hget
            exact va_alen hx hb hK hR.1 o 0 hget rfl rfl hd (fin _ (by dsimp only; omega) e2)
          · rw [jcel_z z] at hget
            exact va_alen hx hb hK hR.1 o 1 hget rfl rfl hd (fin _ (by dsimp only; omega) e2)
          · rw [jcel_l z] at hget
            exact va_alen hx hb hK hR.1 o 2 hget rfl rfl hd (fin _ (by dsimp only; omega) e2)
          · omega
        · rcases jkind_hi hkd h62 with ⟨rfl, -, rfl⟩ | ⟨rfl, -, rfl⟩ | ⟨-, -, rfl, -⟩ | ⟨g1, g2, -, hn⟩
          · have hLn : L = (w 98 0).toNat := by rw [hR.2.2.2.2.1]; rfl
            rw [List.map_cons, jrefk (by decide)]
            exact va_tlen hx hb hE.1 hR.2.2.1 rfl hd (fin _ hL31 hLn)
          · rw [List.map_cons, jrefk (by decide)]
            exact va_tlen hx hb hE.2.2.1 hR.2.2.1 rfl hd (fin _ (by omega) rfl)
          · exact absurd hk.2 (by decide)
          · obtain ⟨oi, rfl⟩ : ∃ z, o = 130 + z := ⟨o - 130, by omega⟩
            obtain ⟨-, -, -, -, -, hS6, -⟩ := hE
            obtain ⟨-, -, -, hT⟩ := hS6.1 oi (by omega)
            have h := List.all_eq_true.mp jstr_len0 oi (List.mem_range.mpr (by omega))
            simp only [Bool.and_eq_true] at h
            have h1 : jlens.getD oi 0 = ((jstr[oi]?).getD []).length := of_decide_eq_true h.1.1
            have h2 : ((jstr[oi]?).getD []).length ≤ 6 := of_decide_eq_true h.1.2
            rw [List.map_cons, jrefk (by omega)]
            exact va_tlen hx hb hT hR.2.2.1 rfl hd (fin _ (by omega) (by rw [hn, show 130 + oi - 130 = oi by omega]; exact h1))
    · cases hs
  · cases hs
end AQ
