section AP
variable {p : Program} {l : Launch} {e : Env} {R : Room} {s : State} {mm : MethodId} {args : Array Value} {below : List Frame} {meth : Method} {c : Code} {cells slots : Nat} {Q : State → Prop}
variable {D : va_G} {cs : ClassId × ClassId × ClassId} {ad : Nat → Nat} {sio : Value} {L : Nat} {xs : Nat → Int} {A : Nat → Prop} {m : Nat}
variable {pc a b : Nat} {v : Int} {ls st : List jV} {w : jW} {s2 : jS}
theorem tail_in {P : jV → Prop} {x : jV} {r : List jV} (h : ∀ u ∈ x :: r, P u) : ∀ u ∈ r, P u := fun u hu => h u (List.mem_cons_of_mem _ hu)
theorem ad_putf {idx : Nat} (hC : jCx p R s mm args meth c D cs ad sio L xs A m) (hd : decode (jmc m) pc = .ok (.putfield idx, 3)) (hl : jlnk m (pc, .putfield idx, a, b, v) = true) (hs : jstp (.putfield idx) a b v pc ls st w = some s2)
    (k : jG p l e R s mm args below meth c cells slots Q D cs ad sio L xs A m s2.1 s2.2.1 s2.2.2.1 s2.2.2.2) : jG p l e R s mm args below meth c cells slots Q D cs ad sio L xs A m pc ls st w := by
  obtain ⟨hx, hb, hml, hown, hts, hlk, hrf, hrl, hK, hE, hA, hsc, hL31, hxs⟩ := id hC
  have hl : (jpF.any (fun t => Nat.beq t.1 (jm m).1 && Nat.beq t.2.1 idx && Nat.beq t.2.2.2.1 a && Nat.beq t.2.2.2.2 b) && Nat.blt a 8 && !(jTT a b).2.2.2) = true := hl
  simp only [Bool.and_eq_true, Bool.not_eq_true'] at hl
  obtain ⟨⟨hl1, hl2⟩, hfin⟩ := hl
  have h8 : a < 8 := Nat.le_of_ble_eq_true hl2
  have hword := jpF_word hl1
  simp only [jstp] at hs
  split at hs
  · rename_i x o r
    cases hfit : jfit o a b x with
    | false => rw [hfit] at hs; cases hs
    | true =>
      rw [hfit] at hs
      cases hs
      unfold jfit at hfit
      cases ho : Nat.blt o 62 with
      | false => rw [ho] at hfit; cases hfit
      | true =>
        rw [ho] at hfit
        simp only [cond_true] at hfit
        split at hfit
        · rename_i ci len fs hsh
          cases hci : Nat.beq ci a with
          | false => rw [hci] at hfit; cases hfit
          | true =>
            rw [hci] at hfit
            cases Nat.eq_of_beq_eq_true hci
            simp only [cond_true] at hfit
            obtain ⟨hlen, htys⟩ : fs.length = jNN a ∧ ∀ k, (fs[k]? = some 0 → jTy a k = .int) ∧ (fs[k]? = some 1 → jTy a k = .boolean) := by
              rcases (jsh_ok hsh).1 with q | q | q | q
              · dsimp only at q; omega
              · dsimp only at q; omega
              · dsimp only at q; omega
              · exact q.2
            obtain ⟨f, hf, h01, hxf⟩ : ∃ f, fs[b]? = some f ∧ (f = 0 ∨ f = 1) ∧ (f = 1 → x = 0 ∨ x = 1) := by
              split at hfit
              · rename_i hf; exact ⟨0, hf, Or.inl rfl, fun q => by cases q⟩
              · rename_i hf; exact ⟨1, hf, Or.inr rfl, fun _ => of_decide_eq_true hfit⟩
              · cases hfit
            have hblt : b < fs.length := (List.getElem?_eq_some_iff.mp hf).1
            intro H locs lsC hR hL hlr hst
            have hxr : in32 x := hst _ List.mem_cons_self
            have hget := jws_get (ad := ad) (cs := cs) (w := w) hsh
            rw [jcel_obj h8] at hget
            have hlink : (Cond.fieldLink (jown (jm m).1) idx (jTT a b).1 (jTT a b).2.1 (jTT a b).2.2.1).before args s = true := by
              have := hts _ hword
              unfold jfc at this
              rw [nbeq_ne (by omega : a ≠ 20)] at this
              exact this
            have hty := jcl_ty h8 b (by rw [← hlen]; exact hblt)
            rw [List.map_cons, List.map_cons, jref62 (jlt62 hsh)]
            refine va_put (D := D) (ci := a) (v := .int (Int32.ofInt x)) (ty := jTy a b) (C := jRR a) (T := jTT a) (N := jNN a) hx hb hts (jcl_ws h8) (jTy a) (jcl_ty h8) (jcl_nm h8) hown hK hR.1 hR.2.1 hR.2.2.1 o hget (jcl_cl h8) b (by rw [← hlen]; exact hblt) hlink (fun _ h9 => h9) hfin hty ?_ ?_ (by rw [List.length_mapIdx]; exact hblt) hd (fun H1 locs1 hP1 hD1 hS1 => ?_)
            · rcases h01 with rfl | rfl
              · rw [(htys b).1 hf]; rfl
              · rw [(htys b).2 hf]; rcases hxf rfl with rfl | rfl <;> rfl
            · rcases h01 with rfl | rfl
              · rw [(htys b).1 hf]; rfl
              · rw [(htys b).2 hf]; rcases hxf rfl with rfl | rfl <;> rfl
            · refine k H1 locs1 lsC (hR.put hsh ?_ (fun q hq => jup_ne hq) (jWR_up hR.2.2.2.1 (fun t ht => ?_)) hP1 hS1) hL hlr (tail_in (tail_in hst))
              · rw [jcel_obj h8]
                exact congrArg (fun l => Sum.inr (a, l)) (jup_obj hf h01)
              · rw [hsh] at ht; cases ht; rw [if_neg (show ¬ a = 12 by omega)]; exact hxr
        · cases hfit
  · cases hs
theorem ad_arr {o kd n : Nat} (h : jkind w o = some (kd, n)) (h62 : o < 62) : ∃ t, jsh[o]? = some t ∧ t.1 = kd ∧ t.2.1 = n := by
  unfold jkind at h
  rw [show Nat.blt o 62 = true from Nat.ble_eq_true_of_le h62] at h
  simp only [cond_true] at h
  split at h
  · rename_i t ht
    cases h
    exact ⟨t, ht, rfl, rfl⟩
  · cases h
theorem jkind_hi {o kd n : Nat} (h : jkind w o = some (kd, n)) (h62 : ¬ o < 62) : (o = 100 ∧ kd = 10 ∧ n = (w 98 0).toNat) ∨ (o = 101 ∧ kd = 10 ∧ n = 5) ∨ (110 ≤ o ∧ o < 116 ∧ kd = 20 ∧ n = 0) ∨ (130 ≤ o ∧ o < 136 ∧ kd = 13 ∧ n = ((jstr[o - 130]?).getD []).length) := by
  unfold jkind at h
  have hb : ∀ {x y : Nat}, ¬ x < y → Nat.blt x y = false := fun {x y} q => by
    cases hq : Nat.blt x y
    · rfl
    · exact absurd (Nat.le_of_ble_eq_true hq) q
  have ht : ∀ {x y : Nat}, x < y → Nat.blt x y = true := fun q => Nat.ble_eq_true_of_le q
  rw [hb h62] at h
  simp only [cond_false] at h
  by_cases h1 : o = 100
  · subst h1; cases h; exact Or.inl ⟨rfl, rfl, rfl⟩
  · rw [nbeq_ne h1] at h
    simp only [cond_false] at h
    by_cases h2 : o = 101
    · subst h2; cases h; exact Or.inr (Or.inl ⟨rfl, rfl, rfl⟩)
    · rw [nbeq_ne h2] at h
      simp only [cond_false] at h
      by_cases h3 : o < 110
      · rw [ht h3] at h; cases h
      · rw [hb h3] at h
        simp only [cond_false] at h
        by_cases h4 : o < 116
        · rw [ht h4] at h; cases h; exact Or.inr (Or.inr (Or.inl ⟨by omega, h4, rfl, rfl⟩))
        · rw [hb h4] at h
          simp only [cond_false] at h
          by_cases h5 : o < 130
          · rw [ht h5] at h; cases h
          · rw [hb h5] at h
            simp only [cond_false] at h
            by_cases h6 : o < 136
            · rw [ht h6] at h; cases h; exact Or.inr (Or.inr (Or.inr ⟨by omega, h6, rfl, rfl⟩))
            · rw [hb h6] at h; cases h
theorem jel_lo {o : Nat} {k : Int} (h : o < 101) : jel w o k = w o k := by
  unfold jel; rw [nbeq_ne (by omega), show Nat.blt o 130 = true from Nat.ble_eq_true_of_le (by omega)]; rfl
theorem clamp_nat {i : Int} (h0 : 0 ≤ i) (h : in32 i) : (((Int32.ofInt i).toNatClampNeg : Nat) : Int) = i := by rw [c_clamp h0 h]; omega
theorem ad_iald (hC : jCx p R s mm args meth c D cs ad sio L xs A m) (hd : decode (jmc m) pc = .ok (.iaload, 1)) (hs : jld 10 ls st pc w = some s2)
    (k : jG p l e R s mm args below meth c cells slots Q D cs ad sio L xs A m s2.1 s2.2.1 s2.2.2.1 s2.2.2.2) : jG p l e R s mm args below meth c cells slots Q D cs ad sio L xs A m pc ls st w := by
  obtain ⟨hx, hb, hml, hown, hts, hlk, hrf, hrl, hK, hE, hA, hsc, hL31, hxs⟩ := id hC
  unfold jld at hs
  split at hs
  · rename_i i o r
    split at hs
    · rename_i kd n hkd
      cases hk10 : Nat.beq kd 10 with
      | false => rw [hk10] at hs; cases hs
      | true =>
        rw [hk10] at hs
        cases Nat.eq_of_beq_eq_true hk10
        simp only [cond_true] at hs
        split at hs
        · rename_i hin
          cases hs
          intro H locs lsC hR hL hlr hst
          have hi : in32 i := hst _ List.mem_cons_self
          have hvp : vp_in (Int32.ofInt i) n := c_vpin hin.1 hin.2 hi
          by_cases h62 : o < 62
          · obtain ⟨t, ht, e1, e2⟩ := ad_arr hkd h62
            subst e2
            have hget := jws_get (ad := ad) (cs := cs) (w := w) ht
            rw [jcel_i e1] at hget
            rw [List.map_cons, List.map_cons, jref62 h62]
            refine va_iald hx hb hK hR.1 o 0 hget rfl hvp hd ?_
            have k2 := k H locs lsC hR hL hlr (List.forall_mem_cons.mpr ⟨?_, tail_in (tail_in hst)⟩)
            · have e3 : (Int32.ofInt (w o (((Int32.ofInt i).toNatClampNeg : Nat) : Int))) = Int32.ofInt (jel w o i) := by rw [clamp_nat hin.1 hi, jel_lo (by omega)]
              show jWg p l e R s mm args below meth c cells slots Q H locs (pc + 1) lsC (.int (Int32.ofInt (w o (((Int32.ofInt i).toNatClampNeg : Nat) : Int))) :: r.map (jcv ad sio))
              rw [e3]; exact k2
            · have := hR.2.2.2.1 o t ht i
              rw [if_neg (by omega)] at this
              show in32 (jel w o i)
              rw [jel_lo (by omega)]; exact this
          · rcases jkind_hi hkd h62 with ⟨rfl, -, rfl⟩ | ⟨rfl, -, rfl⟩ | ⟨-, -, q, -⟩ | ⟨-, -, q, -⟩
            · have hLn : (w 98 0).toNat = L := by rw [hR.2.2.2.2.1]; rfl
              rw [hLn] at hvp hin
              obtain ⟨iN, rfl⟩ : ∃ z : Nat, i = z := ⟨i.toNat, by omega⟩
              have hiL : iN < L := by omega
              rw [List.map_cons, List.map_cons, jrefk (by decide)]
              refine va_ti hx hb hE.1 hR.2.2.1 hvp rfl hd ?_
              have k2 := k H locs lsC hR hL hlr (List.forall_mem_cons.mpr ⟨?_, tail_in (tail_in hst)⟩)
              · have e3 : Int32.ofInt (xs (Int32.ofInt (iN : Int)).toNatClampNeg) = Int32.ofInt (jel w 100 iN) := by
                  rw [c_clamp (by omega) hi, jel_lo (by omega), hR.2.2.2.2.2 iN hiL]; rfl
                rw [e3]; exact k2
              · show in32 (jel w 100 iN)
                rw [jel_lo (by omega), hR.2.2.2.2.2 iN hiL]; exact hxs iN hiL
            · rw [List.map_cons, List.map_cons, jrefk (by decide)]
              refine va_ti hx hb hE.2.2.1 hR.2.2.1 hvp rfl hd ?_
              have k2 := k H locs lsC hR hL hlr (List.forall_mem_cons.mpr ⟨c_cmd i, tail_in (tail_in hst)⟩)
              have e3 : Int32.ofInt (jcmd (((Int32.ofInt i).toNatClampNeg : Nat) : Int)) = Int32.ofInt (jel w 101 i) := by rw [clamp_nat hin.1 hi]; rfl
              rw [e3]; exact k2
            · cases q
            · cases q
        · cases hs
    · cases hs
  · cases hs
end AP
