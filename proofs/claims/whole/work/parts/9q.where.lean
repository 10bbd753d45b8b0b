/-! where -/
noncomputable def fpI (w : jW) (s n k : Int) : Int := @ite _ (∃ c, dryB (w 1 0) (w 2) c ∧ rk w c = k ∧ Ft w s n (-1) c) (Classical.propDecidable _) 1 0
theorem sm_mono {f : Int → Int} (h : ∀ i, 0 ≤ f i) (a k : Nat) : sm f a ≤ sm f (a + k) := by
  induction k with
  | zero => exact Int.le_refl _
  | succ k ih =>
    have := h ((a + k : Nat) : Int)
    rw [show a + (k + 1) = a + k + 1 by omega, sm_s]
    omega
theorem sm_sur {f : Int → Int} (h : ∀ i, f i = 0 ∨ f i = 1) (m : Nat) : ∀ i, 0 ≤ i → i < sm f m → ∃ k : Nat, k < m ∧ f (k : Int) = 1 ∧ sm f k = i := by
  induction m with
  | zero => intro i a b; have : sm f 0 = 0 := rfl; omega
  | succ m ih =>
    intro i a b
    rw [sm_s] at b
    by_cases z : i < sm f m
    · obtain ⟨k, k1, k2, k3⟩ := ih i a z
      exact ⟨k, by omega, k2, k3⟩
    · have := h (m : Int)
      exact ⟨m, by omega, by omega, by omega⟩
/-- sums over what is chosen -/
theorem sm_sel {f b h : Int → Int} (hb : ∀ i, b i = 0 ∨ b i = 1) (m : Nat) (hd : ∀ k, 0 ≤ k → k < (m : Int) → b k = 1 → f k = h (sm b k.toNat)) (hw : ∀ k, 0 ≤ k → k < (m : Int) → b k = 0 → f k = 0) : sm f m = sm h (sm b m).toNat := by
  induction m with
  | zero => rfl
  | succ m ih =>
    have i := ih (fun k a c => hd k a (by omega)) (fun k a c => hw k a (by omega))
    have nn : 0 ≤ sm b m := by
      have := sm_mono (f := b) (fun i => by have := hb i; omega) 0 m
      rw [show 0 + m = m by omega] at this
      have z : sm b 0 = 0 := rfl
      omega
    rw [sm_s, sm_s, i]
    rcases hb (m : Int) with z | z
    · rw [z, hw m (by omega) (by omega) z, Int.add_zero, Int.add_zero]
    · rw [z, hd m (by omega) (by omega) z, show ((m : Int)).toNat = m by omega, show (sm b m + 1).toNat = (sm b m).toNat + 1 by omega, sm_s, show (((sm b m).toNat : Nat) : Int) = sm b m by omega]
section QA
variable {w v u : jW} {Q : jV → jW → Prop} {K s n c x : Int}
theorem fpI_y {k : Int} (h : ∃ c, dryB (w 1 0) (w 2) c ∧ rk w c = k ∧ Ft w s n (-1) c) : fpI w s n k = 1 := by unfold fpI; exact if_pos h
theorem fpI_n {k : Int} (h : ¬ ∃ c, dryB (w 1 0) (w 2) c ∧ rk w c = k ∧ Ft w s n (-1) c) : fpI w s n k = 0 := by unfold fpI; exact if_neg h
theorem fpI_01 {k : Int} : fpI w s n k = 0 ∨ fpI w s n k = 1 := by
  by_cases h : ∃ c, dryB (w 1 0) (w 2) c ∧ rk w c = k ∧ Ft w s n (-1) c
  · exact Or.inr (fpI_y h)
  · exact Or.inl (fpI_n h)
theorem fpI_rk (hc : dryB (w 1 0) (w 2) c) : ftI w s n (-1) c = fpI w s n (rk w c) := by
  by_cases z : Ft w s n (-1) c
  · rw [ftI_y ⟨hc, z⟩, fpI_y ⟨c, hc, rfl, z⟩]
  · rw [ftI_n (fun t => z t.2), fpI_n (fun ⟨d, d1, d2, d3⟩ => z (by rw [← rk_inj d1 hc d2]; exact d3))]
theorem sm_fp (m : Nat) : sm (ftI w s n (-1)) m = sm (fpI w s n) (rk w (m : Int)).toNat :=
  sm_rk (v := w) (fun c _ hc => fpI_rk hc) (fun c _ hc => ftI_n (fun t => hc t.1)) m
theorem sm_fpI (m : Nat) : 0 ≤ sm (fpI w s n) m ∧ sm (fpI w s n) m ≤ m := by
  have := sm_in (f := fpI w s n) (lo := 0) (hi := 1) m (fun i _ _ => by have := fpI_01 (w := w) (s := s) (n := n) (k := i); omega)
  omega
theorem SV.wr {o : Nat} {f : Int → Int} (S : SV w u) (ho : 33 ≤ o ∧ o ≤ 44 ∧ o ≠ 41) : SV w (jwr u o f) :=
  ⟨S.1.t (SX.w (by omega)), by rw [jwr_n (by omega)]; exact S.2.1, by rw [jwr_n (by omega)]; exact S.2.2.1, fun c hc => by rw [jwr_n (by omega)]; exact S.2.2.2.1 c hc, fun p c a b e => by rw [jwr_n (by omega)]; exact S.2.2.2.2 p c a b e⟩
theorem SMo.rM {a : Int} {w u : jW} (h : SMo w u) : SMo (rM w a) (_root_.Jvm.Pilot.CPointAtWhoIsLostLaw_law_r2185_f8d3f4.rM u a) := by
  refine ⟨fun o q => ?_, fun f hf => ?_⟩
  · by_cases z : o = 56
    · unfold _root_.Jvm.Pilot.CPointAtWhoIsLostLaw_law_r2185_f8d3f4.rM
      rw [z, jups, jups, h.1 56 (by omega)]
    · rw [rM_n z, rM_n z]; exact h.1 o q
  · rw [rM_n (by omega), rM_n (by omega)]; exact h.2 f hf
theorem INV.smo {u2 : jW} (h : INV K u) (s : SMo u u2) : INV K u2 := by
  have O : ∀ o, o < 28 ∨ o = 41 → u2 o = u o := fun o q => s.1 o (by omega)
  refine ⟨h.1.cg O, h.2.1.cg (fun o q => s.1 o (by omega)) s.2 O, ?_⟩
  have L := h.2.2
  unfold LK at L ⊢
  rw [s.1 30 (by omega), s.1 37 (by omega)]
  exact L
theorem INV.refq {a : Int} {u2 : jW} (h : INV K w) (S : SX w u) (L : LK K u) (s : SMo (rX u a) u2) (h1 : -6 ≤ a) (h2 : a ≤ -2) : Fin K w (jI a) (jI a) (rM u2 a) := by
  have X := (h.q S (L.to (by omega)) SMo.r rfl : Fin K w (jI a) (jI a) u).2.1
  have I : INV K u := ⟨X.1, X.2.1, L⟩
  have F := I.ref h1 h2
  refine ⟨rfl, F.2.1.smo s.rM, fun o q => ?_⟩
  rw [s.rM.1 o (by omega), rM_n (by omega), rX_n (by omega)]
  exact S o (by omega)
theorem sX_ff20 (h : OKC w) (S : SV w u) (P : PrOk w s n) (hQ : ∀ f, (∀ k : Nat, (k : Int) < rk w 67 → fpI w s n k = 1 → f (sm (fpI w s n) k) = (k : Int)) → Q (jI (NF w s n (-1))) (jwr u 42 f)) (m : Nat) :
    ∀ (k : Nat) (f : Int → Int), (rk w 67 - k).toNat = m → (k : Int) ≤ rk w 67 → (∀ j : Nat, j < k → fpI w s n j = 1 → f (sm (fpI w s n) j) = (j : Int)) → AW mX_findFitting 20 [jR 0, jI s, jI n, jI (sm (fpI w s n) k), jI k] [] (jwr u 42 f) Q := by
  have hw : 3 ≤ w 1 0 ∧ w 1 0 ≤ 7 := h.1.1
  have r67 := rk_67 (v := w) hw.2
  induction m with
  | zero =>
    intro k f hm hk H
    have e : sm (fpI w s n) k = NF w s n (-1) := by
      have := sm_fp (w := w) (s := s) (n := n) 67
      rw [show (rk w ((67 : Nat) : Int)).toNat = k by have : rk w ((67 : Nat) : Int) = rk w 67 := rfl; omega] at this
      exact this.symm
    rw [bX_findFitting_20, jwr_n (by omega), S.2.1, if_neg (by omega), e]
    exact hQ f (fun j a b => H j (by omega) b)
  | succ m ih =>
    intro k f hm hk H
    obtain ⟨c, _, c2, c3⟩ := rk_sur (v := w) hw.2 67 k (by omega) (by
      have : rk w ((67 : Nat) : Int) = rk w 67 := rfl
      omega)
    have sp := ms_all (v := w) (s := s) (c := c) (n := n) P.2.1.1
    have si := sm_fpI (w := w) (s := s) (n := n) k
    have fk := fpI_rk (s := s) (n := n) c2
    rw [c3] at fk
    have M := fun Q => sX_missAt (Q := Q) h (S.wr (o := 42) (f := f) (by omega)) P c2
    rw [c3] at M
    rw [bX_findFitting_20, jwr_n (by omega), S.2.1, if_pos (by omega), M, bX_findFitting_40, n32s (x := (k : Int) + 1) (by omega) (by omega), n32s (x := sm (fpI w s n) k + 1) (by omega) (by omega)]
    have i := fun f => ih (k + 1) f (by omega) (by omega)
    rw [sm_s] at i
    by_cases z : msR w s n c n.toNat (-1) 0 = -1
    · have e1 : fpI w s n k = 1 := by rw [← fk]; exact ftI_y ⟨c2, sp.1.mp z⟩
      rw [e1] at i
      rw [if_pos z, if_pos (by omega), jwr_jup]
      refine i _ (fun j a b => ?_)
      by_cases y : j = k
      · rw [y, up1_s]
      · have mo := sm_mono (f := fpI w s n) (fun i => by have := fpI_01 (w := w) (s := s) (n := n) (k := i); omega) (j + 1) (k - (j + 1))
        rw [show j + 1 + (k - (j + 1)) = k by omega, sm_s, b] at mo
        rw [up1_n (by omega)]
        exact H j (by omega) b
    · have e1 : fpI w s n k = 0 := by rw [← fk]; exact ftI_n (fun t => z (sp.1.mpr t.2))
      rw [e1, Int.add_zero] at i
      rw [if_neg z]
      refine i f (fun j a b => ?_)
      by_cases y : j = k
      · rw [y, e1] at b; omega
      · exact H j (by omega) b
theorem sX_ff (h : OKC w) (L : LK K w) (P : PrOk w s n) (hQ : ∀ u, SV w u → LK K u → (∀ k : Nat, (k : Int) < rk w 67 → fpI w s n k = 1 → u 42 (sm (fpI w s n) k) = (k : Int)) → Q (jI (NF w s n (-1))) u) : AW mX_findFitting 0 [jR 0, jI s, jI n, jX, jX] [] w Q := by
  have r0 := rk_in (v := w) (c := 67) (by omega)
  rw [bX_findFitting_0]
  refine sK_survey h L (fun u S L => ?_)
  rw [bX_findFitting_15]
  have e : jwr u 42 (u 42) = u := jwr_e rfl
  rw [← e]
  exact sX_ff20 h S P (fun f H => hQ _ (S.wr (by omega)) (LK.wr L (by omega)) (fun k a b => by rw [jwr_s]; exact H k a b)) _ 0 _ rfl (by omega) (fun j a => by omega)
theorem NF_in {b : Int} : 0 ≤ NF w s n b ∧ NF w s n b ≤ 67 := sm_ftI 67
theorem sM_wh85 {w0 : jW} (h0 : VM w0 v) (P : PrOk v s n) {i : Int} (hc : c67 c) (hf : ftI v s n (-1) c = 1) (hi : sm (ftI v s n (-1)) c.toNat = i) {y3 y4 y5 : jV} (hQ : ∀ u, SMo w0 u → Q (jI c) u) (m : Nat) :
    ∀ (j : Nat) (u : jW), (c - j).toNat = m → (j : Int) ≤ c → SMo w0 u → AW mM_where 85 [jR 45, jI s, jI n, y3, y4, y5, jI (i - sm (ftI v s n (-1)) j), jI j] [] u Q := by
  have hc' := hc
  unfold c67 at hc'
  induction m with
  | zero =>
    intro j u hm hj S
    have e : c = (j : Int) := by omega
    have h := h0.t S
    rw [bM_where_85]
    refine h.fits P ⟨by omega, by omega⟩ (fun t u' S' => ?_) (fun t u' S' => ?_)
    · rw [bM_where_94, if_neg (by omega), if_neg (by rw [← hi, show c.toNat = j by omega]; omega), ← e]
      exact hQ u' (S.t S')
    · rw [← e] at t
      rw [ftI_n t] at hf; omega
  | succ m ih =>
    intro j u hm hj S
    have h := h0.t S
    have si := sm_ftI (v := v) (s := s) (n := n) (b := -1) j
    have sj := sm_ftI (v := v) (s := s) (n := n) (b := -1) c.toNat
    have g := fun u S => ih (j + 1) u (by omega) (by omega) S
    rw [sm_s] at g
    rw [bM_where_85]
    refine h.fits P ⟨by omega, by omega⟩ (fun t u' S' => ?_) (fun t u' S' => ?_)
    · have mo := sm_mono (f := ftI v s n (-1)) (fun i => ftI_in.1) (j + 1) (c.toNat - (j + 1))
      rw [show j + 1 + (c.toNat - (j + 1)) = c.toNat by omega, sm_s, ftI_y t] at mo
      rw [ftI_y t] at g
      rw [bM_where_94, if_neg (by omega), if_pos (by omega), n32s (x := (j : Int) + 1) (by omega) (by omega), n32s (x := i - sm (ftI v s n (-1)) j + -1) (by omega) (by omega), show i - sm (ftI v s n (-1)) j + -1 = i - (sm (ftI v s n (-1)) j + 1) by omega]
      exact g u' (S.t S')
    · rw [ftI_n t, Int.add_zero] at g
      rw [bM_where_94, if_pos rfl, n32s (x := (j : Int) + 1) (by omega) (by omega)]
      exact g u' (S.t S')
theorem p_where (h : INV K w) : Both mX_where mM_where [jR 0, jI s, jI n, jI x, jX, jX] [jR 45, jI s, jI n, jI x, jX, jX, jX, jX] K w := by
  unfold Both
  have kk := h.wk
  have so := h.sh
  have F := h.ref (a := -2) (by omega) (by omega)
  have r0 := rk_in (v := w) (c := 67) (by omega)
  have r67 := rk_67 (v := w) kk.2.2.2
  have go : ∀ b : Int, (b ≠ 0 ↔ -1 ≤ x) → AW mX_whyNoPairs 0 [jR 0, jI s, jI n, jI b, jX, jX] [] w (fun r w' => AW mX_where 16 [jR 0, jI s, jI n, jI x, jX, jX] [r] w' (fun r w1 => AW mM_where 0 [jR 45, jI s, jI n, jI x, jX, jX, jX, jX] [] w1 (fun r' w2 => Fin K w r r' w2))) := by
    intro b hb
    by_cases ok : (0 ≤ s ∧ s < 8) ∧ (0 ≤ n ∧ n ≤ 20) ∧ b ≠ 0
    · have hx := hb.mp ok.2.2
      have N : ∀ u, VM u w → ∀ Q, AW mM_where 0 [jR 45, jI s, jI n, jI x, jX, jX, jX, jX] [] u Q = AW mM_where 35 [jR 45, jI s, jI n, jI x, jX, jX, jX, jX] [jI (prR w s n)] u Q := by
        intro u hu Q
        rw [bM_where_0, sM_isShelf, bM_where_4, jb_ite, if_pos ok.1, sM_within, bM_where_14, jb_ite, if_pos ok.2.1, if_neg (by omega), hu.noPairs ok.1 ok.2.1]
      rw [sX_wnp h.1 ok, bX_where_16]
      by_cases z : prR w s n = 0
      · have P := prR_0 so ok.1 ok.2.1 z
        rw [if_pos z]
        refine sX_ff h.1 h.2.2 P (fun u S L H => ?_)
        have V := h.vm S.1
        have gi := NF_in (w := w) (s := s) (n := n) (b := -1)
        have M : ∀ u, VM u w → ∀ Q, (∀ u2, SMo u u2 → AW mM_where 56 [jR 45, jI s, jI n, jI x, jI (prR w s n), jX, jX, jX] [jI (NF w s n (-1))] u2 Q) → AW mM_where 0 [jR 45, jI s, jI n, jI x, jX, jX, jX, jX] [] u Q := by
          intro u hu Q hQ
          rw [N u hu, bM_where_35, if_neg (by omega)]
          exact hu.fitting P (fun u2 S2 => hQ u2 S2)
        rw [bX_where_36]
        by_cases x1 : x = -1
        · rw [if_pos x1]
          refine M u V _ (fun u2 S2 => ?_)
          rw [bM_where_56, if_pos x1]
          exact h.q S.1 (L.to (by omega)) S2 rfl
        · rw [if_neg x1, if_neg (by omega)]
          by_cases x2 : x < NF w s n (-1)
          · have e67 : NF w s n (-1) = sm (fpI w s n) (rk w 67).toNat := sm_fp 67
            have sN := sm_fpI (w := w) (s := s) (n := n) (rk w 67).toNat
            obtain ⟨k, k1, k2, k3⟩ := sm_sur (f := fpI w s n) (fun i => fpI_01) (rk w 67).toNat x (by omega) (by omega)
            have e42 := H k (by omega) k2
            rw [k3] at e42
            obtain ⟨c, _, c2, c3⟩ := rk_sur (v := w) kk.2.2.2 67 k (by omega) (by
              have : rk w ((67 : Nat) : Int) = rk w 67 := rfl
              omega)
            have e31 : u 31 (k : Int) = c := by rw [← c3]; exact S.2.2.2.1 c c2
            have f1 : ftI w s n (-1) c = 1 := by rw [fpI_rk c2, c3]; exact k2
            have c67' : c67 c := ⟨c2.1.1, cell67 kk.2.2.2 c2.1⟩
            have sc : sm (ftI w s n (-1)) c.toNat = x := by
              have c0 := c2.1.1
              rw [sm_fp, show ((c.toNat : Nat) : Int) = c by omega, c3, show ((k : Int)).toNat = k by omega]; exact k3
            rw [if_pos x2, if_pos (by omega), e42, if_pos (by omega), e31]
            refine M u V _ (fun u2 S2 => ?_)
            rw [bM_where_56, if_neg x1, if_pos x2]
            have W := sM_wh85 (Q := fun r' w2 => Fin K w (jI c) r' w2) (w0 := u2) (V.t S2) P c67' f1 sc (y3 := jI x) (y4 := jI (prR w s n)) (y5 := jI (NF w s n (-1))) (fun u3 S3 => h.q S.1 (L.to (by omega)) (S2.t S3) rfl) _ 0 u2 rfl (by have := c67'.1; omega) SMo.r
            rw [show x - sm (ftI w s n (-1)) 0 = x by show x - 0 = x; omega] at W
            exact W
          · rw [if_neg x2, sX_refuse5, bX_where_62]
            have V' : VM (rX u (-5)) w := ⟨V.1, V.2.cg (fun o q => rX_n (by omega)) (fun f _ => by rw [rX_n (by omega)]) (fun _ _ => rfl)⟩
            refine M (rX u (-5)) V' _ (fun u2 S2 => ?_)
            rw [bM_where_56, if_neg x1, if_neg x2, sM_no5, bM_where_78]
            exact h.refq S.1 L S2 (by omega) (by omega)
      · have i := (prR_in (v := w) (n := n) ok.1).resolve_left z
        rw [if_neg z, sX_refuse (by omega) (by omega), bX_where_29, N _ (h.vR _), bM_where_35, if_pos (by omega), sM_no (by omega) (by omega), bM_where_48]
        exact h.ref (by omega) (by omega)
    · rw [sX_wnpB ok, bX_where_16, if_neg (by omega), sX_refuse2, bX_where_29, bM_where_0, sM_isShelf, bM_where_4, jb_ite]
      by_cases c1 : 0 ≤ s ∧ s < 8
      · rw [if_pos c1, sM_within, bM_where_14, jb_ite]
        by_cases c2 : 0 ≤ n ∧ n ≤ 20
        · have hx : ¬ -1 ≤ x := fun t => ok ⟨c1, c2, hb.mpr t⟩
          rw [if_pos c2, if_pos (by omega), sM_no2, bM_where_28]
          exact F
        · rw [if_neg c2, sM_no2, bM_where_28]
          exact F
      · rw [if_neg c1, sM_no2, bM_where_28]
        exact F
  rw [bX_where_0]
  by_cases z : x < -1
  · rw [if_pos z]
    exact go 0 (by omega)
  · rw [if_neg z]
    exact go 1 (by omega)
end QA
