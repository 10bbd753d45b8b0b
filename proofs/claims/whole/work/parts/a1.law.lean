/-! the law's loop -/
theorem itP {c : Prop} [Decidable c] {a b : Prop} (h1 : c → a) (h2 : ¬ c → b) : if c then a else b := by split; exact h1 ‹_›; exact h2 ‹_›
theorem itT {c : Prop} [Decidable c] {a : Prop} (hc : c) (h : a) : if c then a else False := by rw [if_pos hc]; exact h
theorem itL {c : Prop} [Decidable c] {a b : Prop} (hc : c) (h : a) : if c then a else b := by rw [if_pos hc]; exact h
theorem itR {c : Prop} [Decidable c] {a b : Prop} (hc : ¬ c) (h : b) : if c then a else b := by rw [if_neg hc]; exact h
theorem lc0 (s : Int) : (if s < s then (-1 : Int) else if s = s then 0 else 1) = 0 := by rw [if_neg (by omega), if_pos rfl]
/-- a whole step of the script stands from x on -/
def LWc (w : jW) (x : Int) : Prop := 0 ≤ x ∧ x + 6 ≤ ((w 98 0).toNat : Int) ∧ ((w 98 0).toNat : Int) ≤ 3072
section LW
variable {w : jW} {K x : Int} {Q : jV → jW → Prop}
theorem LWc.b1 (h : LWc w x) : 0 ≤ n32 (x + 1) ∧ n32 (x + 1) < ((w 98 0).toNat : Int) := by
  obtain ⟨h1, h2, h3⟩ := h
  rw [n32s (by omega) (by omega)]
  omega
theorem LWc.b2 (h : LWc w x) : 0 ≤ n32 (x + 2) ∧ n32 (x + 2) < ((w 98 0).toNat : Int) := by
  obtain ⟨h1, h2, h3⟩ := h
  rw [n32s (by omega) (by omega)]
  omega
theorem LWc.b3 (h : LWc w x) : 0 ≤ n32 (x + 3) ∧ n32 (x + 3) < ((w 98 0).toNat : Int) := by
  obtain ⟨h1, h2, h3⟩ := h
  rw [n32s (by omega) (by omega)]
  omega
theorem LWc.b4 (h : LWc w x) : 0 ≤ n32 (x + 4) ∧ n32 (x + 4) < ((w 98 0).toNat : Int) := by
  obtain ⟨h1, h2, h3⟩ := h
  rw [n32s (by omega) (by omega)]
  omega
theorem LWc.b5 (h : LWc w x) : 0 ≤ n32 (x + 5) ∧ n32 (x + 5) < ((w 98 0).toNat : Int) := by
  obtain ⟨h1, h2, h3⟩ := h
  rw [n32s (by omega) (by omega)]
  omega
theorem LWc.n6 (h : LWc w x) : n32 (x + 6) = x + 6 := by
  obtain ⟨h1, h2, h3⟩ := h
  rw [n32s (by omega) (by omega)]
theorem lw_row (hI : INV K w) (hk : K ≤ 800000000) (hL : LWc w x) (hs : ∀ i, in32 (w 100 i)) (ih : ∀ w2, INV (K + 2100) w2 → w2 98 = w 98 → w2 100 = w 100 → AW mW_law 18 [jR 100, jR 0, jR 45, jI (x + 6)] [] w2 Q) :
    AW mX_row 0 [jR 0, jI (w 100 (n32 (x + 1))), jI (w 100 (n32 (x + 2))), jI (w 100 (n32 (x + 3)))] [] w (fun r w' => AW mW_law 271 [jR 100, jR 0, jR 45, jI x] [r] w' Q) := by
  refine AW_mono ((p_row hI ).go rfl) ?_
  rintro r w1 ⟨s, rfl, e98, e100, h2⟩
  rw [bW_law_271, e98, e100]
  refine itT (hL.b1) (itT (hL.b2) (itT (hL.b3) ?_))
  refine AW_mono h2 ?_
  rintro r' w2 ⟨rfl, hI2, f98, f100⟩
  rw [bW_law_290]
  refine itL rfl ?_
  rw [hL.n6]
  exact ih w2 hI2 f98 f100
theorem lw_set (hI : INV K w) (hk : K ≤ 800000000) (hL : LWc w x) (hs : ∀ i, in32 (w 100 i)) (ih : ∀ w2, INV (K + 2100) w2 → w2 98 = w 98 → w2 100 = w 100 → AW mW_law 18 [jR 100, jR 0, jR 45, jI (x + 6)] [] w2 Q) :
    AW mX_set 0 [jR 0, jI (w 100 (n32 (x + 1))), jI (w 100 (n32 (x + 2))), jL (jlor (jlshl (w 100 (n32 (x + 3))) 32) (jland (w 100 (n32 (x + 4))) 4294967295)), jX, jX] [] w (fun r w' => AW mW_law 329 [jR 100, jR 0, jR 45, jI x] [r] w' Q) := by
  refine AW_mono ((p_set hI (c_in64 _)).go rfl) ?_
  rintro r w1 ⟨s, rfl, e98, e100, h2⟩
  rw [bW_law_329, e98, e100]
  refine itT (hL.b1) (itT (hL.b2) (itT (hL.b3) (itT (hL.b4) ?_)))
  refine AW_mono h2 ?_
  rintro r' w2 ⟨rfl, hI2, f98, f100⟩
  rw [bW_law_363]
  refine itL rfl ?_
  rw [hL.n6]
  exact ih w2 hI2 f98 f100
theorem lw_copy (hI : INV K w) (hk : K ≤ 800000000) (hL : LWc w x) (hs : ∀ i, in32 (w 100 i)) (ih : ∀ w2, INV (K + 2100) w2 → w2 98 = w 98 → w2 100 = w 100 → AW mW_law 18 [jR 100, jR 0, jR 45, jI (x + 6)] [] w2 Q) :
    AW mX_copy 0 [jR 0, jI (w 100 (n32 (x + 1))), jI (w 100 (n32 (x + 2))), jI (w 100 (n32 (x + 3))), jI (w 100 (n32 (x + 4))), jI (w 100 (n32 (x + 5))), jX] [] w (fun r w' => AW mW_law 397 [jR 100, jR 0, jR 45, jI x] [r] w' Q) := by
  refine AW_mono ((p_copy hI (hs _) (hs _) (hs _)).go rfl) ?_
  rintro r w1 ⟨s, rfl, e98, e100, h2⟩
  rw [bW_law_397, e98, e100]
  refine itT (hL.b1) (itT (hL.b2) (itT (hL.b3) (itT (hL.b4) (itT (hL.b5) ?_))))
  refine AW_mono h2 ?_
  rintro r' w2 ⟨rfl, hI2, f98, f100⟩
  rw [bW_law_426]
  refine itL rfl ?_
  rw [hL.n6]
  exact ih w2 hI2 f98 f100
theorem lw_element (hI : INV K w) (hk : K ≤ 800000000) (hL : LWc w x) (hs : ∀ i, in32 (w 100 i)) (ih : ∀ w2, INV (K + 2100) w2 → w2 98 = w 98 → w2 100 = w 100 → AW mW_law 18 [jR 100, jR 0, jR 45, jI (x + 6)] [] w2 Q) :
    AW mX_element 0 [jR 0, jI (w 100 (n32 (x + 1))), jI (w 100 (n32 (x + 2)))] [] w (fun r w' => AW mW_law 445 [jR 100, jR 0, jR 45, jI x] [r] w' Q) := by
  refine AW_mono ((p_element hI ).goL rfl) ?_
  rintro r w1 ⟨s, rfl, e98, e100, h2⟩
  rw [bW_law_445, e98, e100]
  refine itT (hL.b1) (itT (hL.b2) ?_)
  refine AW_mono h2 ?_
  rintro r' w2 ⟨rfl, hI2, f98, f100⟩
  rw [bW_law_459]
  refine itL (lc0 s) ?_
  rw [hL.n6]
  exact ih w2 hI2 f98 f100
theorem lw_holds (hI : INV K w) (hk : K ≤ 800000000) (hL : LWc w x) (hs : ∀ i, in32 (w 100 i)) (ih : ∀ w2, INV (K + 2100) w2 → w2 98 = w 98 → w2 100 = w 100 → AW mW_law 18 [jR 100, jR 0, jR 45, jI (x + 6)] [] w2 Q) :
    AW mX_holds 0 [jR 0, jI (w 100 (n32 (x + 1)))] [] w (fun r w' => AW mW_law 474 [jR 100, jR 0, jR 45, jI x] [r] w' Q) := by
  refine AW_mono ((p_holds hI ).go rfl) ?_
  rintro r w1 ⟨s, rfl, e98, e100, h2⟩
  rw [bW_law_474, e98, e100]
  refine itT (hL.b1) ?_
  refine AW_mono h2 ?_
  rintro r' w2 ⟨rfl, hI2, f98, f100⟩
  rw [bW_law_483]
  refine itL rfl ?_
  rw [hL.n6]
  exact ih w2 hI2 f98 f100
theorem lw_show (hI : INV K w) (hk : K ≤ 800000000) (hL : LWc w x) (hs : ∀ i, in32 (w 100 i)) (ih : ∀ w2, INV (K + 2100) w2 → w2 98 = w 98 → w2 100 = w 100 → AW mW_law 18 [jR 100, jR 0, jR 45, jI (x + 6)] [] w2 Q) :
    AW mX_show 0 [jR 0, jI (w 100 (n32 (x + 1))), jI (w 100 (n32 (x + 2)))] [] w (fun r w' => AW mW_law 502 [jR 100, jR 0, jR 45, jI x] [r] w' Q) := by
  refine AW_mono ((p_show hI ).go rfl) ?_
  rintro r w1 ⟨s, rfl, e98, e100, h2⟩
  rw [bW_law_502, e98, e100]
  refine itT (hL.b1) (itT (hL.b2) ?_)
  refine AW_mono h2 ?_
  rintro r' w2 ⟨rfl, hI2, f98, f100⟩
  rw [bW_law_516]
  refine itL rfl ?_
  rw [hL.n6]
  exact ih w2 hI2 f98 f100
theorem lw_says (hI : INV K w) (hk : K ≤ 800000000) (hL : LWc w x) (hs : ∀ i, in32 (w 100 i)) (ih : ∀ w2, INV (K + 2100) w2 → w2 98 = w 98 → w2 100 = w 100 → AW mW_law 18 [jR 100, jR 0, jR 45, jI (x + 6)] [] w2 Q) :
    AW mX_says 0 [jR 0, jI (w 100 (n32 (x + 1))), jI (w 100 (n32 (x + 2))), jX, jX] [] w (fun r w' => AW mW_law 535 [jR 100, jR 0, jR 45, jI x] [r] w' Q) := by
  refine AW_mono ((p_says hI ).go rfl) ?_
  rintro r w1 ⟨s, rfl, e98, e100, h2⟩
  rw [bW_law_535, e98, e100]
  refine itT (hL.b1) (itT (hL.b2) ?_)
  refine AW_mono h2 ?_
  rintro r' w2 ⟨rfl, hI2, f98, f100⟩
  rw [bW_law_549]
  refine itL rfl ?_
  rw [hL.n6]
  exact ih w2 hI2 f98 f100
theorem lw_side (hI : INV K w) (hk : K ≤ 800000000) (hL : LWc w x) (hs : ∀ i, in32 (w 100 i)) (ih : ∀ w2, INV (K + 2100) w2 → w2 98 = w 98 → w2 100 = w 100 → AW mW_law 18 [jR 100, jR 0, jR 45, jI (x + 6)] [] w2 Q) :
    AW mX_side 0 [jR 0, jI (w 100 (n32 (x + 1))), jX] [] w (fun r w' => AW mW_law 563 [jR 100, jR 0, jR 45, jI x] [r] w' Q) := by
  refine AW_mono ((p_side hI ).go rfl) ?_
  rintro r w1 ⟨s, rfl, e98, e100, h2⟩
  rw [bW_law_563, e98, e100]
  refine itT (hL.b1) ?_
  refine AW_mono h2 ?_
  rintro r' w2 ⟨rfl, hI2, f98, f100⟩
  rw [bW_law_572]
  refine itL rfl ?_
  rw [hL.n6]
  exact ih w2 hI2 f98 f100
theorem lw_bog (hI : INV K w) (hk : K ≤ 800000000) (hL : LWc w x) (hs : ∀ i, in32 (w 100 i)) (hb : w 100 (n32 (x + 2)) = 0) (ih : ∀ w2, INV (K + 2100) w2 → w2 98 = w 98 → w2 100 = w 100 → AW mW_law 18 [jR 100, jR 0, jR 45, jI (x + 6)] [] w2 Q) :
    AW mX_bog 0 [jR 0, jI (w 100 (n32 (x + 1))), jI 0, jX] [] w (fun r w' => AW mW_law 599 [jR 100, jR 0, jR 45, jI x] [r] w' Q) := by
  refine AW_mono ((p_bog hI (hs _) (Or.inl rfl)).go rfl) ?_
  rintro r w1 ⟨s, rfl, e98, e100, h2⟩
  rw [bW_law_599, e98, e100]
  refine itT (hL.b1) (itT (hL.b2) ?_)
  refine itL hb ?_
  refine AW_mono h2 ?_
  rintro r' w2 ⟨rfl, hI2, f98, f100⟩
  rw [bW_law_621]
  refine itL rfl ?_
  rw [hL.n6]
  exact ih w2 hI2 f98 f100
theorem lw_bog1 (hI : INV K w) (hk : K ≤ 800000000) (hL : LWc w x) (hs : ∀ i, in32 (w 100 i)) (hb : ¬ w 100 (n32 (x + 2)) = 0) (ih : ∀ w2, INV (K + 2100) w2 → w2 98 = w 98 → w2 100 = w 100 → AW mW_law 18 [jR 100, jR 0, jR 45, jI (x + 6)] [] w2 Q) :
    AW mX_bog 0 [jR 0, jI (w 100 (n32 (x + 1))), jI 1, jX] [] w (fun r w' => AW mW_law 599 [jR 100, jR 0, jR 45, jI x] [r] w' Q) := by
  refine AW_mono ((p_bog hI (hs _) (Or.inr rfl)).go rfl) ?_
  rintro r w1 ⟨s, rfl, e98, e100, h2⟩
  rw [bW_law_599, e98, e100]
  refine itT (hL.b1) (itT (hL.b2) ?_)
  refine itR hb ?_
  refine AW_mono h2 ?_
  rintro r' w2 ⟨rfl, hI2, f98, f100⟩
  rw [bW_law_621]
  refine itL rfl ?_
  rw [hL.n6]
  exact ih w2 hI2 f98 f100
theorem lw_home (hI : INV K w) (hk : K ≤ 800000000) (hL : LWc w x) (hs : ∀ i, in32 (w 100 i)) (ih : ∀ w2, INV (K + 2100) w2 → w2 98 = w 98 → w2 100 = w 100 → AW mW_law 18 [jR 100, jR 0, jR 45, jI (x + 6)] [] w2 Q) :
    AW mX_home 0 [jR 0, jI (w 100 (n32 (x + 1))), jX] [] w (fun r w' => AW mW_law 635 [jR 100, jR 0, jR 45, jI x] [r] w' Q) := by
  refine AW_mono ((p_home hI (hs _)).go rfl) ?_
  rintro r w1 ⟨s, rfl, e98, e100, h2⟩
  rw [bW_law_635, e98, e100]
  refine itT (hL.b1) ?_
  refine AW_mono h2 ?_
  rintro r' w2 ⟨rfl, hI2, f98, f100⟩
  rw [bW_law_644]
  refine itL rfl ?_
  rw [hL.n6]
  exact ih w2 hI2 f98 f100
theorem lw_post (hI : INV K w) (hk : K ≤ 800000000) (hL : LWc w x) (hs : ∀ i, in32 (w 100 i)) (ih : ∀ w2, INV (K + 2100) w2 → w2 98 = w 98 → w2 100 = w 100 → AW mW_law 18 [jR 100, jR 0, jR 45, jI (x + 6)] [] w2 Q) :
    AW mX_post 0 [jR 0, jI (w 100 (n32 (x + 1))), jI (w 100 (n32 (x + 2))), jI (w 100 (n32 (x + 3)))] [] w (fun r w' => AW mW_law 668 [jR 100, jR 0, jR 45, jI x] [r] w' Q) := by
  refine AW_mono ((p_post hI (hs _)).go rfl) ?_
  rintro r w1 ⟨s, rfl, e98, e100, h2⟩
  rw [bW_law_668, e98, e100]
  refine itT (hL.b1) (itT (hL.b2) (itT (hL.b3) ?_))
  refine AW_mono h2 ?_
  rintro r' w2 ⟨rfl, hI2, f98, f100⟩
  rw [bW_law_687]
  refine itL rfl ?_
  rw [hL.n6]
  exact ih w2 hI2 f98 f100
theorem lw_walker (hI : INV K w) (hk : K ≤ 800000000) (hL : LWc w x) (hs : ∀ i, in32 (w 100 i)) (ih : ∀ w2, INV (K + 2100) w2 → w2 98 = w 98 → w2 100 = w 100 → AW mW_law 18 [jR 100, jR 0, jR 45, jI (x + 6)] [] w2 Q) :
    AW mX_walker 0 [jR 0, jI (w 100 (n32 (x + 1))), jI (w 100 (n32 (x + 2)))] [] w (fun r w' => AW mW_law 706 [jR 100, jR 0, jR 45, jI x] [r] w' Q) := by
  refine AW_mono ((p_walker hI (hs _)).go rfl) ?_
  rintro r w1 ⟨s, rfl, e98, e100, h2⟩
  rw [bW_law_706, e98, e100]
  refine itT (hL.b1) (itT (hL.b2) ?_)
  refine AW_mono h2 ?_
  rintro r' w2 ⟨rfl, hI2, f98, f100⟩
  rw [bW_law_720]
  refine itL rfl ?_
  rw [hL.n6]
  exact ih w2 hI2 f98 f100
theorem lw_sure (hI : INV K w) (hk : K ≤ 800000000) (hL : LWc w x) (hs : ∀ i, in32 (w 100 i)) (ih : ∀ w2, INV (K + 2100) w2 → w2 98 = w 98 → w2 100 = w 100 → AW mW_law 18 [jR 100, jR 0, jR 45, jI (x + 6)] [] w2 Q) :
    AW mX_sure 0 [jR 0, jI (w 100 (n32 (x + 1))), jI (w 100 (n32 (x + 2))), jX] [] w (fun r w' => AW mW_law 739 [jR 100, jR 0, jR 45, jI x] [r] w' Q) := by
  refine AW_mono ((p_sure hI ).go rfl) ?_
  rintro r w1 ⟨s, rfl, e98, e100, h2⟩
  rw [bW_law_739, e98, e100]
  refine itT (hL.b1) (itT (hL.b2) ?_)
  refine AW_mono h2 ?_
  rintro r' w2 ⟨rfl, hI2, f98, f100⟩
  rw [bW_law_753]
  refine itL rfl ?_
  rw [hL.n6]
  exact ih w2 hI2 f98 f100
theorem lw_feed (hI : INV K w) (hk : K ≤ 800000000) (hL : LWc w x) (hs : ∀ i, in32 (w 100 i)) (ih : ∀ w2, INV (K + 2100) w2 → w2 98 = w 98 → w2 100 = w 100 → AW mW_law 18 [jR 100, jR 0, jR 45, jI (x + 6)] [] w2 Q) :
    AW mX_feed 0 [jR 0, jI (w 100 (n32 (x + 1)))] [] w (fun r w' => AW mW_law 767 [jR 100, jR 0, jR 45, jI x] [r] w' Q) := by
  refine AW_mono ((p_feed hI ).go rfl) ?_
  rintro r w1 ⟨s, rfl, e98, e100, h2⟩
  rw [bW_law_767, e98, e100]
  refine itT (hL.b1) ?_
  refine AW_mono h2 ?_
  rintro r' w2 ⟨rfl, hI2, f98, f100⟩
  rw [bW_law_776]
  refine itL rfl ?_
  rw [hL.n6]
  exact ih w2 hI2 f98 f100
theorem lw_wipe (hI : INV K w) (hk : K ≤ 800000000) (hL : LWc w x) (hs : ∀ i, in32 (w 100 i)) (ih : ∀ w2, INV (K + 2100) w2 → w2 98 = w 98 → w2 100 = w 100 → AW mW_law 18 [jR 100, jR 0, jR 45, jI (x + 6)] [] w2 Q) :
    AW mX_wipe 0 [jR 0, jX] [] w (fun r w' => AW mW_law 785 [jR 100, jR 0, jR 45, jI x] [r] w' Q) := by
  refine AW_mono ((p_wipe hI ).go rfl) ?_
  rintro r w1 ⟨s, rfl, e98, e100, h2⟩
  rw [bW_law_785]
  refine AW_mono h2 ?_
  rintro r' w2 ⟨rfl, hI2, f98, f100⟩
  rw [bW_law_789]
  refine itL rfl ?_
  rw [hL.n6]
  exact ih w2 hI2 f98 f100
theorem lw_fen (hI : INV K w) (hk : K ≤ 800000000) (hL : LWc w x) (hs : ∀ i, in32 (w 100 i)) (ih : ∀ w2, INV (K + 2100) w2 → w2 98 = w 98 → w2 100 = w 100 → AW mW_law 18 [jR 100, jR 0, jR 45, jI (x + 6)] [] w2 Q) :
    AW mX_fen 0 [jR 0, jX, jX] [] w (fun r w' => AW mW_law 798 [jR 100, jR 0, jR 45, jI x] [r] w' Q) := by
  refine AW_mono ((p_fen hI ).go rfl) ?_
  rintro r w1 ⟨s, rfl, e98, e100, h2⟩
  rw [bW_law_798]
  refine AW_mono h2 ?_
  rintro r' w2 ⟨rfl, hI2, f98, f100⟩
  rw [bW_law_802]
  refine itL rfl ?_
  rw [hL.n6]
  exact ih w2 hI2 f98 f100
theorem lw_postOf (hI : INV K w) (hk : K ≤ 800000000) (hL : LWc w x) (hs : ∀ i, in32 (w 100 i)) (ih : ∀ w2, INV (K + 2100) w2 → w2 98 = w 98 → w2 100 = w 100 → AW mW_law 18 [jR 100, jR 0, jR 45, jI (x + 6)] [] w2 Q) :
    AW mX_postOf 0 [jR 0, jI (w 100 (n32 (x + 1))), jI (w 100 (n32 (x + 2)))] [] w (fun r w' => AW mW_law 821 [jR 100, jR 0, jR 45, jI x] [r] w' Q) := by
  refine AW_mono ((p_postOf hI ).go rfl) ?_
  rintro r w1 ⟨s, rfl, e98, e100, h2⟩
  rw [bW_law_821, e98, e100]
  refine itT (hL.b1) (itT (hL.b2) ?_)
  refine AW_mono h2 ?_
  rintro r' w2 ⟨rfl, hI2, f98, f100⟩
  rw [bW_law_835]
  refine itL rfl ?_
  rw [hL.n6]
  exact ih w2 hI2 f98 f100
theorem lw_walkerOf (hI : INV K w) (hk : K ≤ 800000000) (hL : LWc w x) (hs : ∀ i, in32 (w 100 i)) (ih : ∀ w2, INV (K + 2100) w2 → w2 98 = w 98 → w2 100 = w 100 → AW mW_law 18 [jR 100, jR 0, jR 45, jI (x + 6)] [] w2 Q) :
    AW mX_walkerOf 0 [jR 0, jI (w 100 (n32 (x + 1))), jI (w 100 (n32 (x + 2)))] [] w (fun r w' => AW mW_law 854 [jR 100, jR 0, jR 45, jI x] [r] w' Q) := by
  refine AW_mono ((p_walkerOf hI ).go rfl) ?_
  rintro r w1 ⟨s, rfl, e98, e100, h2⟩
  rw [bW_law_854, e98, e100]
  refine itT (hL.b1) (itT (hL.b2) ?_)
  refine AW_mono h2 ?_
  rintro r' w2 ⟨rfl, hI2, f98, f100⟩
  rw [bW_law_868]
  refine itL rfl ?_
  rw [hL.n6]
  exact ih w2 hI2 f98 f100
theorem lw_isBog (hI : INV K w) (hk : K ≤ 800000000) (hL : LWc w x) (hs : ∀ i, in32 (w 100 i)) (ih : ∀ w2, INV (K + 2100) w2 → w2 98 = w 98 → w2 100 = w 100 → AW mW_law 18 [jR 100, jR 0, jR 45, jI (x + 6)] [] w2 Q) :
    AW mX_isBog 0 [jR 0, jI (w 100 (n32 (x + 1)))] [] w (fun r w' => AW mW_law 882 [jR 100, jR 0, jR 45, jI x] [r] w' Q) := by
  refine AW_mono ((p_isBog hI (hs _)).go rfl) ?_
  rintro r w1 ⟨s, rfl, e98, e100, h2⟩
  rw [bW_law_882, e98, e100]
  refine itT (hL.b1) ?_
  refine AW_mono h2 ?_
  rintro r' w2 ⟨rfl, hI2, f98, f100⟩
  rw [bW_law_891]
  refine itL rfl ?_
  rw [hL.n6]
  exact ih w2 hI2 f98 f100
theorem lw_way (hI : INV K w) (hk : K ≤ 800000000) (hL : LWc w x) (hs : ∀ i, in32 (w 100 i)) (ih : ∀ w2, INV (K + 2100) w2 → w2 98 = w 98 → w2 100 = w 100 → AW mW_law 18 [jR 100, jR 0, jR 45, jI (x + 6)] [] w2 Q) :
    AW mX_way 0 [jR 0, jI (w 100 (n32 (x + 1))), jI (w 100 (n32 (x + 2)))] [] w (fun r w' => AW mW_law 910 [jR 100, jR 0, jR 45, jI x] [r] w' Q) := by
  refine AW_mono ((p_way hI (hs _) (hs _)).go rfl) ?_
  rintro r w1 ⟨s, rfl, e98, e100, h2⟩
  rw [bW_law_910, e98, e100]
  refine itT (hL.b1) (itT (hL.b2) ?_)
  refine AW_mono h2 ?_
  rintro r' w2 ⟨rfl, hI2, f98, f100⟩
  rw [bW_law_924]
  refine itL rfl ?_
  rw [hL.n6]
  exact ih w2 hI2 f98 f100
theorem lw_arm (hI : INV K w) (hk : K ≤ 800000000) (hL : LWc w x) (hs : ∀ i, in32 (w 100 i)) (ih : ∀ w2, INV (K + 2100) w2 → w2 98 = w 98 → w2 100 = w 100 → AW mW_law 18 [jR 100, jR 0, jR 45, jI (x + 6)] [] w2 Q) :
    AW mX_arm 0 [jR 0, jI (w 100 (n32 (x + 1))), jI (w 100 (n32 (x + 2)))] [] w (fun r w' => AW mW_law 943 [jR 100, jR 0, jR 45, jI x] [r] w' Q) := by
  refine AW_mono ((p_arm hI (hs _) (hs _)).go rfl) ?_
  rintro r w1 ⟨s, rfl, e98, e100, h2⟩
  rw [bW_law_943, e98, e100]
  refine itT (hL.b1) (itT (hL.b2) ?_)
  refine AW_mono h2 ?_
  rintro r' w2 ⟨rfl, hI2, f98, f100⟩
  rw [bW_law_957]
  refine itL rfl ?_
  rw [hL.n6]
  exact ih w2 hI2 f98 f100
theorem lw_where (hI : INV K w) (hk : K ≤ 800000000) (hL : LWc w x) (hs : ∀ i, in32 (w 100 i)) (ih : ∀ w2, INV (K + 2100) w2 → w2 98 = w 98 → w2 100 = w 100 → AW mW_law 18 [jR 100, jR 0, jR 45, jI (x + 6)] [] w2 Q) :
    AW mX_where 0 [jR 0, jI (w 100 (n32 (x + 1))), jI (w 100 (n32 (x + 2))), jI (w 100 (n32 (x + 3))), jX, jX] [] w (fun r w' => AW mW_law 981 [jR 100, jR 0, jR 45, jI x] [r] w' Q) := by
  refine AW_mono ((p_where hI ).go rfl) ?_
  rintro r w1 ⟨s, rfl, e98, e100, h2⟩
  rw [bW_law_981, e98, e100]
  refine itT (hL.b1) (itT (hL.b2) (itT (hL.b3) ?_))
  refine AW_mono h2 ?_
  rintro r' w2 ⟨rfl, hI2, f98, f100⟩
  rw [bW_law_1000]
  refine itL rfl ?_
  rw [hL.n6]
  exact ih w2 hI2 f98 f100
theorem lw_of (hI : INV K w) (hk : K ≤ 800000000) (hL : LWc w x) (hs : ∀ i, in32 (w 100 i)) (ih : ∀ w2, INV (K + 2100) w2 → w2 98 = w 98 → w2 100 = w 100 → AW mW_law 18 [jR 100, jR 0, jR 45, jI (x + 6)] [] w2 Q) :
    AW mX_of 0 [jR 0, jI (w 100 (n32 (x + 1))), jI (w 100 (n32 (x + 2))), jI (w 100 (n32 (x + 3))), jX, jX] [] w (fun r w' => AW mW_law 1024 [jR 100, jR 0, jR 45, jI x] [r] w' Q) := by
  refine AW_mono ((p_of hI ).go rfl) ?_
  rintro r w1 ⟨s, rfl, e98, e100, h2⟩
  rw [bW_law_1024, e98, e100]
  refine itT (hL.b1) (itT (hL.b2) (itT (hL.b3) ?_))
  refine AW_mono h2 ?_
  rintro r' w2 ⟨rfl, hI2, f98, f100⟩
  rw [bW_law_1043]
  refine itL rfl ?_
  rw [hL.n6]
  exact ih w2 hI2 f98 f100
theorem lw_kinds (hI : INV K w) (hk : K ≤ 800000000) (hL : LWc w x) (hs : ∀ i, in32 (w 100 i)) (ih : ∀ w2, INV (K + 2100) w2 → w2 98 = w 98 → w2 100 = w 100 → AW mW_law 18 [jR 100, jR 0, jR 45, jI (x + 6)] [] w2 Q) :
    AW mX_kinds 0 [jR 0, jI (w 100 (n32 (x + 1))), jI (w 100 (n32 (x + 2))), jX, jX] [] w (fun r w' => AW mW_law 1062 [jR 100, jR 0, jR 45, jI x] [r] w' Q) := by
  refine AW_mono ((p_kinds hI (hs _)).go rfl) ?_
  rintro r w1 ⟨s, rfl, e98, e100, h2⟩
  rw [bW_law_1062, e98, e100]
  refine itT (hL.b1) (itT (hL.b2) ?_)
  refine AW_mono h2 ?_
  rintro r' w2 ⟨rfl, hI2, f98, f100⟩
  rw [bW_law_1076]
  refine itL rfl ?_
  rw [hL.n6]
  exact ih w2 hI2 f98 f100
theorem lw_apart (hI : INV K w) (hk : K ≤ 800000000) (hL : LWc w x) (hs : ∀ i, in32 (w 100 i)) (ih : ∀ w2, INV (K + 2100) w2 → w2 98 = w 98 → w2 100 = w 100 → AW mW_law 18 [jR 100, jR 0, jR 45, jI (x + 6)] [] w2 Q) :
    AW mX_apart 0 [jR 0, jI (w 100 (n32 (x + 1))), jX] [] w (fun r w' => AW mW_law 1090 [jR 100, jR 0, jR 45, jI x] [r] w' Q) := by
  refine AW_mono ((p_apart hI (by omega)).go rfl) ?_
  rintro r w1 ⟨s, rfl, e98, e100, h2⟩
  rw [bW_law_1090, e98, e100]
  refine itT (hL.b1) ?_
  refine AW_mono h2 ?_
  rintro r' w2 ⟨rfl, hI2, f98, f100⟩
  rw [bW_law_1099]
  refine itL rfl ?_
  rw [hL.n6]
  exact ih w2 hI2 f98 f100
theorem lw_fewest (hI : INV K w) (hk : K ≤ 800000000) (hL : LWc w x) (hs : ∀ i, in32 (w 100 i)) (ih : ∀ w2, INV (K + 2100) w2 → w2 98 = w 98 → w2 100 = w 100 → AW mW_law 18 [jR 100, jR 0, jR 45, jI (x + 6)] [] w2 Q) :
    AW mX_fewest 0 [jR 0, jI (w 100 (n32 (x + 1))), jX, jX, jX, jX] [] w (fun r w' => AW mW_law 1113 [jR 100, jR 0, jR 45, jI x] [r] w' Q) := by
  refine AW_mono ((p_fewest hI (by omega)).go rfl) ?_
  rintro r w1 ⟨s, rfl, e98, e100, h2⟩
  rw [bW_law_1113, e98, e100]
  refine itT (hL.b1) ?_
  refine AW_mono h2 ?_
  rintro r' w2 ⟨rfl, hI2, f98, f100⟩
  rw [bW_law_1122]
  refine itL rfl ?_
  rw [hL.n6]
  exact ih w2 hI2 f98 f100
theorem lw_more (hI : INV K w) (hk : K ≤ 800000000) (hL : LWc w x) (hs : ∀ i, in32 (w 100 i)) (ih : ∀ w2, INV (K + 2100) w2 → w2 98 = w 98 → w2 100 = w 100 → AW mW_law 18 [jR 100, jR 0, jR 45, jI (x + 6)] [] w2 Q) :
    AW mX_more 0 [jR 0, jX, jX, jX, jX] [] w (fun r w' => AW mW_law 1131 [jR 100, jR 0, jR 45, jI x] [r] w' Q) := by
  refine AW_mono ((p_more hI (by omega)).go rfl) ?_
  rintro r w1 ⟨s, rfl, e98, e100, h2⟩
  rw [bW_law_1131]
  refine AW_mono h2 ?_
  rintro r' w2 ⟨rfl, hI2, f98, f100⟩
  rw [bW_law_1135]
  refine itL rfl ?_
  rw [hL.n6]
  exact ih w2 hI2 f98 f100
theorem lw_armed (hI : INV K w) (hk : K ≤ 800000000) (hL : LWc w x) (hs : ∀ i, in32 (w 100 i)) (ih : ∀ w2, INV (K + 2100) w2 → w2 98 = w 98 → w2 100 = w 100 → AW mW_law 18 [jR 100, jR 0, jR 45, jI (x + 6)] [] w2 Q) :
    AW mX_armed 0 [jR 0, jI (w 100 (n32 (x + 1))), jI (w 100 (n32 (x + 2)))] [] w (fun r w' => AW mW_law 1154 [jR 100, jR 0, jR 45, jI x] [r] w' Q) := by
  refine AW_mono ((p_armed hI (hs _) (hs _)).go rfl) ?_
  rintro r w1 ⟨s, rfl, e98, e100, h2⟩
  rw [bW_law_1154, e98, e100]
  refine itT (hL.b1) (itT (hL.b2) ?_)
  refine AW_mono h2 ?_
  rintro r' w2 ⟨rfl, hI2, f98, f100⟩
  rw [bW_law_1168]
  refine itL rfl ?_
  rw [hL.n6]
  exact ih w2 hI2 f98 f100
theorem lw_alike (hI : INV K w) (hk : K ≤ 800000000) (hL : LWc w x) (hs : ∀ i, in32 (w 100 i)) (ih : ∀ w2, INV (K + 2100) w2 → w2 98 = w 98 → w2 100 = w 100 → AW mW_law 18 [jR 100, jR 0, jR 45, jI (x + 6)] [] w2 Q) :
    AW mX_alike 0 [jR 0, jI (w 100 (n32 (x + 1)))] [] w (fun r w' => AW mW_law 1182 [jR 100, jR 0, jR 45, jI x] [r] w' Q) := by
  refine AW_mono ((p_alike hI (by omega) (hs _)).go rfl) ?_
  rintro r w1 ⟨s, rfl, e98, e100, h2⟩
  rw [bW_law_1182, e98, e100]
  refine itT (hL.b1) ?_
  refine AW_mono h2 ?_
  rintro r' w2 ⟨rfl, hI2, f98, f100⟩
  rw [bW_law_1191]
  refine itL rfl ?_
  rw [hL.n6]
  exact ih w2 hI2 f98 f100
theorem lw_right (hI : INV K w) (hk : K ≤ 800000000) (hL : LWc w x) (hs : ∀ i, in32 (w 100 i)) (ih : ∀ w2, INV (K + 2100) w2 → w2 98 = w 98 → w2 100 = w 100 → AW mW_law 18 [jR 100, jR 0, jR 45, jI (x + 6)] [] w2 Q) :
    AW mX_right 0 [jR 0, jI (w 100 (n32 (x + 1))), jX, jX] [] w (fun r w' => AW mW_law 1205 [jR 100, jR 0, jR 45, jI x] [r] w' Q) := by
  refine AW_mono ((p_right hI (hs _)).go rfl) ?_
  rintro r w1 ⟨s, rfl, e98, e100, h2⟩
  rw [bW_law_1205, e98, e100]
  refine itT (hL.b1) ?_
  refine AW_mono h2 ?_
  rintro r' w2 ⟨rfl, hI2, f98, f100⟩
  rw [bW_law_1214]
  refine itL rfl ?_
  rw [hL.n6]
  exact ih w2 hI2 f98 f100
theorem lw_pointing (hI : INV K w) (hk : K ≤ 800000000) (hL : LWc w x) (hs : ∀ i, in32 (w 100 i)) (ih : ∀ w2, INV (K + 2100) w2 → w2 98 = w 98 → w2 100 = w 100 → AW mW_law 18 [jR 100, jR 0, jR 45, jI (x + 6)] [] w2 Q) :
    AW mX_pointing 0 [jR 0, jI (w 100 (n32 (x + 1))), jX, jX] [] w (fun r w' => AW mW_law 1228 [jR 100, jR 0, jR 45, jI x] [r] w' Q) := by
  refine AW_mono ((p_pointing hI ).go rfl) ?_
  rintro r w1 ⟨s, rfl, e98, e100, h2⟩
  rw [bW_law_1228, e98, e100]
  refine itT (hL.b1) ?_
  refine AW_mono h2 ?_
  rintro r' w2 ⟨rfl, hI2, f98, f100⟩
  rw [bW_law_1237]
  refine itL rfl ?_
  rw [hL.n6]
  exact ih w2 hI2 f98 f100
theorem lw_trembling (hI : INV K w) (hk : K ≤ 800000000) (hL : LWc w x) (hs : ∀ i, in32 (w 100 i)) (ih : ∀ w2, INV (K + 2100) w2 → w2 98 = w 98 → w2 100 = w 100 → AW mW_law 18 [jR 100, jR 0, jR 45, jI (x + 6)] [] w2 Q) :
    AW mX_trembling 0 [jR 0] [] w (fun r w' => AW mW_law 1246 [jR 100, jR 0, jR 45, jI x] [r] w' Q) := by
  refine AW_mono ((p_trembling hI ).go rfl) ?_
  rintro r w1 ⟨s, rfl, e98, e100, h2⟩
  rw [bW_law_1246]
  refine AW_mono h2 ?_
  rintro r' w2 ⟨rfl, hI2, f98, f100⟩
  rw [bW_law_1250]
  refine itL rfl ?_
  rw [hL.n6]
  exact ih w2 hI2 f98 f100
theorem lw_bestPair (hI : INV K w) (hk : K ≤ 800000000) (hL : LWc w x) (hs : ∀ i, in32 (w 100 i)) (ih : ∀ w2, INV (K + 2100) w2 → w2 98 = w 98 → w2 100 = w 100 → AW mW_law 18 [jR 100, jR 0, jR 45, jI (x + 6)] [] w2 Q) :
    AW mX_bestPair 0 [jR 0, jX, jX, jX, jX, jX] [] w (fun r w' => AW mW_law 1259 [jR 100, jR 0, jR 45, jI x] [r] w' Q) := by
  refine AW_mono ((p_bestPair hI (by omega)).go rfl) ?_
  rintro r w1 ⟨s, rfl, e98, e100, h2⟩
  rw [bW_law_1259]
  refine AW_mono h2 ?_
  rintro r' w2 ⟨rfl, hI2, f98, f100⟩
  rw [bW_law_1263]
  refine itL rfl ?_
  rw [hL.n6]
  exact ih w2 hI2 f98 f100
theorem lw_idlest (hI : INV K w) (hk : K ≤ 800000000) (hL : LWc w x) (hs : ∀ i, in32 (w 100 i)) (ih : ∀ w2, INV (K + 2100) w2 → w2 98 = w 98 → w2 100 = w 100 → AW mW_law 18 [jR 100, jR 0, jR 45, jI (x + 6)] [] w2 Q) :
    AW mX_idlest 0 [jR 0, jX, jX, jX, jX] [] w (fun r w' => AW mW_law 1272 [jR 100, jR 0, jR 45, jI x] [r] w' Q) := by
  refine AW_mono ((p_idlest hI (by omega)).go rfl) ?_
  rintro r w1 ⟨s, rfl, e98, e100, h2⟩
  rw [bW_law_1272]
  refine AW_mono h2 ?_
  rintro r' w2 ⟨rfl, hI2, f98, f100⟩
  rw [bW_law_1276]
  refine itL rfl ?_
  rw [hL.n6]
  exact ih w2 hI2 f98 f100
theorem lw_leads (hI : INV K w) (hk : K ≤ 800000000) (hL : LWc w x) (hs : ∀ i, in32 (w 100 i)) (ih : ∀ w2, INV (K + 2100) w2 → w2 98 = w 98 → w2 100 = w 100 → AW mW_law 18 [jR 100, jR 0, jR 45, jI (x + 6)] [] w2 Q) :
    AW mX_leads 0 [jR 0, jI (w 100 (n32 (x + 1))), jI (w 100 (n32 (x + 2))), jX] [] w (fun r w' => AW mW_law 1295 [jR 100, jR 0, jR 45, jI x] [r] w' Q) := by
  refine AW_mono ((p_leads hI (hs _)).go rfl) ?_
  rintro r w1 ⟨s, rfl, e98, e100, h2⟩
  rw [bW_law_1295, e98, e100]
  refine itT (hL.b1) (itT (hL.b2) ?_)
  refine AW_mono h2 ?_
  rintro r' w2 ⟨rfl, hI2, f98, f100⟩
  rw [bW_law_1309]
  refine itL rfl ?_
  rw [hL.n6]
  exact ih w2 hI2 f98 f100
theorem lw_reach (hI : INV K w) (hk : K ≤ 800000000) (hL : LWc w x) (hs : ∀ i, in32 (w 100 i)) (ih : ∀ w2, INV (K + 2100) w2 → w2 98 = w 98 → w2 100 = w 100 → AW mW_law 18 [jR 100, jR 0, jR 45, jI (x + 6)] [] w2 Q) :
    AW mX_reach 0 [jR 0, jI (w 100 (n32 (x + 1))), jI (w 100 (n32 (x + 2)))] [] w (fun r w' => AW mW_law 1328 [jR 100, jR 0, jR 45, jI x] [r] w' Q) := by
  refine AW_mono ((p_reach hI (hs _)).go rfl) ?_
  rintro r w1 ⟨s, rfl, e98, e100, h2⟩
  rw [bW_law_1328, e98, e100]
  refine itT (hL.b1) (itT (hL.b2) ?_)
  refine AW_mono h2 ?_
  rintro r' w2 ⟨rfl, hI2, f98, f100⟩
  rw [bW_law_1342]
  refine itL rfl ?_
  rw [hL.n6]
  exact ih w2 hI2 f98 f100
theorem lw_open (hI : INV K w) (hk : K ≤ 800000000) (hL : LWc w x) (hs : ∀ i, in32 (w 100 i)) (ih : ∀ w2, INV (K + 2100) w2 → w2 98 = w 98 → w2 100 = w 100 → AW mW_law 18 [jR 100, jR 0, jR 45, jI (x + 6)] [] w2 Q) :
    AW mX_open 0 [jR 0, jI (w 100 (n32 (x + 1))), jX, jX] [] w (fun r w' => AW mW_law 1356 [jR 100, jR 0, jR 45, jI x] [r] w' Q) := by
  refine AW_mono ((p_open hI (hs _)).go rfl) ?_
  rintro r w1 ⟨s, rfl, e98, e100, h2⟩
  rw [bW_law_1356, e98, e100]
  refine itT (hL.b1) ?_
  refine AW_mono h2 ?_
  rintro r' w2 ⟨rfl, hI2, f98, f100⟩
  rw [bW_law_1365]
  refine itL rfl ?_
  rw [hL.n6]
  exact ih w2 hI2 f98 f100
theorem lw_parts (hI : INV K w) (hk : K ≤ 800000000) (hL : LWc w x) (hs : ∀ i, in32 (w 100 i)) (ih : ∀ w2, INV (K + 2100) w2 → w2 98 = w 98 → w2 100 = w 100 → AW mW_law 18 [jR 100, jR 0, jR 45, jI (x + 6)] [] w2 Q) :
    AW mX_parts 0 [jR 0] [] w (fun r w' => AW mW_law 1374 [jR 100, jR 0, jR 45, jI x] [r] w' Q) := by
  refine AW_mono ((p_parts hI ).go rfl) ?_
  rintro r w1 ⟨s, rfl, e98, e100, h2⟩
  rw [bW_law_1374]
  refine AW_mono h2 ?_
  rintro r' w2 ⟨rfl, hI2, f98, f100⟩
  rw [bW_law_1378]
  refine itL rfl ?_
  rw [hL.n6]
  exact ih w2 hI2 f98 f100
theorem lw_worst (hI : INV K w) (hk : K ≤ 800000000) (hL : LWc w x) (hs : ∀ i, in32 (w 100 i)) (ih : ∀ w2, INV (K + 2100) w2 → w2 98 = w 98 → w2 100 = w 100 → AW mW_law 18 [jR 100, jR 0, jR 45, jI (x + 6)] [] w2 Q) :
    AW mX_worst 0 [jR 0, jI (w 100 (n32 (x + 1)))] [] w (fun r w' => AW mW_law 1392 [jR 100, jR 0, jR 45, jI x] [r] w' Q) := by
  refine AW_mono ((p_worst hI ).go rfl) ?_
  rintro r w1 ⟨s, rfl, e98, e100, h2⟩
  rw [bW_law_1392, e98, e100]
  refine itT (hL.b1) ?_
  refine AW_mono h2 ?_
  rintro r' w2 ⟨rfl, hI2, f98, f100⟩
  rw [bW_law_1401]
  refine itL rfl ?_
  rw [hL.n6]
  exact ih w2 hI2 f98 f100
theorem lw_path (hI : INV K w) (hk : K ≤ 800000000) (hL : LWc w x) (hs : ∀ i, in32 (w 100 i)) (ih : ∀ w2, INV (K + 2100) w2 → w2 98 = w 98 → w2 100 = w 100 → AW mW_law 18 [jR 100, jR 0, jR 45, jI (x + 6)] [] w2 Q) :
    AW mX_path 0 [jR 0, jI (w 100 (n32 (x + 1))), jI (w 100 (n32 (x + 2)))] [] w (fun r w' => AW mW_law 1420 [jR 100, jR 0, jR 45, jI x] [r] w' Q) := by
  refine AW_mono ((p_path hI (hs _) (hs _)).go rfl) ?_
  rintro r w1 ⟨s, rfl, e98, e100, h2⟩
  rw [bW_law_1420, e98, e100]
  refine itT (hL.b1) (itT (hL.b2) ?_)
  refine AW_mono h2 ?_
  rintro r' w2 ⟨rfl, hI2, f98, f100⟩
  rw [bW_law_1434]
  refine itL rfl ?_
  rw [hL.n6]
  exact ih w2 hI2 f98 f100
theorem lw_found (hI : INV K w) (hk : K ≤ 800000000) (hL : LWc w x) (hs : ∀ i, in32 (w 100 i)) (ih : ∀ w2, INV (K + 2100) w2 → w2 98 = w 98 → w2 100 = w 100 → AW mW_law 18 [jR 100, jR 0, jR 45, jI (x + 6)] [] w2 Q) :
    AW mX_found 0 [jR 0, jX, jX, jX, jX, jX] [] w (fun r w' => AW mW_law 1443 [jR 100, jR 0, jR 45, jI x] [r] w' Q) := by
  refine AW_mono ((p_found hI ).go rfl) ?_
  rintro r w1 ⟨s, rfl, e98, e100, h2⟩
  rw [bW_law_1443]
  refine AW_mono h2 ?_
  rintro r' w2 ⟨rfl, hI2, f98, f100⟩
  rw [bW_law_1447]
  refine itL rfl ?_
  rw [hL.n6]
  exact ih w2 hI2 f98 f100
theorem lw_meet (hI : INV K w) (hk : K ≤ 800000000) (hL : LWc w x) (hs : ∀ i, in32 (w 100 i)) (ih : ∀ w2, INV (K + 2100) w2 → w2 98 = w 98 → w2 100 = w 100 → AW mW_law 18 [jR 100, jR 0, jR 45, jI (x + 6)] [] w2 Q) :
    AW mX_meet 0 [jR 0, jX, jX] [] w (fun r w' => AW mW_law 1456 [jR 100, jR 0, jR 45, jI x] [r] w' Q) := by
  refine AW_mono ((p_meet hI ).go rfl) ?_
  rintro r w1 ⟨s, rfl, e98, e100, h2⟩
  rw [bW_law_1456]
  refine AW_mono h2 ?_
  rintro r' w2 ⟨rfl, hI2, f98, f100⟩
  rw [bW_law_1460]
  refine itL rfl ?_
  rw [hL.n6]
  exact ih w2 hI2 f98 f100
theorem lw_judge (hI : INV K w) (hk : K ≤ 800000000) (hL : LWc w x) (hs : ∀ i, in32 (w 100 i)) (ih : ∀ w2, INV (K + 2100) w2 → w2 98 = w 98 → w2 100 = w 100 → AW mW_law 18 [jR 100, jR 0, jR 45, jI (x + 6)] [] w2 Q) :
    AW mX_judge 0 [jR 0, jI (w 100 (n32 (x + 1))), jI (w 100 (n32 (x + 2))), jI (w 100 (n32 (x + 3))), jX] [] w (fun r w' => AW mW_law 1484 [jR 100, jR 0, jR 45, jI x] [r] w' Q) := by
  refine AW_mono ((p_judge hI ).go rfl) ?_
  rintro r w1 ⟨s, rfl, e98, e100, h2⟩
  rw [bW_law_1484, e98, e100]
  refine itT (hL.b1) (itT (hL.b2) (itT (hL.b3) ?_))
  refine AW_mono h2 ?_
  rintro r' w2 ⟨rfl, hI2, f98, f100⟩
  rw [bW_law_1503]
  refine itL rfl ?_
  rw [hL.n6]
  exact ih w2 hI2 f98 f100
theorem lw_nears (hI : INV K w) (hk : K ≤ 800000000) (hL : LWc w x) (hs : ∀ i, in32 (w 100 i)) (ih : ∀ w2, INV (K + 2100) w2 → w2 98 = w 98 → w2 100 = w 100 → AW mW_law 18 [jR 100, jR 0, jR 45, jI (x + 6)] [] w2 Q) :
    AW mX_nears 0 [jR 0, jI (w 100 (n32 (x + 1))), jI (w 100 (n32 (x + 2))), jI (w 100 (n32 (x + 3))), jX, jX, jX, jX, jX] [] w (fun r w' => AW mW_law 1527 [jR 100, jR 0, jR 45, jI x] [r] w' Q) := by
  refine AW_mono ((p_nears hI ).go rfl) ?_
  rintro r w1 ⟨s, rfl, e98, e100, h2⟩
  rw [bW_law_1527, e98, e100]
  refine itT (hL.b1) (itT (hL.b2) (itT (hL.b3) ?_))
  refine AW_mono h2 ?_
  rintro r' w2 ⟨rfl, hI2, f98, f100⟩
  rw [bW_law_1546]
  refine itL rfl ?_
  rw [hL.n6]
  exact ih w2 hI2 f98 f100
theorem lw_done (hI : INV K w) (hk : K ≤ 800000000) (hL : LWc w x) (hs : ∀ i, in32 (w 100 i)) (ih : ∀ w2, INV (K + 2100) w2 → w2 98 = w 98 → w2 100 = w 100 → AW mW_law 18 [jR 100, jR 0, jR 45, jI (x + 6)] [] w2 Q) :
    AW mX_done 0 [jR 0, jI (w 100 (n32 (x + 1))), jI (w 100 (n32 (x + 2))), jI (w 100 (n32 (x + 3))), jX] [] w (fun r w' => AW mW_law 1570 [jR 100, jR 0, jR 45, jI x] [r] w' Q) := by
  refine AW_mono ((p_done hI ).go rfl) ?_
  rintro r w1 ⟨s, rfl, e98, e100, h2⟩
  rw [bW_law_1570, e98, e100]
  refine itT (hL.b1) (itT (hL.b2) (itT (hL.b3) ?_))
  refine AW_mono h2 ?_
  rintro r' w2 ⟨rfl, hI2, f98, f100⟩
  rw [bW_law_1589]
  refine itL rfl ?_
  rw [hL.n6]
  exact ih w2 hI2 f98 f100
theorem lw_goes (hI : INV K w) (hk : K ≤ 800000000) (hL : LWc w x) (hs : ∀ i, in32 (w 100 i)) (ih : ∀ w2, INV (K + 2100) w2 → w2 98 = w 98 → w2 100 = w 100 → AW mW_law 18 [jR 100, jR 0, jR 45, jI (x + 6)] [] w2 Q) :
    AW mX_goes 0 [jR 0, jI (w 100 (n32 (x + 1))), jI (w 100 (n32 (x + 2)))] [] w (fun r w' => AW mW_law 1608 [jR 100, jR 0, jR 45, jI x] [r] w' Q) := by
  refine AW_mono ((p_goes hI ).go rfl) ?_
  rintro r w1 ⟨s, rfl, e98, e100, h2⟩
  rw [bW_law_1608, e98, e100]
  refine itT (hL.b1) (itT (hL.b2) ?_)
  refine AW_mono h2 ?_
  rintro r' w2 ⟨rfl, hI2, f98, f100⟩
  rw [bW_law_1622]
  refine itL rfl ?_
  rw [hL.n6]
  exact ih w2 hI2 f98 f100
theorem lw_days (hI : INV K w) (hk : K ≤ 800000000) (hL : LWc w x) (hs : ∀ i, in32 (w 100 i)) (ih : ∀ w2, INV (K + 2100) w2 → w2 98 = w 98 → w2 100 = w 100 → AW mW_law 18 [jR 100, jR 0, jR 45, jI (x + 6)] [] w2 Q) :
    AW mX_days 0 [jR 0, jI (w 100 (n32 (x + 1))), jX] [] w (fun r w' => AW mW_law 1636 [jR 100, jR 0, jR 45, jI x] [r] w' Q) := by
  refine AW_mono ((p_days hI ).go rfl) ?_
  rintro r w1 ⟨s, rfl, e98, e100, h2⟩
  rw [bW_law_1636, e98, e100]
  refine itT (hL.b1) ?_
  refine AW_mono h2 ?_
  rintro r' w2 ⟨rfl, hI2, f98, f100⟩
  rw [bW_law_1645]
  refine itL rfl ?_
  rw [hL.n6]
  exact ih w2 hI2 f98 f100
theorem lw_seed (hI : INV K w) (hk : K ≤ 800000000) (hL : LWc w x) (hs : ∀ i, in32 (w 100 i)) (ih : ∀ w2, INV (K + 2100) w2 → w2 98 = w 98 → w2 100 = w 100 → AW mW_law 18 [jR 100, jR 0, jR 45, jI (x + 6)] [] w2 Q) :
    AW mX_seed 0 [jR 0, jI (w 100 (n32 (x + 1))), jX] [] w (fun r w' => AW mW_law 1659 [jR 100, jR 0, jR 45, jI x] [r] w' Q) := by
  refine AW_mono ((p_seed hI ).go rfl) ?_
  rintro r w1 ⟨s, rfl, e98, e100, h2⟩
  rw [bW_law_1659, e98, e100]
  refine itT (hL.b1) ?_
  refine AW_mono h2 ?_
  rintro r' w2 ⟨rfl, hI2, f98, f100⟩
  rw [bW_law_1668]
  refine itL rfl ?_
  rw [hL.n6]
  exact ih w2 hI2 f98 f100
theorem lw_image (hI : INV K w) (hk : K ≤ 800000000) (hL : LWc w x) (hs : ∀ i, in32 (w 100 i)) (ih : ∀ w2, INV (K + 2100) w2 → w2 98 = w 98 → w2 100 = w 100 → AW mW_law 18 [jR 100, jR 0, jR 45, jI (x + 6)] [] w2 Q) :
    AW mX_image 0 [jR 0] [] w (fun r w' => AW mW_law 1677 [jR 100, jR 0, jR 45, jI x] [r] w' Q) := by
  refine AW_mono ((p_image hI ).go rfl) ?_
  rintro r w1 ⟨s, rfl, e98, e100, h2⟩
  rw [bW_law_1677]
  refine AW_mono h2 ?_
  rintro r' w2 ⟨rfl, hI2, f98, f100⟩
  rw [bW_law_1681]
  refine itL rfl ?_
  rw [hL.n6]
  exact ih w2 hI2 f98 f100
theorem lw_back (hI : INV K w) (hk : K ≤ 800000000) (hL : LWc w x) (hs : ∀ i, in32 (w 100 i)) (ih : ∀ w2, INV (K + 2100) w2 → w2 98 = w 98 → w2 100 = w 100 → AW mW_law 18 [jR 100, jR 0, jR 45, jI (x + 6)] [] w2 Q) :
    AW mX_back 0 [jR 0] [] w (fun r w' => AW mW_law 1690 [jR 100, jR 0, jR 45, jI x] [r] w' Q) := by
  refine AW_mono ((p_back hI ).go rfl) ?_
  rintro r w1 ⟨s, rfl, e98, e100, h2⟩
  rw [bW_law_1690]
  refine AW_mono h2 ?_
  rintro r' w2 ⟨rfl, hI2, f98, f100⟩
  rw [bW_law_1694]
  refine itL rfl ?_
  rw [hL.n6]
  exact ih w2 hI2 f98 f100
theorem lw_status (hI : INV K w) (hk : K ≤ 800000000) (hL : LWc w x) (hs : ∀ i, in32 (w 100 i)) (ih : ∀ w2, INV (K + 2100) w2 → w2 98 = w 98 → w2 100 = w 100 → AW mW_law 18 [jR 100, jR 0, jR 45, jI (x + 6)] [] w2 Q) :
    AW mX_status 0 [jR 0, jI (w 100 (n32 (x + 1)))] [] w (fun r w' => AW mW_law 1708 [jR 100, jR 0, jR 45, jI x] [r] w' Q) := by
  refine AW_mono ((p_status hI (hs _)).go rfl) ?_
  rintro r w1 ⟨s, rfl, e98, e100, h2⟩
  rw [bW_law_1708, e98, e100]
  refine itT (hL.b1) ?_
  refine AW_mono h2 ?_
  rintro r' w2 ⟨rfl, hI2, f98, f100⟩
  rw [bW_law_1717]
  refine itL rfl ?_
  rw [hL.n6]
  exact ih w2 hI2 f98 f100
theorem lw_step (hI : INV K w) (hk : K ≤ 800000000) (hL : LWc w x) (hs : ∀ i, in32 (w 100 i)) (ih : ∀ K2 w2, K2 ≤ K + 2100 → INV K2 w2 → w2 98 = w 98 → w2 100 = w 100 → AW mW_law 18 [jR 100, jR 0, jR 45, jI (x + 6)] [] w2 Q) : AW mW_law 18 [jR 100, jR 0, jR 45, jI x] [] w Q := by
  have ih0 := ih K w (by omega) hI rfl rfl
  have ih : ∀ w2, INV (K + 2100) w2 → w2 98 = w 98 → w2 100 = w 100 → AW mW_law 18 [jR 100, jR 0, jR 45, jI (x + 6)] [] w2 Q := fun w2 => ih (K + 2100) w2 (by omega)
  rw [bW_law_18]
  refine itR (by obtain ⟨h1, h2, h3⟩ := hL; rw [n32s (by omega) (by omega)]; omega) (itT (by obtain ⟨h1, h2, h3⟩ := hL; omega) ?_)
  refine itP (fun _ => itT hL.b1 (itT hL.b2 (itT hL.b3 (lw_row hI hk hL hs ih)))) (fun _ => ?_)
  refine itP (fun _ => itT hL.b1 (itT hL.b2 (itT hL.b3 (itT hL.b4 (lw_set hI hk hL hs ih))))) (fun _ => ?_)
  refine itP (fun _ => itT hL.b1 (itT hL.b2 (itT hL.b3 (itT hL.b4 (itT hL.b5 (lw_copy hI hk hL hs ih)))))) (fun _ => ?_)
  refine itP (fun _ => itT hL.b1 (itT hL.b2 (lw_element hI hk hL hs ih))) (fun _ => ?_)
  refine itP (fun _ => itT hL.b1 (lw_holds hI hk hL hs ih)) (fun _ => ?_)
  refine itP (fun _ => itT hL.b1 (itT hL.b2 (lw_show hI hk hL hs ih))) (fun _ => ?_)
  refine itP (fun _ => itT hL.b1 (itT hL.b2 (lw_says hI hk hL hs ih))) (fun _ => ?_)
  refine itP (fun _ => itT hL.b1 (lw_side hI hk hL hs ih)) (fun _ => ?_)
  refine itP (fun _ => itT hL.b1 (itT hL.b2 (itP (fun hb => lw_bog hI hk hL hs hb ih) (fun hb => lw_bog1 hI hk hL hs hb ih)))) (fun _ => ?_)
  refine itP (fun _ => itT hL.b1 (lw_home hI hk hL hs ih)) (fun _ => ?_)
  refine itP (fun _ => itT hL.b1 (itT hL.b2 (itT hL.b3 (lw_post hI hk hL hs ih)))) (fun _ => ?_)
  refine itP (fun _ => itT hL.b1 (itT hL.b2 (lw_walker hI hk hL hs ih))) (fun _ => ?_)
  refine itP (fun _ => itT hL.b1 (itT hL.b2 (lw_sure hI hk hL hs ih))) (fun _ => ?_)
  refine itP (fun _ => itT hL.b1 (lw_feed hI hk hL hs ih)) (fun _ => ?_)
  refine itP (fun _ => lw_wipe hI hk hL hs ih) (fun _ => ?_)
  refine itP (fun _ => lw_fen hI hk hL hs ih) (fun _ => ?_)
  refine itP (fun _ => itT hL.b1 (itT hL.b2 (lw_postOf hI hk hL hs ih))) (fun _ => ?_)
  refine itP (fun _ => itT hL.b1 (itT hL.b2 (lw_walkerOf hI hk hL hs ih))) (fun _ => ?_)
  refine itP (fun _ => itT hL.b1 (lw_isBog hI hk hL hs ih)) (fun _ => ?_)
  refine itP (fun _ => itT hL.b1 (itT hL.b2 (lw_way hI hk hL hs ih))) (fun _ => ?_)
  refine itP (fun _ => itT hL.b1 (itT hL.b2 (lw_arm hI hk hL hs ih))) (fun _ => ?_)
  refine itP (fun _ => itT hL.b1 (itT hL.b2 (itT hL.b3 (lw_where hI hk hL hs ih)))) (fun _ => ?_)
  refine itP (fun _ => itT hL.b1 (itT hL.b2 (itT hL.b3 (lw_of hI hk hL hs ih)))) (fun _ => ?_)
  refine itP (fun _ => itT hL.b1 (itT hL.b2 (lw_kinds hI hk hL hs ih))) (fun _ => ?_)
  refine itP (fun _ => itT hL.b1 (lw_apart hI hk hL hs ih)) (fun _ => ?_)
  refine itP (fun _ => itT hL.b1 (lw_fewest hI hk hL hs ih)) (fun _ => ?_)
  refine itP (fun _ => lw_more hI hk hL hs ih) (fun _ => ?_)
  refine itP (fun _ => itT hL.b1 (itT hL.b2 (lw_armed hI hk hL hs ih))) (fun _ => ?_)
  refine itP (fun _ => itT hL.b1 (lw_alike hI hk hL hs ih)) (fun _ => ?_)
  refine itP (fun _ => itT hL.b1 (lw_right hI hk hL hs ih)) (fun _ => ?_)
  refine itP (fun _ => itT hL.b1 (lw_pointing hI hk hL hs ih)) (fun _ => ?_)
  refine itP (fun _ => lw_trembling hI hk hL hs ih) (fun _ => ?_)
  refine itP (fun _ => lw_bestPair hI hk hL hs ih) (fun _ => ?_)
  refine itP (fun _ => lw_idlest hI hk hL hs ih) (fun _ => ?_)
  refine itP (fun _ => itT hL.b1 (itT hL.b2 (lw_leads hI hk hL hs ih))) (fun _ => ?_)
  refine itP (fun _ => itT hL.b1 (itT hL.b2 (lw_reach hI hk hL hs ih))) (fun _ => ?_)
  refine itP (fun _ => itT hL.b1 (lw_open hI hk hL hs ih)) (fun _ => ?_)
  refine itP (fun _ => lw_parts hI hk hL hs ih) (fun _ => ?_)
  refine itP (fun _ => itT hL.b1 (lw_worst hI hk hL hs ih)) (fun _ => ?_)
  refine itP (fun _ => itT hL.b1 (itT hL.b2 (lw_path hI hk hL hs ih))) (fun _ => ?_)
  refine itP (fun _ => lw_found hI hk hL hs ih) (fun _ => ?_)
  refine itP (fun _ => lw_meet hI hk hL hs ih) (fun _ => ?_)
  refine itP (fun _ => itT hL.b1 (itT hL.b2 (itT hL.b3 (lw_judge hI hk hL hs ih)))) (fun _ => ?_)
  refine itP (fun _ => itT hL.b1 (itT hL.b2 (itT hL.b3 (lw_nears hI hk hL hs ih)))) (fun _ => ?_)
  refine itP (fun _ => itT hL.b1 (itT hL.b2 (itT hL.b3 (lw_done hI hk hL hs ih)))) (fun _ => ?_)
  refine itP (fun _ => itT hL.b1 (itT hL.b2 (lw_goes hI hk hL hs ih))) (fun _ => ?_)
  refine itP (fun _ => itT hL.b1 (lw_days hI hk hL hs ih)) (fun _ => ?_)
  refine itP (fun _ => itT hL.b1 (lw_seed hI hk hL hs ih)) (fun _ => ?_)
  refine itP (fun _ => lw_image hI hk hL hs ih) (fun _ => ?_)
  refine itP (fun _ => lw_back hI hk hL hs ih) (fun _ => ?_)
  refine itP (fun _ => itT hL.b1 (lw_status hI hk hL hs ih)) (fun _ => ?_)
  rw [hL.n6]
  exact ih0
end LW
theorem lw_run : ∀ (n : Nat) (x K : Int) (w : jW), INV K w → K + 2100 * n ≤ 800000000 → 0 ≤ x → x ≤ ((w 98 0).toNat : Int) → ((w 98 0).toNat : Int) ≤ 3072 → ((w 98 0).toNat : Int) - x < 6 * n → (∀ i, in32 (w 100 i)) → AW mW_law 18 [jR 100, jR 0, jR 45, jI x] [] w (fun r _ => r = jI 1)
  | 0, x, K, w, _, _, _, _, _, _, _ => by omega
  | n + 1, x, K, w, hI, hk, h0, hx, hN, hn, hs => by
    by_cases hc : ((w 98 0).toNat : Int) - 6 < x
    · rw [bW_law_18]
      exact itL (by rw [n32s (by omega) (by omega)]; exact hc) rfl
    · refine lw_step hI (by omega) ⟨h0, by omega, hN⟩ hs (fun K2 w2 hK2 hI2 f98 f100 => ?_)
      exact lw_run n (x + 6) K2 w2 hI2 (by omega) (by omega) (by rw [f98]; omega) (by rw [f98]; exact hN) (by rw [f98]; omega) (fun i => by rw [f100]; exact hs i)
/-- the law's loop from its head on answers true -/
theorem lw_all {w : jW} (hI : INV 0 w) (hN : ((w 98 0).toNat : Int) ≤ 3072) (hs : ∀ i, in32 (w 100 i)) : AW mW_law 18 [jR 100, jR 0, jR 45, jI 0] [] w (fun r _ => r = jI 1) :=
  lw_run 513 0 0 w hI (by omega) (by omega) (by omega) hN (by omega) hs
