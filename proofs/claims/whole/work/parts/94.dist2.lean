/-! distances for any kind of dryness -/
def Ds (D : Int → Prop) (s : Int) (f : Int → Int) : Prop :=
  (∀ c, c67 c → -1 ≤ f c ∧ f c ≤ 66) ∧ f s = 0 ∧ (∀ c, c67 c → f c = 0 → c = s) ∧
  (∀ c, c67 c → 0 < f c → D c ∧ ∃ d, c67 d ∧ adj d c ∧ f d = f c - 1) ∧
  (∀ c d, c67 c → 0 ≤ f c → adj c d → D d → 0 ≤ f d ∧ f d ≤ f c + 1)
section DA
variable {D : Int → Prop} {s t c : Int} {f g : Int → Int}
theorem Ds.le (hf : Ds D s f) (hg : Ds D s g) (m : Nat) : ∀ c, c67 c → f c = (m : Int) → 0 ≤ g c ∧ g c ≤ (m : Int) := by
  induction m with
  | zero =>
    intro c hc h
    have := hf.2.2.1 c hc h
    rw [this, hg.2.1]
    exact ⟨by omega, by omega⟩
  | succ m ih =>
    intro c hc h
    obtain ⟨hd, d, d67, ha, e⟩ := hf.2.2.2.1 c hc (by omega)
    have := ih d d67 (by omega)
    have := hg.2.2.2.2 d c d67 this.1 ha hd
    omega
theorem Ds.eq (hf : Ds D s f) (hg : Ds D s g) (hc : c67 c) : f c = g c := by
  have a := hf.1 c hc
  have b := hg.1 c hc
  by_cases h : 0 ≤ f c
  · have h1 := Ds.le hf hg (f c).toNat c hc (by omega)
    have h2 := Ds.le hg hf (g c).toNat c hc (by omega)
    omega
  · by_cases h' : 0 ≤ g c
    · have h2 := Ds.le hg hf (g c).toNat c hc (by omega)
      omega
    · omega
theorem Ds.back (hf : Ds D s f) (hg : Ds D t g) (hs : D s) (m : Nat) : ∀ c, c67 c → D c → f c = (m : Int) → 0 ≤ g c → 0 ≤ g s ∧ g s ≤ g c + (m : Int) := by
  induction m with
  | zero =>
    intro c hc hD h h0
    have := hf.2.2.1 c hc h
    rw [← this]
    exact ⟨h0, by omega⟩
  | succ m ih =>
    intro c hc hD h h0
    obtain ⟨_, d, d67, ha, e⟩ := hf.2.2.2.1 c hc (by omega)
    have Dd : D d := by
      by_cases q : f d = 0
      · rw [hf.2.2.1 d d67 q]; exact hs
      · exact (hf.2.2.2.1 d d67 (by omega)).1
    have a := hg.2.2.2.2 c d hc h0 ha.sym Dd
    have b := ih d d67 Dd (by omega) a.1
    omega
theorem Ds.sym (hf : Ds D s f) (hg : Ds D t g) (hs : D s) (ht : D t) (s67 : c67 s) (t67 : c67 t) : f t = g s := by
  have a := hf.1 t t67
  have b := hg.1 s s67
  have e := hf.2.1
  have e' := hg.2.1
  by_cases h : 0 ≤ f t
  · have h1 := Ds.back hf hg hs (f t).toNat t t67 ht (by omega) (by omega)
    have h2 := Ds.back hg hf ht (g s).toNat s s67 hs (by omega) (by omega)
    omega
  · by_cases h' : 0 ≤ g s
    · have h2 := Ds.back hg hf ht (g s).toNat s s67 hs (by omega) (by omega)
      omega
    · omega
end DA
/-- the distance -/
noncomputable def dis (D : Int → Prop) (s : Int) : Int → Int := Classical.epsilon (fun f => Ds D s f)
theorem Ds.tt {D : Int → Prop} {s : Int} {f : Int → Int} (h : Ds D s f) : Ds D s (dis D s) := Classical.epsilon_spec ⟨f, h⟩
theorem Ds.dq {D : Int → Prop} {s c : Int} {f : Int → Int} (h : Ds D s f) (hc : c67 c) : f c = dis D s c := Ds.eq h h.tt hc
/-! counting -/
def geI (f : Int → Int) (k : Int) : Int := if 0 ≤ f k then 1 else 0
theorem geI_in {f : Int → Int} {k : Int} : 0 ≤ geI f k ∧ geI f k ≤ 1 := by unfold geI; split <;> omega
theorem sm_geI {f : Int → Int} (m : Nat) : 0 ≤ sm (geI f) m ∧ sm (geI f) m ≤ m := by
  have := sm_in (f := geI f) (lo := 0) (hi := 1) m (fun _ _ _ => geI_in)
  omega
theorem sm_up {f : Int → Int} {x y : Int} (m : Nat) (hx : 0 ≤ x ∧ x < (m : Int)) (h1 : f x < 0) (h2 : 0 ≤ y) : sm (geI (up1 f x y)) m = sm (geI f) m + 1 := by
  induction m with
  | zero => omega
  | succ m ih =>
    rw [sm_s, sm_s]
    by_cases e : x = (m : Int)
    · have a : sm (geI (up1 f x y)) m = sm (geI f) m := sm_cg m (fun i q1 q2 => by unfold geI; rw [up1_n (by omega)])
      have b : geI (up1 f x y) (m : Int) = 1 := by unfold geI; rw [e, up1_s, if_pos h2]
      have d : geI f (m : Int) = 0 := by unfold geI; rw [← e, if_neg (by omega)]
      rw [a, b, d]; omega
    · have a := ih (by omega)
      have b : geI (up1 f x y) (m : Int) = geI f (m : Int) := by unfold geI; rw [up1_n (by omega)]
      rw [a, b]; omega
theorem sm_lt {f : Int → Int} {x : Int} (m : Nat) (hx : 0 ≤ x ∧ x < (m : Int)) (h1 : f x < 0) : sm (geI f) m + 1 ≤ m := by
  rw [← sm_up (y := 0) m hx h1 (by omega)]
  exact (sm_geI m).2
theorem sm_le {f g : Int → Int} (m : Nat) (h : ∀ i, 0 ≤ i → i < (m : Int) → f i ≤ g i) : sm f m ≤ sm g m := by
  induction m with
  | zero => exact Int.le_refl _
  | succ m ih =>
    rw [sm_s, sm_s]
    have a := ih (fun i q1 q2 => h i q1 (by omega))
    have b := h m (by omega) (by omega)
    omega
theorem sm_le1 {f g : Int → Int} {x : Int} (m : Nat) (h : ∀ i, 0 ≤ i → i < (m : Int) → f i ≤ g i) (hx : 0 ≤ x ∧ x < (m : Int)) (h1 : f x + 1 ≤ g x) : sm f m + 1 ≤ sm g m := by
  induction m with
  | zero => omega
  | succ m ih =>
    rw [sm_s, sm_s]
    by_cases e : x = (m : Int)
    · have a := sm_le m (f := f) (g := g) (fun i q1 q2 => h i q1 (by omega))
      rw [e] at h1
      omega
    · have a := ih (fun i q1 q2 => h i q1 (by omega)) (by omega)
      have b := h m (by omega) (by omega)
      omega
