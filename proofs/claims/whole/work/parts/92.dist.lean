/-! distances: what both measures must say -/
/-- next to one another by a command -/
def adj (c d : Int) : Prop := ∃ k, 1 ≤ k ∧ k ≤ 4 ∧ d = c + jcmd k
/-- f says of each cell how far it is from s (-1: not reached) -/
def Dst (n : Int) (bg : Int → Int) (s : Int) (f : Int → Int) : Prop :=
  (∀ c, c67 c → -1 ≤ f c) ∧ f s = 0 ∧ (∀ c, c67 c → f c = 0 → c = s) ∧
  (∀ c, c67 c → 0 < f c → dryB n bg c ∧ ∃ d, c67 d ∧ adj d c ∧ f d = f c - 1) ∧
  (∀ c d, c67 c → 0 ≤ f c → adj c d → dryB n bg d → 0 ≤ f d ∧ f d ≤ f c + 1)
theorem Dst.le {n s : Int} {bg f g : Int → Int} (hn : n ≤ 7) (hs : c67 s) (hf : Dst n bg s f) (hg : Dst n bg s g) (m : Nat) : ∀ c, c67 c → f c = (m : Int) → 0 ≤ g c ∧ g c ≤ (m : Int) := by
  induction m with
  | zero =>
    intro c hc h
    have := hf.2.2.1 c hc h
    rw [this, hg.2.1]
    exact ⟨by omega, by omega⟩
  | succ m ih =>
    intro c hc h
    obtain ⟨hd, d, d67, ha, e⟩ := hf.2.2.2.1 c hc (by omega)
    have := ih d d67 (by omega)
    have := hg.2.2.2.2 d c d67 this.1 ha hd
    omega
theorem Dst.eq {n s : Int} {bg f g : Int → Int} (hn : n ≤ 7) (hs : c67 s) (hf : Dst n bg s f) (hg : Dst n bg s g) (c : Int) (hc : c67 c) : f c = g c := by
  have a := hf.1 c hc
  have b := hg.1 c hc
  by_cases h : 0 ≤ f c
  · have h1 := Dst.le hn hs hf hg (f c).toNat c hc (by omega)
    have h2 := Dst.le hn hs hg hf (g c).toNat c hc (by omega)
    omega
  · by_cases h' : 0 ≤ g c
    · have h2 := Dst.le hn hs hg hf (g c).toNat c hc (by omega)
      omega
    · omega
