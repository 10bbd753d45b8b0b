/-! tokens -/
abbrev letB (x : Int) : Prop := 97 ≤ x ∧ x ≤ 122
abbrev digB (x : Int) : Prop := 48 ≤ x ∧ x ≤ 57
def skR (b : Int → Int) (n : Int) : Nat → Int → Int
  | 0, i => i
  | m + 1, i => if b i = 32 then skR b n m (i + 1) else i
def rlR (b : Int → Int) : Nat → Int → Int
  | 0, i => i
  | m + 1, i => if letB (b i) then rlR b m (i + 1) else i
def rdD (b : Int → Int) : Nat → Int → Int
  | 0, i => i
  | m + 1, i => if digB (b i) then rdD b m (i + 1) else i
theorem skR_y {b : Int → Int} {n i : Int} {m : Nat} (h : b i = 32) : skR b n (m + 1) i = skR b n m (i + 1) := if_pos h
theorem skR_n {b : Int → Int} {n i : Int} {m : Nat} (h : ¬ b i = 32) : skR b n (m + 1) i = i := if_neg h
theorem rlR_y {b : Int → Int} {i : Int} {m : Nat} (h : letB (b i)) : rlR b (m + 1) i = rlR b m (i + 1) := if_pos h
theorem rlR_n {b : Int → Int} {i : Int} {m : Nat} (h : ¬ letB (b i)) : rlR b (m + 1) i = i := if_neg h
theorem rdD_y {b : Int → Int} {i : Int} {m : Nat} (h : digB (b i)) : rdD b (m + 1) i = rdD b m (i + 1) := if_pos h
theorem rdD_n {b : Int → Int} {i : Int} {m : Nat} (h : ¬ digB (b i)) : rdD b (m + 1) i = i := if_neg h
theorem skR_in {b : Int → Int} {n : Int} (m : Nat) : ∀ i, i + (m : Int) = n → i ≤ skR b n m i ∧ skR b n m i ≤ n ∧ (skR b n m i < n → b (skR b n m i) ≠ 32) := by
  induction m with
  | zero => intro i h; show i ≤ i ∧ i ≤ n ∧ (i < n → b i ≠ 32); exact ⟨by omega, by omega, fun t => by omega⟩
  | succ m ih =>
    intro i h
    by_cases c : b i = 32
    · rw [skR_y c]
      have := ih (i + 1) (by omega)
      exact ⟨by omega, this.2.1, this.2.2⟩
    · rw [skR_n c]; exact ⟨by omega, by omega, fun _ => c⟩
theorem rlR_in {b : Int → Int} {n : Int} (m : Nat) : ∀ i, i + (m : Int) = n → i ≤ rlR b m i ∧ rlR b m i ≤ n := by
  induction m with
  | zero => intro i h; show i ≤ i ∧ i ≤ n; omega
  | succ m ih =>
    intro i h
    by_cases c : letB (b i)
    · rw [rlR_y c]; have := ih (i + 1) (by omega); omega
    · rw [rlR_n c]; omega
theorem rdD_in {b : Int → Int} {n : Int} (m : Nat) : ∀ i, i + (m : Int) = n → i ≤ rdD b m i ∧ rdD b m i ≤ n ∧ ∀ j, i ≤ j → j < rdD b m i → digB (b j) := by
  induction m with
  | zero => intro i h; show i ≤ i ∧ i ≤ n ∧ ∀ j, i ≤ j → j < i → digB (b j); exact ⟨by omega, by omega, fun j p q => by omega⟩
  | succ m ih =>
    intro i h
    by_cases c : digB (b i)
    · rw [rdD_y c]
      have := ih (i + 1) (by omega)
      refine ⟨by omega, by omega, fun j p q => ?_⟩
      by_cases z : j = i
      · rw [z]; exact c
      · exact this.2.2 j (by omega) q
    · rw [rdD_n c]; exact ⟨by omega, by omega, fun j p q => by omega⟩
/-- where the next token begins, where it ends -/
def tkS (b : Int → Int) (n e : Int) : Int := skR b n (n - e).toNat e
def tkE (b : Int → Int) (n e : Int) : Int := if tkS b n e < n then (if letB (b (tkS b n e)) then rlR b (n - (tkS b n e + 1)).toNat (tkS b n e + 1) else if digB (b (tkS b n e)) then rdD b (n - (tkS b n e + 1)).toNat (tkS b n e + 1) else tkS b n e + 1) else n
theorem tkS_in {b : Int → Int} {n e : Int} (h : e ≤ n) : e ≤ tkS b n e ∧ tkS b n e ≤ n ∧ (tkS b n e < n → b (tkS b n e) ≠ 32) := skR_in _ e (by omega)
theorem tkE_in {b : Int → Int} {n e : Int} (h : e ≤ n) : tkS b n e ≤ tkE b n e ∧ tkE b n e ≤ n ∧ (tkS b n e < n → tkS b n e < tkE b n e) := by
  have s := tkS_in (b := b) h
  unfold tkE
  by_cases c : tkS b n e < n
  · rw [if_pos c]
    have l := rlR_in (b := b) (n := n) (n - (tkS b n e + 1)).toNat (tkS b n e + 1) (by omega)
    have d := rdD_in (b := b) (n := n) (n - (tkS b n e + 1)).toNat (tkS b n e + 1) (by omega)
    split
    · omega
    · split <;> omega
  · rw [if_neg c]; omega
def tkW (w : jW) (s e : Int) : jW := jup (jup w 26 1 s) 26 2 e
section TK
variable {w u v : jW} {Q : jV → jW → Prop} {K i s e x : Int}
theorem tkW_n {o : Nat} (h : o ≠ 26) : tkW w s e o = w o := by unfold tkW; rw [jupn h, jupn h]
theorem tkW_0 : tkW w s e 26 0 = w 26 0 := by unfold tkW; rw [jups, up1_n (by omega), jups, up1_n (by omega)]
theorem tkW_1 : tkW w s e 26 1 = s := by unfold tkW; rw [jups, up1_n (by omega), jups, up1_s]
theorem tkW_2 : tkW w s e 26 2 = e := by unfold tkW; rw [jups, up1_s]
theorem jup_jup {o : Nat} {k a b : Int} : jup (jup w o k a) o k b = jup w o k b := by
  funext p
  by_cases h : p = o
  · rw [h, jups, jups, jups]
    funext j
    unfold up1
    split <;> rfl
  · rw [jupn h, jupn h, jupn h]
theorem jup_cm {o : Nat} {k l a b : Int} (h : k ≠ l) : jup (jup w o k a) o l b = jup (jup w o l b) o k a := by
  funext p
  by_cases q : p = o
  · rw [q, jups, jups, jups, jups]
    funext j
    unfold up1
    by_cases c : j = l
    · rw [if_pos c, if_neg (by omega), if_pos c]
    · by_cases c2 : j = k
      · rw [if_neg c, if_pos c2, if_pos c2]
      · rw [if_neg c, if_neg c2, if_neg c2, if_neg c]
  · rw [jupn q, jupn q, jupn q, jupn q]
theorem tkW_s : jup (tkW w s e) 26 1 x = tkW w x e := by unfold tkW; rw [jup_cm (by omega), jup_jup, jup_cm (by omega)]
theorem tkW_e : jup (tkW w s e) 26 2 x = tkW w s x := by unfold tkW; rw [jup_jup]
theorem tkW_eq : tkW w (w 26 1) (w 26 2) = w := by unfold tkW; rw [jup_same rfl, jup_same rfl]
theorem tkW_tkW {s2 e2 : Int} : tkW (tkW w s e) s2 e2 = tkW w s2 e2 := by
  show jup (jup (tkW w s e) 26 1 s2) 26 2 e2 = _
  rw [tkW_s, tkW_e]
theorem sT_byteAt (h : w 26 0 ≤ 250) : AW mT_byteAt 0 [jR 26, jI x] [] w Q = Q (jI (if 0 ≤ x ∧ x < w 26 0 then w 27 x else -1)) w := by
  rw [bT_byteAt_0]
  by_cases c : x < 0
  · rw [if_pos c, if_neg (by omega)]
  · rw [if_neg c]
    by_cases c2 : x < w 26 0
    · rw [if_pos c2, if_pos (by omega), if_pos (by omega)]
    · rw [if_neg c2, if_neg (by omega)]
theorem sT_let : AW mT_isLetter 0 [jI x] [] w Q = Q (jI (jb (letB x))) w := by
  rw [bT_isLetter_0]
  repeat' split
  all_goals first | rw [jb_pos (by unfold letB; omega)] | rw [jb_neg (by unfold letB; omega)]
theorem sT_dig : AW mT_isDigit 0 [jI x] [] w Q = Q (jI (jb (digB x))) w := by
  rw [bT_isDigit_0]
  repeat' split
  all_goals first | rw [jb_pos (by unfold digB; omega)] | rw [jb_neg (by unfold digB; omega)]
theorem sM_let : AW mM_isLetter 0 [jI x] [] w Q = Q (jI (jb (letB x))) w := by
  rw [bM_isLetter_0]
  repeat' split
  all_goals first | rw [jb_pos (by unfold letB; omega)] | rw [jb_neg (by unfold letB; omega)]
theorem sM_dig : AW mM_isDigit 0 [jI x] [] w Q = Q (jI (jb (digB x))) w := by
  rw [bM_isDigit_0]
  repeat' split
  all_goals first | rw [jb_pos (by unfold digB; omega)] | rw [jb_neg (by unfold digB; omega)]
theorem sT_76 (h : w 26 0 ≤ 250) (m : Nat) : ∀ j, j + (m : Int) = w 26 0 → 0 ≤ j → AW mT_takeToken 76 [jR 26] [] (tkW w s j) Q = Q (jI 0) (tkW w s (rlR (w 27) m j)) := by
  induction m with
  | zero =>
    intro j hj h0
    rw [bT_takeToken_76, tkW_2, tkW_0, if_neg (by omega)]
    rfl
  | succ m ih =>
    intro j hj h0
    rw [bT_takeToken_76, tkW_2, tkW_0, if_pos (by omega), sT_byteAt (by rw [tkW_0]; exact h), bT_takeToken_95, tkW_0, tkW_n (by omega), if_pos (by omega), sT_let, bT_takeToken_98, jb_ite, tkW_2, tkW_e, n32s (x := j + 1) (by omega) (by omega)]
    by_cases c : letB (w 27 j)
    · rw [if_pos c, rlR_y c]; exact ih (j + 1) (by omega) (by omega)
    · rw [if_neg c, rlR_n c]
theorem sT_128 (h : w 26 0 ≤ 250) (m : Nat) : ∀ j, j + (m : Int) = w 26 0 → 0 ≤ j → AW mT_takeToken 128 [jR 26] [] (tkW w s j) Q = Q (jI 0) (tkW w s (rdD (w 27) m j)) := by
  induction m with
  | zero =>
    intro j hj h0
    rw [bT_takeToken_128, tkW_2, tkW_0, if_neg (by omega)]
    rfl
  | succ m ih =>
    intro j hj h0
    rw [bT_takeToken_128, tkW_2, tkW_0, if_pos (by omega), sT_byteAt (by rw [tkW_0]; exact h), bT_takeToken_147, tkW_0, tkW_n (by omega), if_pos (by omega), sT_dig, bT_takeToken_150, jb_ite, tkW_2, tkW_e, n32s (x := j + 1) (by omega) (by omega)]
    by_cases c : digB (w 27 j)
    · rw [if_pos c, rdD_y c]; exact ih (j + 1) (by omega) (by omega)
    · rw [if_neg c, rdD_n c]
/-- behind the blanks -/
theorem sT_tail (h : w 26 0 ≤ 250) (hs : 0 ≤ s ∧ s ≤ w 26 0) : AW mT_byteAt 0 [jR 26, jI s] [] (tkW w s (jmin (n32 (s + 1)) (w 26 0))) (fun r w' => AW mT_takeToken 70 [jR 26] [r] w' Q) =
    Q (jI 0) (tkW w s (if s < w 26 0 then (if letB (w 27 s) then rlR (w 27) (w 26 0 - (s + 1)).toNat (s + 1) else if digB (w 27 s) then rdD (w 27) (w 26 0 - (s + 1)).toNat (s + 1) else s + 1) else w 26 0)) := by
  rw [sT_byteAt (by rw [tkW_0]; exact h), bT_takeToken_70, sT_let, bT_takeToken_73, jb_ite, tkW_0, tkW_n (by omega), n32s (x := s + 1) (by omega) (by omega), tkW_1, sT_byteAt (by rw [tkW_0]; exact h), bT_takeToken_122, sT_dig, bT_takeToken_125, jb_ite, tkW_0, tkW_n (by omega)]
  unfold jmin
  by_cases c : s < w 26 0
  · rw [if_pos c, if_pos (by omega : 0 ≤ s ∧ s < w 26 0), if_neg (by omega : ¬ w 26 0 < s + 1)]
    by_cases l : letB (w 27 s)
    · rw [if_pos l, if_pos l]; exact sT_76 h _ (s + 1) (by omega) (by omega)
    · rw [if_neg l, if_neg l]
      by_cases d : digB (w 27 s)
      · rw [if_pos d, if_pos d]; exact sT_128 h _ (s + 1) (by omega) (by omega)
      · rw [if_neg d, if_neg d]
  · have e1 : ¬ letB (-1) := by unfold letB; omega
    have e2 : ¬ digB (-1) := by unfold digB; omega
    rw [if_neg c, if_neg (by omega : ¬ (0 ≤ s ∧ s < w 26 0)), if_pos (by omega : w 26 0 < s + 1), if_neg e1, if_neg e2]
theorem sT_8 (h : w 26 0 ≤ 250) {e0 : Int} (m : Nat) : ∀ s, s + (m : Int) = w 26 0 → 0 ≤ s → (skR (w 27) (w 26 0) m s = tkS (w 27) (w 26 0) e0) → AW mT_takeToken 8 [jR 26] [] (tkW w s e) Q = Q (jI 0) (tkW w (tkS (w 27) (w 26 0) e0) (tkE (w 27) (w 26 0) e0)) := by
  induction m with
  | zero =>
    intro s hs h0 hk
    have hk' : s = tkS (w 27) (w 26 0) e0 := hk
    rw [bT_takeToken_8, tkW_1, tkW_0, if_neg (by omega), tkW_e, sT_tail h ⟨h0, by omega⟩, hk']
    rfl
  | succ m ih =>
    intro s hs h0 hk
    rw [bT_takeToken_8, tkW_1, tkW_0, if_pos (by omega), sT_byteAt (by rw [tkW_0]; exact h), bT_takeToken_27, tkW_0, tkW_n (by omega), if_pos (by omega : 0 ≤ s ∧ s < w 26 0), tkW_1, tkW_s, n32s (x := s + 1) (by omega) (by omega)]
    by_cases c : w 27 s = 32
    · rw [skR_y c] at hk
      rw [if_pos c]; exact ih (s + 1) (by omega) (by omega) hk
    · rw [skR_n c] at hk
      have t := sT_tail (Q := Q) h (s := s) ⟨h0, by omega⟩
      rw [n32s (x := s + 1) (by omega) (by omega)] at t
      rw [if_neg c, tkW_e, t, hk]
      rfl
theorem sT_token (h : 0 ≤ w 26 0 ∧ w 26 0 ≤ 250) (he : 0 ≤ w 26 2 ∧ w 26 2 ≤ w 26 0) : AW mT_takeToken 0 [jR 26] [] w Q = Q (jI 0) (tkW w (tkS (w 27) (w 26 0) (w 26 2)) (tkE (w 27) (w 26 0) (w 26 2))) := by
  have e : jup w 26 1 (w 26 2) = tkW w (w 26 2) (w 26 2) := by unfold tkW; rw [jup_cm (by omega), jup_same rfl]
  rw [bT_takeToken_0, e]
  exact sT_8 h.2 (e0 := w 26 2) _ (w 26 2) (by omega) he.1 rfl
end TK
