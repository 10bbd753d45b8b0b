section SZ
variable {w v u : jW} {Q : jV → jW → Prop} {K x y z a b c d e n p k : Int}
/-- whether one can go there -/
abbrev canB (v : jW) (c k : Int) : Prop := k = 0 ∨ dryB (v 1 0) (v 2) (c + jcmd k)
theorem VM.can (h : VM w v) (hc : cellB (v 1 0) c) (hk : 0 ≤ k ∧ k ≤ 4) : AW mM_can 0 [jR 45, jI c, jI k] [] w Q = Q (jI (jb (canB v c k))) w := by
  have kk := h.wk
  have e := h.eq.1
  rw [bM_can_0]
  by_cases k0 : k = 0
  · rw [if_pos k0, jb_pos (Or.inl k0)]
  · rw [if_neg k0, sM_beside (by omega) (by rw [e]; exact hc) (by omega), bM_can_10, e]
    unfold besR
    by_cases q : cellB (v 1 0) (c + jcmd k)
    · have q67 := cell67 kk.2.2.2 q
      have q0 := q.1
      have eb := h.2.2.1 _ q.1 q67
      rw [if_pos q, if_neg (by omega), sM_beside (by omega) (by rw [e]; exact hc) (by omega), bM_can_24, e]
      unfold besR
      rw [if_pos q, if_pos (by omega), eb]
      by_cases z : v 2 (c + jcmd k) = 0
      · rw [if_pos z, jb_pos (Or.inr ⟨q, z⟩)]
      · rw [if_neg z, jb_neg (fun t => t.elim k0 (fun t => z t.2))]
    · rw [if_neg q, if_pos rfl, jb_neg (fun t => t.elim k0 (fun t => q t.1))]
end SZ
