theorem adj.sym {c d : Int} (h : adj c d) : adj d c := by
  obtain ⟨k, h1, h2, h3⟩ := h
  have : k = 1 ∨ k = 2 ∨ k = 3 ∨ k = 4 := by omega
  rcases this with rfl | rfl | rfl | rfl
  · exact ⟨2, by omega, by omega, by rw [jcmd1] at h3; rw [jcmd2]; omega⟩
  · exact ⟨1, by omega, by omega, by rw [jcmd2] at h3; rw [jcmd1]; omega⟩
  · exact ⟨4, by omega, by omega, by rw [jcmd3] at h3; rw [jcmd4]; omega⟩
  · exact ⟨3, by omega, by omega, by rw [jcmd4] at h3; rw [jcmd3]; omega⟩
