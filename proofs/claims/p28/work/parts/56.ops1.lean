theorem in_r (x : Int32) {N : Nat} (hN : N + 1 < 2 ^ 31) : x < 0 ∨ (¬ x < 0 ∧ ¬ x < nI (N + 1) ∧ ¬ x ≤ nI N ∧ nI N < x) ∨ ∃ n, n < N + 1 ∧ x = nI n := by
  rcases pk_ix x hN with h | h | h
  · exact Or.inl h
  · refine Or.inr (Or.inl ?_)
    have h1 := le_i.mp h
    rw [nI_toInt hN] at h1
    have e0 : (0 : Int32).toInt = 0 := by decide
    have e1 : (nI N).toInt = (N : Int) := nI_toInt (by omega)
    refine ⟨fun q => ?_, fun q => ?_, fun q => ?_, ?_⟩
    · have := lt_i.mp q; omega
    · have := lt_i.mp q; rw [nI_toInt hN] at this; omega
    · have := le_i.mp q; omega
    · rw [lt_i]; omega
  · exact Or.inr (Or.inr h)
