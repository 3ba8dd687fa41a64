def rtok (x : Int32) : Prop := -9 ≤ x ∧ x ≤ 9
def OkV (v : Nat → Int32) : Prop := SgV v ∧ NzV v ∧ OkC v ∧ ∀ i, i < cnt v → rtok (v (46 + i))
def OkB (B : BS) : Prop := B.1 ≤ 6 ∧ (∀ j, j < B.1 → OkV (B.2.1 j)) ∧ (∀ s, s < 2 → (B.2.2.1 s = 0 ∨ B.2.2.1 s = 1) ∧ (B.2.2.1 s ≠ 0 → OkV (B.2.2.2.1 s))) ∧ B.2.2.2.2.1 ≤ 60
theorem OkV.cg {v w : Nat → Int32} (h : OkV v) (he : eqv v w) : OkV w := by
  obtain ⟨h1, h2, h3, h4⟩ := h
  refine ⟨fun i hi => by rw [← he i (by omega) (Or.inl (by omega))]; exact h1 i hi, fun n hn => by rw [← he.rv hn]; exact h2 n hn, ?_, fun i hi => ?_⟩
  · unfold OkC
    rw [← he.cnt, ← he 45 (by decide) (Or.inl (by decide))]; exact h3
  · rw [← he.cnt] at hi
    have := h3.1
    rw [← he (46 + i) (by omega) (Or.inr (Or.inr (by omega)))]
    exact h4 i hi
theorem eqv.refl (v : Nat → Int32) : eqv v v := fun _ _ _ => rfl
theorem eqv.of {v w : Nat → Int32} (h : ∀ i, i < 56 → v i = w i) : eqv v w := fun i hi _ => h i hi
theorem OkB.sav {B : BS} {v : Nat → Int32} (h : OkB B) (hv : OkV v) : OkB (savB B v) := by
  obtain ⟨h1, h2, h3⟩ := h
  refine ⟨?_, fun j hj => ?_, h3⟩
  · show min B.1 5 + 1 ≤ 6; omega
  · show OkV (svd B.1 B.2.1 v j)
    have hj2 : j < min B.1 5 + 1 := hj
    unfold svd
    by_cases hj3 : j = min B.1 5
    · rw [if_pos hj3]; exact hv
    · rw [if_neg hj3]
      by_cases h6 : B.1 = 6
      · rw [if_pos h6]; exact h2 _ (by omega)
      · rw [if_neg h6]; exact h2 _ (by omega)
theorem lt_i {x y : Int32} : x < y ↔ x.toInt < y.toInt := Int32.lt_iff_toInt_lt
theorem le_i {x y : Int32} : x ≤ y ↔ x.toInt ≤ y.toInt := Int32.le_iff_toInt_le
theorem in_range (x : Int32) {N : Nat} (hN : N < 2 ^ 31) : (¬ (0 ≤ x ∧ x ≤ nI N - 1) ∧ (x < 0 ∨ nI N ≤ x)) ∨ ∃ n, n < N ∧ x = nI n := by
  rcases pk_ix x hN with h | h | h
  · exact Or.inl ⟨fun q => by rw [lt_i] at h; have := le_i.mp q.1; omega, Or.inl h⟩
  · refine Or.inl ⟨fun q => ?_, Or.inr h⟩
    have h1 := le_i.mp h
    rw [nI_toInt hN] at h1
    cases N with
    | zero =>
      have h2 := le_i.mp q.2
      rw [show nI 0 - 1 = (-1 : Int32) by decide, show (-1 : Int32).toInt = -1 by decide] at h2
      have h3 := le_i.mp q.1
      rw [show (0 : Int32).toInt = 0 by decide] at h3
      omega
    | succ N =>
      rw [nI_pred] at q
      have h2 := le_i.mp q.2
      rw [nI_toInt (by omega)] at h2
      omega
  · exact Or.inr h
