theorem rv_uq (v : Nat → Int32) {n k : Nat} (hk : k < 9) (s : Int32) (m : Nat) : rv (uq v (9 * n + k) s) m = if m = n then uq (rv v n) k s else rv v m := by
  funext j
  unfold rv uq
  by_cases hm : m = n
  · subst hm
    rw [if_pos rfl]
    by_cases hj : j < 9
    · rw [if_pos hj]
      by_cases hjk : j = k
      · rw [if_pos (by omega), if_pos hjk]
      · rw [if_neg (by omega), if_neg hjk]
        exact (if_pos hj).symm
    · rw [if_neg hj, if_neg (by omega)]
      exact (if_neg hj).symm
  · rw [if_neg hm]
    by_cases hj : j < 9
    · rw [if_pos hj, if_neg (by omega), if_pos hj]
    · rw [if_neg hj, if_neg hj]
theorem nzF_uq (g : Nat → Int32) {k : Nat} (h : g k ≠ 0) : ∀ n, nzF (uq g k 0) n + (if k < n then 1 else 0) = nzF g n := by
  intro n
  induction n with
  | zero => rfl
  | succ n ih =>
    rw [nzF, nzF]
    by_cases hn : n = k
    · subst hn
      rw [if_neg (by omega)] at ih
      rw [uq_eq, if_pos rfl, if_pos (by omega), if_neg h]
      omega
    · rw [uq_ne _ _ hn]
      generalize (if g n = 0 then 0 else 1) = z
      by_cases hk : k < n
      · rw [if_pos hk] at ih
        rw [if_pos (by omega)]; omega
      · rw [if_neg hk] at ih
        rw [if_neg (by omega)]; omega
theorem nzF_0 (g : Nat → Int32) : ∀ n, nzF g n = 0 ↔ ∀ k, k < n → g k = 0 := by
  intro n
  induction n with
  | zero => exact ⟨fun _ k hk => by omega, fun _ => rfl⟩
  | succ n ih =>
    rw [nzF]
    constructor
    · intro h k hk
      by_cases hg : g n = 0
      · rw [if_pos hg] at h
        by_cases hkn : k = n
        · rw [hkn]; exact hg
        · exact (ih.mp (by omega)) k (by omega)
      · rw [if_neg hg] at h; omega
    · intro h
      rw [if_pos (h n (by omega)), ih.mpr (fun k hk => h k (by omega))]
theorem deg0 {g : Nat → Int32} : g (deg g) = 0 ↔ ¬ Nz g := by
  constructor
  · intro h hz; exact deg_ne hz h
  · intro h
    by_cases h0 : g (deg g) = 0
    · exact h0
    · exact absurd ⟨deg g, deg_lt g, h0⟩ h
/-- the row would be all 0 -/
theorem alone {g : Nat → Int32} {k : Nat} (hk : k < 9) (s : Int32) (hz : Nz g) : ¬ Nz (uq g k s) ↔ s = 0 ∧ g k ≠ 0 ∧ nzF g 9 = 1 := by
  constructor
  · intro h
    have hall : ∀ j, j < 9 → uq g k s j = 0 := fun j hj => by
      by_cases h0 : uq g k s j = 0
      · exact h0
      · exact absurd ⟨j, hj, h0⟩ h
    have hs : s = 0 := by have := hall k hk; rwa [uq_eq] at this
    have hg : g k ≠ 0 := by
      intro hg
      obtain ⟨j, hj, hj2⟩ := hz
      have := hall j hj
      by_cases hjk : j = k
      · rw [hjk] at hj2; exact hj2 hg
      · rw [uq_ne _ _ hjk] at this; exact hj2 this
    refine ⟨hs, hg, ?_⟩
    subst hs
    have := nzF_uq g hg 9
    rw [if_pos hk, (nzF_0 _ 9).mpr hall] at this
    exact this.symm
  · rintro ⟨rfl, hg, h1⟩ ⟨j, hj, hj2⟩
    have := nzF_uq g hg 9
    rw [if_pos hk, h1] at this
    exact hj2 ((nzF_0 _ 9).mp (by omega) j hj)
theorem okv_row {v : Nat → Int32} (h : OkV v) {n k : Nat} (hn : n < 5) (hk : k < 9) {s : Int32} (hs : sgn s) (hz : Nz (uq (rv v n) k s)) : OkV (uq v (9 * n + k) s) := by
  obtain ⟨h1, h2, h3, h4⟩ := h
  have ec : cnt (uq v (9 * n + k) s) = cnt v := by unfold cnt; rw [uq_ne _ _ (by omega)]
  refine ⟨fun i hi => ?_, fun m hm => ?_, ?_, fun i hi => ?_⟩
  · by_cases hik : i = 9 * n + k
    · rw [hik, uq_eq]; exact hs
    · rw [uq_ne _ _ hik]; exact h1 i hi
  · rw [rv_uq v hk]
    by_cases hmn : m = n
    · rw [if_pos hmn]; exact hz
    · rw [if_neg hmn]; exact h2 m hm
  · unfold OkC
    rw [ec, uq_ne _ _ (by omega)]; exact h3
  · rw [uq_ne _ _ (by omega)]; exact h4 i (by rw [← ec]; exact hi)
theorem okv_sc {v : Nat → Int32} (h : OkV v) {t : Nat} (ht : t = 54 ∨ t = 55) (x : Int32) : OkV (uq v t x) := by
  obtain ⟨h1, h2, h3, h4⟩ := h
  have ec : cnt (uq v t x) = cnt v := by unfold cnt; rw [uq_ne _ _ (by omega)]
  refine ⟨fun i hi => by rw [uq_ne _ _ (by omega)]; exact h1 i hi, fun m hm => ?_, ?_, fun i hi => ?_⟩
  · have e : rv (uq v t x) m = rv v m := by
      funext j
      unfold rv
      by_cases hj : j < 9
      · rw [if_pos hj, if_pos hj, uq_ne _ _ (by omega)]
      · rw [if_neg hj, if_neg hj]
    rw [e]; exact h2 m hm
  · unfold OkC
    rw [ec, uq_ne _ _ (by omega)]; exact h3
  · rw [uq_ne _ _ (by have := h3.1; omega)]; exact h4 i (by rw [← ec]; exact hi)
theorem rv_sc (v : Nat → Int32) {t : Nat} (ht : 45 ≤ t) (x : Int32) {m : Nat} (hm : m < 5) : rv (uq v t x) m = rv v m := by
  funext j
  unfold rv
  by_cases hj : j < 9
  · rw [if_pos hj, if_pos hj, uq_ne _ _ (by omega)]
  · rw [if_neg hj, if_neg hj]
/-- the class writes one sign -/
theorem rep_row {Mc : Mem} {v : Nat → Int32} (h : Rep Mc 1 v) {n k : Nat} (hn : n < 5) (hk : k < 9) (s : Int32) : Rep (setA Mc (1 + 2 + n) (uq (mI Mc (1 + 2 + n)) k s)) 1 (uq v (9 * n + k) s) := by
  obtain ⟨h1, h2, h3, h4, h5⟩ := h
  have ec : cnt (uq v (9 * n + k) s) = cnt v := by unfold cnt; rw [uq_ne _ _ (by omega)]
  refine ⟨fun m hm => ?_, by rw [mI_ne _ _ (by omega), uq_ne _ _ (by omega)]; exact h2, fun i hi => by rw [mI_ne _ _ (by omega), uq_ne _ _ (by omega)]; exact h3 i (by rw [← ec]; exact hi), by rw [mI_ne _ _ (by omega), uq_ne _ _ (by omega)]; exact h4, by rw [mI_ne _ _ (by omega), uq_ne _ _ (by omega)]; exact h5⟩
  rw [rv_uq v hk]
  by_cases hmn : m = n
  · rw [if_pos hmn, hmn, ← h1 n hn]
    funext j
    unfold rC uq
    by_cases hj : j < 9
    · rw [if_pos hj]
      show mI (setA Mc (1 + 2 + n) _) (1 + 2 + n) j = _
      rw [mI_eq]
      by_cases hjk : j = k
      · rw [if_pos hjk, if_pos hjk]
      · rw [if_neg hjk, if_neg hjk]
        exact (if_pos hj).symm
    · rw [if_neg hj, if_neg (by omega)]
      exact (if_neg hj).symm
  · rw [if_neg hmn, ← h1 m hm]
    unfold rC
    rw [mI_ne _ _ (by omega)]
/-- the class counts a refusal, or a taken one -/
theorem rep_sc {Mc : Mem} {v : Nat → Int32} (h : Rep Mc 1 v) (hc : cnt v ≤ 8) {f t : Nat} (hf : (f = 3 ∧ t = 54) ∨ (f = 4 ∧ t = 55)) (x : Int32) : Rep (setA Mc 1 (uq (mI Mc 1) f x)) 1 (uq v t x) := by
  obtain ⟨h1, h2, h3, h4, h5⟩ := h
  have ec : cnt (uq v t x) = cnt v := by unfold cnt; rw [uq_ne _ _ (by omega)]
  refine ⟨fun m hm => ?_, by rw [mI_eq, uq_ne _ _ (by omega), uq_ne _ _ (by omega)]; exact h2, fun i hi => ?_, ?_, ?_⟩
  · rw [rv_sc _ (by omega) _ hm, ← h1 m hm]
    unfold rC
    rw [mI_ne _ _ (by omega)]
  · rw [ec] at hi
    rw [mI_ne _ _ (by omega), uq_ne _ _ (by omega)]; exact h3 i hi
  · rcases hf with ⟨rfl, rfl⟩ | ⟨rfl, rfl⟩
    · rw [mI_eq, uq_eq, uq_eq]
    · rw [mI_eq, uq_ne _ _ (by decide), uq_ne _ _ (by decide)]; exact h4
  · rcases hf with ⟨rfl, rfl⟩ | ⟨rfl, rfl⟩
    · rw [mI_eq, uq_ne _ _ (by decide), uq_ne _ _ (by decide)]; exact h5
    · rw [mI_eq, uq_eq, uq_eq]
