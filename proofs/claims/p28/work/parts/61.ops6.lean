def cpV (v : Nat → Int32) (n m : Nat) : Nat → Int32 := bq v (9 * m) 9 (rv v n)
theorem rv_cp (v : Nat → Int32) {n m : Nat} (t : Nat) : rv (cpV v n m) t = if t = m then rv v n else rv v t := by
  funext j
  unfold cpV
  by_cases ht : t = m
  · rw [if_pos ht, ht]
    by_cases hj : j < 9
    · rw [rv_lt _ _ hj, bq_in _ _ _ _ hj]
    · rw [rv_9 _ _ (by omega), rv_9 _ _ (by omega)]
  · rw [if_neg ht]
    by_cases hj : j < 9
    · rw [rv_lt _ _ hj, rv_lt _ _ hj, bq_out _ _ _ _ (by omega)]
    · rw [rv_9 _ _ (by omega), rv_9 _ _ (by omega)]
theorem blk_hi (v : Nat → Int32) {m i : Nat} (hm : m < 5) (f : Nat → Int32) (hi : 45 ≤ i) : bq v (9 * m) 9 f i = v i := bq_out _ _ _ _ (by omega)
theorem okv_blk {v : Nat → Int32} (h : OkV v) {m : Nat} (hm : m < 5) {f : Nat → Int32} (hs : ∀ i, i < 9 → sgn (f i)) (hz : ∃ k, k < 9 ∧ f k ≠ 0) : OkV (bq v (9 * m) 9 f) := by
  obtain ⟨h1, h2, h3, h4⟩ := h
  have ec : cnt (bq v (9 * m) 9 f) = cnt v := by unfold cnt; rw [blk_hi v hm f (by decide)]
  refine ⟨fun i hi => ?_, fun t ht => ?_, ?_, fun i hi => ?_⟩
  · unfold bq
    by_cases hb : 9 * m ≤ i ∧ i < 9 * m + 9
    · rw [if_pos hb]; exact hs _ (by omega)
    · rw [if_neg hb]; exact h1 i hi
  · by_cases htm : t = m
    · obtain ⟨k, hk, hk2⟩ := hz
      refine ⟨k, hk, ?_⟩
      rw [rv_lt _ _ hk, htm, bq_in _ _ _ _ hk]; exact hk2
    · obtain ⟨k, hk, hk2⟩ := h2 t ht
      refine ⟨k, hk, ?_⟩
      rw [rv_lt _ _ hk] at hk2
      rw [rv_lt _ _ hk, bq_out _ _ _ _ (by omega)]; exact hk2
  · unfold OkC
    rw [ec, blk_hi v hm f (by decide)]; exact h3
  · rw [blk_hi v hm f (by omega)]; exact h4 i (by rw [← ec]; exact hi)
/-- a whole row of the state is written -/
theorem rep_blk {Mc M2 : Mem} {v : Nat → Int32} (h : Rep Mc 1 v) {m : Nat} (hm : m < 5) (f : Nat → Int32) (hf : Fr (fun b => b = 1 + 2 + m) Mc M2) (hr : ∀ k, k < 9 → mI M2 (1 + 2 + m) k = f k) : Rep M2 1 (bq v (9 * m) 9 f) := by
  obtain ⟨h1, h2, h3, h4, h5⟩ := h
  have ec : cnt (bq v (9 * m) 9 f) = cnt v := by unfold cnt; rw [blk_hi v hm f (by decide)]
  have e1 : mI M2 1 = mI Mc 1 := hf.2.2.2.2 1 (by omega)
  refine ⟨fun t ht => ?_, by rw [e1, blk_hi v hm f (by decide)]; exact h2, fun i hi => by rw [hf.2.2.2.2 _ (by omega), blk_hi v hm f (by omega)]; exact h3 i (by rw [← ec]; exact hi), by rw [e1, blk_hi v hm f (by decide)]; exact h4, by rw [e1, blk_hi v hm f (by decide)]; exact h5⟩
  by_cases htm : t = m
  · rw [htm]
    funext j
    by_cases hj : j < 9
    · rw [rv_lt _ _ hj, bq_in _ _ _ _ hj, rC, if_pos hj, hr j hj]
    · rw [rv_9 _ _ (by omega), rC, if_neg hj]
  · rw [rC_fr hf (by omega), h1 t ht]
    funext j
    by_cases hj : j < 9
    · rw [rv_lt _ _ hj, rv_lt _ _ hj, bq_out _ _ _ _ (by omega)]
    · rw [rv_9 _ _ (by omega), rv_9 _ _ (by omega)]
