theorem len_0 {g : Nat → Int32} (hs : SgR g) (hz : Nz g) {r : Int32} (hr : sgn r) : (nI (quo g r).length = 0) ↔ cntd g r = 0 := by
  have hlen : (quo g r).length < 2 ^ 31 := by
    have hd := deg_lt g
    have h1 : (quo g r).length ≤ (allS (deg g)).length := by
      unfold quo
      rw [show seg g 0 (deg g + 1) = g 0 :: seg g (0 + 1) (deg g) from rfl, qE_all, seg_len]
      exact List.length_filter_le _ _
    rw [← dig_all, List.length_map, List.length_range] at h1
    have := p3 _ hd
    omega
  rw [← (quo_facts hs hz hr).2.1]
  rw [show (nI (quo g r).length = 0) ↔ (quo g r).length = 0 from nI_eq (b := 0) hlen (by decide)]
  exact List.length_eq_zero_iff
theorem cnt_0 {g : Nat → Int32} (hs : SgR g) (hz : Nz g) {r : Int32} (hr : sgn r) : (nI (cntd g r) = 0) ↔ cntd g r = 0 := nI_eq (b := 0) (by have := cntd_le hs hz hr; have := deg_lt g; omega) (by decide)
theorem best_ok {g : Nat → Int32} (hs : SgR g) (hz : Nz g) {r : Int32} (hr : sgn r) (h : cntd g r ≠ 0) : (∀ i, i < 9 → sgn (lrow (bst r (quo g r)).2 i)) ∧ ∃ k, k < 9 ∧ lrow (bst r (quo g r)).2 k ≠ 0 := by
  obtain ⟨h1, h2, h3⟩ := quo_facts hs hz hr
  rcases fold_mem r (quo g r) (0, []) with hm | hm
  · exfalso
    have : (bst r (quo g r)).1 = 0 := by unfold bst; rw [hm]
    omega
  · obtain ⟨q1, q2, q3, _⟩ := h3 _ hm
    have hd := deg_lt g
    obtain ⟨⟨k, hk, hk2⟩, _⟩ := lrow_deg q3 (by omega)
    exact ⟨fun i _ => lrow_sgn q2 i, k, hk, hk2⟩
