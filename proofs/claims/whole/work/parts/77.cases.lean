/-! ===== every case of the law's loop, and the loop (printed by wip/gen77.py) ===== -/
theorem lg_self (x : Int64) : lg_cmp x x = 0 := by
  unfold lg_cmp
  rw [if_neg (show ¬ x > x from Int64.lt_irrefl), if_pos rfl]
theorem sc_at (xs : Nat → Int32) {L i t : Nat} (hL : L ≤ 2560) (h : i + t < L) : sc xs L (nI i + nI t) = some (xs (i + t)) := by
  rw [nI_add, sc, if_pos (inRb_nI h (by omega)), nI_clamp (by omega)]
theorem thr_at {M : Mem} (h : HM M) {code : Int32} (h0 : mI M 117 0 = code) : fX3_thrown M (some 117) = some code := by
  rw [fX3_thrown, mog M 0 h, Option.bind_some, h0]
theorem kc_0 (xs : Nat → Int32) {L i : Nat} (hL : L ≤ 2560) (hi : i + 5 ≤ L) {M : Mem} (hI : Inv M) : ∃ M2, Inv M2 ∧ ∀ kn, fL_case0 xs L (some 0) (some 117) (some 126) (some 127) (nI i) kn M = kn M2 := by
  obtain ⟨M1, M2, code, y, e1, hm1, e3, ht, hj, hI2⟩ := b_put hI (xs (i + 1)) (xs (i + 2)) (xs (i + 3))
  have e4 : fX3_put M1 (some 117) (xs (i + 1)) (xs (i + 2)) (xs (i + 3)) = some (M2, y) := e3
  have s1 : sc xs L (nI i + 1) = some (xs (i + 1)) := sc_at xs (t := 1) hL (by omega)
  have s2 : sc xs L (nI i + 2) = some (xs (i + 2)) := sc_at xs (t := 2) hL (by omega)
  have s3 : sc xs L (nI i + 3) = some (xs (i + 3)) := sc_at xs (t := 3) hL (by omega)
  refine ⟨M2, hI2, fun kn => ?_⟩
  rw [fL_case0, s1, Option.bind_some, s2, Option.bind_some, s3, Option.bind_some, e1, Option.bind_some, Option.bind_some, Option.bind_some, Option.bind_some, mok M1 hm1, Option.bind_some, e4, Option.bind_some, mok M2 hI2.hm, Option.bind_some, thr_at hI2.hm ht, Option.bind_some, if_pos rfl]
  by_cases h0 : code = 0
  · rw [if_pos h0, out_a hI2.hm.1, Option.bind_some, hj h0, lg_self, if_pos rfl]
  · rw [if_neg h0]
theorem kc_1 (xs : Nat → Int32) {L i : Nat} (hL : L ≤ 2560) (hi : i + 5 ≤ L) {M : Mem} (hI : Inv M) : ∃ M2, Inv M2 ∧ ∀ kn, fL_case1 xs L (some 0) (some 117) (some 126) (some 127) (nI i) kn M = kn M2 := by
  obtain ⟨M1, M2, code, y, e1, hm1, e3, ht, hj, hI2⟩ := b_copy hI (xs (i + 1)) (xs (i + 2))
  have e4 : fX3_copy M1 (some 117) (xs (i + 1)) (xs (i + 2)) = some (M2, y) := e3
  have s1 : sc xs L (nI i + 1) = some (xs (i + 1)) := sc_at xs (t := 1) hL (by omega)
  have s2 : sc xs L (nI i + 2) = some (xs (i + 2)) := sc_at xs (t := 2) hL (by omega)
  refine ⟨M2, hI2, fun kn => ?_⟩
  rw [fL_case1, s1, Option.bind_some, s2, Option.bind_some, e1, Option.bind_some, Option.bind_some, Option.bind_some, mok M1 hm1, Option.bind_some, e4, Option.bind_some, mok M2 hI2.hm, Option.bind_some, thr_at hI2.hm ht, Option.bind_some, if_pos rfl]
  by_cases h0 : code = 0
  · rw [if_pos h0, out_a hI2.hm.1, Option.bind_some, hj h0, lg_self, if_pos rfl]
  · rw [if_neg h0]
theorem kc_2 (xs : Nat → Int32) {L i : Nat} (hL : L ≤ 2560) (hi : i + 5 ≤ L) {M : Mem} (hI : Inv M) : ∃ M2, Inv M2 ∧ ∀ kn, fL_case2 xs L (some 0) (some 117) (some 126) (some 127) (nI i) kn M = kn M2 := by
  obtain ⟨M1, M2, code, y, e1, hm1, e3, ht, hj, hI2⟩ := b_divide hI (xs (i + 1)) (xs (i + 2))
  have e4 : fX3_divide M1 (some 117) (xs (i + 1)) (xs (i + 2)) = some (M2, y) := e3
  have s1 : sc xs L (nI i + 1) = some (xs (i + 1)) := sc_at xs (t := 1) hL (by omega)
  have s2 : sc xs L (nI i + 2) = some (xs (i + 2)) := sc_at xs (t := 2) hL (by omega)
  refine ⟨M2, hI2, fun kn => ?_⟩
  rw [fL_case2, s1, Option.bind_some, s2, Option.bind_some, e1, Option.bind_some, Option.bind_some, Option.bind_some, mok M1 hm1, Option.bind_some, e4, Option.bind_some, mok M2 hI2.hm, Option.bind_some, thr_at hI2.hm ht, Option.bind_some, if_pos rfl]
  by_cases h0 : code = 0
  · rw [if_pos h0, out_a hI2.hm.1, Option.bind_some, hj h0, lg_self, if_pos rfl]
  · rw [if_neg h0]
theorem kc_3 (xs : Nat → Int32) {L i : Nat} (hL : L ≤ 2560) (hi : i + 5 ≤ L) {M : Mem} (hI : Inv M) : ∃ M2, Inv M2 ∧ ∀ kn, fL_case3 xs L (some 0) (some 117) (some 126) (some 127) (nI i) kn M = kn M2 := by
  obtain ⟨M1, M2, code, y, e1, hm1, e3, ht, hj, hI2⟩ := b_root hI (xs (i + 1))
  have e4 : fX3_root M1 (some 117) (xs (i + 1)) = some (M2, y) := e3
  have s1 : sc xs L (nI i + 1) = some (xs (i + 1)) := sc_at xs (t := 1) hL (by omega)
  refine ⟨M2, hI2, fun kn => ?_⟩
  rw [fL_case3, s1, Option.bind_some, e1, Option.bind_some, Option.bind_some, mok M1 hm1, Option.bind_some, e4, Option.bind_some, mok M2 hI2.hm, Option.bind_some, thr_at hI2.hm ht, Option.bind_some, if_pos rfl]
  by_cases h0 : code = 0
  · rw [if_pos h0, out_a hI2.hm.1, Option.bind_some, hj h0, lg_self, if_pos rfl]
  · rw [if_neg h0]
theorem kc_4 (xs : Nat → Int32) {L i : Nat} (hL : L ≤ 2560) (hi : i + 5 ≤ L) {M : Mem} (hI : Inv M) : ∃ M2, Inv M2 ∧ ∀ kn, fL_case4 xs L (some 0) (some 117) (some 126) (some 127) (nI i) kn M = kn M2 := by
  obtain ⟨M1, M2, y, e1, hm1, e3, hI2⟩ := v_unroot hI
  have e4 : fX3_unroot M1 (some 117) = some (M2, y) := e3
  refine ⟨M2, hI2, fun kn => ?_⟩
  rw [fL_case4, kk M hI.hc, Option.bind_some, e1, Option.bind_some, mok M1 hm1, Option.bind_some, e4, Option.bind_some, if_pos rfl]
theorem kc_5 (xs : Nat → Int32) {L i : Nat} (hL : L ≤ 2560) (hi : i + 5 ≤ L) {M : Mem} (hI : Inv M) : ∃ M2, Inv M2 ∧ ∀ kn, fL_case5 xs L (some 0) (some 117) (some 126) (some 127) (nI i) kn M = kn M2 := by
  obtain ⟨M1, M2, code, y, e1, hm1, e3, ht, hj, hI2⟩ := b_lower hI (xs (i + 1))
  have e4 : fX3_lower M1 (some 117) (xs (i + 1)) = some (M2, y) := e3
  have s1 : sc xs L (nI i + 1) = some (xs (i + 1)) := sc_at xs (t := 1) hL (by omega)
  refine ⟨M2, hI2, fun kn => ?_⟩
  rw [fL_case5, s1, Option.bind_some, e1, Option.bind_some, Option.bind_some, mok M1 hm1, Option.bind_some, e4, Option.bind_some, mok M2 hI2.hm, Option.bind_some, thr_at hI2.hm ht, Option.bind_some, if_pos rfl]
  by_cases h0 : code = 0
  · rw [if_pos h0, out_a hI2.hm.1, Option.bind_some, hj h0, lg_self, if_pos rfl]
  · rw [if_neg h0]
theorem kc_6 (xs : Nat → Int32) {L i : Nat} (hL : L ≤ 2560) (hi : i + 5 ≤ L) {M : Mem} (hI : Inv M) : ∃ M2, Inv M2 ∧ ∀ kn, fL_case6 xs L (some 0) (some 117) (some 126) (some 127) (nI i) kn M = kn M2 := by
  obtain ⟨M1, M2, code, y, e1, hm1, e3, ht, hj, hI2⟩ := b_append hI (xs (i + 1))
  have e4 : fX3_append M1 (some 117) (xs (i + 1)) = some (M2, y) := e3
  have s1 : sc xs L (nI i + 1) = some (xs (i + 1)) := sc_at xs (t := 1) hL (by omega)
  refine ⟨M2, hI2, fun kn => ?_⟩
  rw [fL_case6, s1, Option.bind_some, e1, Option.bind_some, Option.bind_some, mok M1 hm1, Option.bind_some, e4, Option.bind_some, mok M2 hI2.hm, Option.bind_some, thr_at hI2.hm ht, Option.bind_some, if_pos rfl]
  by_cases h0 : code = 0
  · rw [if_pos h0, out_a hI2.hm.1, Option.bind_some, hj h0, lg_self, if_pos rfl]
  · rw [if_neg h0]
theorem kc_7 (xs : Nat → Int32) {L i : Nat} (hL : L ≤ 2560) (hi : i + 5 ≤ L) {M : Mem} (hI : Inv M) : ∃ M2, Inv M2 ∧ ∀ kn, fL_case7 xs L (some 0) (some 117) (some 126) (some 127) (nI i) kn M = kn M2 := by
  obtain ⟨M1, M2, y, e1, hm1, e3, hI2⟩ := v_clear hI
  have e4 : fX3_clearBuffer M1 (some 117) = some (M2, y) := e3
  refine ⟨M2, hI2, fun kn => ?_⟩
  rw [fL_case7, kk M hI.hc, Option.bind_some, e1, Option.bind_some, mok M1 hm1, Option.bind_some, e4, Option.bind_some, if_pos rfl]
theorem kc_8 (xs : Nat → Int32) {L i : Nat} (hL : L ≤ 2560) (hi : i + 5 ≤ L) {M : Mem} (hI : Inv M) : ∃ M2, Inv M2 ∧ ∀ kn, fL_case8 xs L (some 0) (some 117) (some 126) (some 127) (nI i) kn M = kn M2 := by
  obtain ⟨M2, y, e1, e4, hI2⟩ := v_firstError hI
  refine ⟨M2, hI2, fun kn => ?_⟩
  rw [fL_case8, kk M hI.hc, Option.bind_some, e1, Option.bind_some, mok M hI.hm, Option.bind_some, e4, Option.bind_some, if_pos rfl]
theorem kc_9 (xs : Nat → Int32) {L i : Nat} (hL : L ≤ 2560) (hi : i + 5 ≤ L) {M : Mem} (hI : Inv M) : ∃ M2, Inv M2 ∧ ∀ kn, fL_case9 xs L (some 0) (some 117) (some 126) (some 127) (nI i) kn M = kn M2 := by
  obtain ⟨M1, M2, code, y, e1, hm1, e3, ht, hj, hI2⟩ := b_load hI (xs (i + 1))
  have e4 : fX3_load M1 (some 117) (xs (i + 1)) = some (M2, y) := e3
  have s1 : sc xs L (nI i + 1) = some (xs (i + 1)) := sc_at xs (t := 1) hL (by omega)
  refine ⟨M2, hI2, fun kn => ?_⟩
  rw [fL_case9, s1, Option.bind_some, e1, Option.bind_some, Option.bind_some, mok M1 hm1, Option.bind_some, e4, Option.bind_some, mok M2 hI2.hm, Option.bind_some, thr_at hI2.hm ht, Option.bind_some, if_pos rfl]
  by_cases h0 : code = 0
  · rw [if_pos h0, out_a hI2.hm.1, Option.bind_some, hj h0, lg_self, if_pos rfl]
  · rw [if_neg h0]
theorem kc_10 (xs : Nat → Int32) {L i : Nat} (hL : L ≤ 2560) (hi : i + 5 ≤ L) {M : Mem} (hI : Inv M) : ∃ M2, Inv M2 ∧ ∀ kn, fL_case10 xs L (some 0) (some 117) (some 126) (some 127) (nI i) kn M = kn M2 := by
  obtain ⟨M1, M2, code, y, e1, hm1, e3, ht, hj, hI2⟩ := b_keep hI (xs (i + 1))
  have e4 : fX3_keep M1 (some 117) (xs (i + 1)) = some (M2, y) := e3
  have s1 : sc xs L (nI i + 1) = some (xs (i + 1)) := sc_at xs (t := 1) hL (by omega)
  refine ⟨M2, hI2, fun kn => ?_⟩
  rw [fL_case10, s1, Option.bind_some, e1, Option.bind_some, Option.bind_some, mok M1 hm1, Option.bind_some, e4, Option.bind_some, mok M2 hI2.hm, Option.bind_some, thr_at hI2.hm ht, Option.bind_some, if_pos rfl]
  by_cases h0 : code = 0
  · rw [if_pos h0, out_a hI2.hm.1, Option.bind_some, hj h0, lg_self, if_pos rfl]
  · rw [if_neg h0]
theorem kc_11 (xs : Nat → Int32) {L i : Nat} (hL : L ≤ 2560) (hi : i + 5 ≤ L) {M : Mem} (hI : Inv M) : ∃ M2, Inv M2 ∧ ∀ kn, fL_case11 xs L (some 0) (some 117) (some 126) (some 127) (nI i) kn M = kn M2 := by
  obtain ⟨M1, M2, code, y, e1, hm1, e3, ht, hj, hI2⟩ := b_goBack hI (xs (i + 1))
  have e4 : fX3_goBack M1 (some 117) (xs (i + 1)) = some (M2, y) := e3
  have s1 : sc xs L (nI i + 1) = some (xs (i + 1)) := sc_at xs (t := 1) hL (by omega)
  refine ⟨M2, hI2, fun kn => ?_⟩
  rw [fL_case11, s1, Option.bind_some, e1, Option.bind_some, Option.bind_some, mok M1 hm1, Option.bind_some, e4, Option.bind_some, mok M2 hI2.hm, Option.bind_some, thr_at hI2.hm ht, Option.bind_some, if_pos rfl]
  by_cases h0 : code = 0
  · rw [if_pos h0, out_a hI2.hm.1, Option.bind_some, hj h0, lg_self, if_pos rfl]
  · rw [if_neg h0]
theorem kc_12 (xs : Nat → Int32) {L i : Nat} (hL : L ≤ 2560) (hi : i + 5 ≤ L) {M : Mem} (hI : Inv M) : ∃ M2, Inv M2 ∧ ∀ kn, fL_case12 xs L (some 0) (some 117) (some 126) (some 127) (nI i) kn M = kn M2 := by
  obtain ⟨M1, M2, code, y, e1, hm1, e3, ht, hj, hI2⟩ := v_undo hI 
  have e4 : fX3_undo M1 (some 117)  = some (M2, y) := e3
  refine ⟨M2, hI2, fun kn => ?_⟩
  rw [fL_case12, e1, Option.bind_some, mok M1 hm1, Option.bind_some, e4, Option.bind_some, mok M2 hI2.hm, Option.bind_some, thr_at hI2.hm ht, Option.bind_some, if_pos rfl]
  by_cases h0 : code = 0
  · rw [if_pos h0, out_a hI2.hm.1, Option.bind_some, hj h0, lg_self, if_pos rfl]
  · rw [if_neg h0]
theorem kc_13 (xs : Nat → Int32) {L i : Nat} (hL : L ≤ 2560) (hi : i + 5 ≤ L) {M : Mem} (hI : Inv M) : ∃ M2, Inv M2 ∧ ∀ kn, fL_case13 xs L (some 0) (some 117) (some 126) (some 127) (nI i) kn M = kn M2 := by
  obtain ⟨M1, M2, code, y, e1, hm1, e3, ht, hj, hI2⟩ := b_sign hI (xs (i + 1)) (xs (i + 2))
  have e4 : fX3_sign M1 (some 117) (xs (i + 1)) (xs (i + 2)) = some (M2, y) := e3
  have s1 : sc xs L (nI i + 1) = some (xs (i + 1)) := sc_at xs (t := 1) hL (by omega)
  have s2 : sc xs L (nI i + 2) = some (xs (i + 2)) := sc_at xs (t := 2) hL (by omega)
  refine ⟨M2, hI2, fun kn => ?_⟩
  rw [fL_case13, s1, Option.bind_some, s2, Option.bind_some, e1, Option.bind_some, Option.bind_some, Option.bind_some, mok M1 hm1, Option.bind_some, e4, Option.bind_some, mok M2 hI2.hm, Option.bind_some, thr_at hI2.hm ht, Option.bind_some, if_pos rfl]
  by_cases h0 : code = 0
  · rw [if_pos h0, out_a hI2.hm.1, Option.bind_some, hj h0, lg_self, if_pos rfl]
  · rw [if_neg h0]
theorem kc_14 (xs : Nat → Int32) {L i : Nat} (hL : L ≤ 2560) (hi : i + 5 ≤ L) {M : Mem} (hI : Inv M) : ∃ M2, Inv M2 ∧ ∀ kn, fL_case14 xs L (some 0) (some 117) (some 126) (some 127) (nI i) kn M = kn M2 := by
  obtain ⟨M1, M2, code, y, e1, hm1, e3, ht, hj, hI2⟩ := b_of hI (xs (i + 1)) (xs (i + 2))
  have e4 : fX3_of M1 (some 117) (xs (i + 1)) (xs (i + 2)) = some (M2, y) := e3
  have s1 : sc xs L (nI i + 1) = some (xs (i + 1)) := sc_at xs (t := 1) hL (by omega)
  have s2 : sc xs L (nI i + 2) = some (xs (i + 2)) := sc_at xs (t := 2) hL (by omega)
  refine ⟨M2, hI2, fun kn => ?_⟩
  rw [fL_case14, s1, Option.bind_some, s2, Option.bind_some, e1, Option.bind_some, Option.bind_some, Option.bind_some, mok M1 hm1, Option.bind_some, e4, Option.bind_some, mok M2 hI2.hm, Option.bind_some, thr_at hI2.hm ht, Option.bind_some, if_pos rfl]
  by_cases h0 : code = 0
  · rw [if_pos h0, out_a hI2.hm.1, Option.bind_some, hj h0, lg_self, if_pos rfl]
  · rw [if_neg h0]
theorem kc_15 (xs : Nat → Int32) {L i : Nat} (hL : L ≤ 2560) (hi : i + 5 ≤ L) {M : Mem} (hI : Inv M) : ∃ M2, Inv M2 ∧ ∀ kn, fL_case15 xs L (some 0) (some 117) (some 126) (some 127) (nI i) kn M = kn M2 := by
  obtain ⟨M1, M2, code, y, e1, hm1, e3, ht, hj, hI2⟩ := b_isRoot hI (xs (i + 1)) (xs (i + 2))
  have e4 : fX3_isRoot M1 (some 117) (xs (i + 1)) (xs (i + 2)) = some (M2, y) := e3
  have s1 : sc xs L (nI i + 1) = some (xs (i + 1)) := sc_at xs (t := 1) hL (by omega)
  have s2 : sc xs L (nI i + 2) = some (xs (i + 2)) := sc_at xs (t := 2) hL (by omega)
  refine ⟨M2, hI2, fun kn => ?_⟩
  rw [fL_case15, s1, Option.bind_some, s2, Option.bind_some, e1, Option.bind_some, Option.bind_some, Option.bind_some, mok M1 hm1, Option.bind_some, e4, Option.bind_some, mok M2 hI2.hm, Option.bind_some, thr_at hI2.hm ht, Option.bind_some, if_pos rfl]
  by_cases h0 : code = 0
  · rw [if_pos h0, out_a hI2.hm.1, Option.bind_some, hj h0, lg_self, if_pos rfl]
  · rw [if_neg h0]
theorem kc_16 (xs : Nat → Int32) {L i : Nat} (hL : L ≤ 2560) (hi : i + 5 ≤ L) {M : Mem} (hI : Inv M) : ∃ M2, Inv M2 ∧ ∀ kn, fL_case16 xs L (some 0) (some 117) (some 126) (some 127) (nI i) kn M = kn M2 := by
  obtain ⟨M1, M2, code, y, e1, hm1, e3, ht, hj, hI2⟩ := b_times hI (xs (i + 1)) (xs (i + 2)) (xs (i + 3))
  have e4 : fX3_times M1 (some 117) (xs (i + 1)) (xs (i + 2)) (xs (i + 3)) = some (M2, y) := e3
  have s1 : sc xs L (nI i + 1) = some (xs (i + 1)) := sc_at xs (t := 1) hL (by omega)
  have s2 : sc xs L (nI i + 2) = some (xs (i + 2)) := sc_at xs (t := 2) hL (by omega)
  have s3 : sc xs L (nI i + 3) = some (xs (i + 3)) := sc_at xs (t := 3) hL (by omega)
  refine ⟨M2, hI2, fun kn => ?_⟩
  rw [fL_case16, s1, Option.bind_some, s2, Option.bind_some, s3, Option.bind_some, e1, Option.bind_some, Option.bind_some, Option.bind_some, Option.bind_some, mok M1 hm1, Option.bind_some, e4, Option.bind_some, mok M2 hI2.hm, Option.bind_some, thr_at hI2.hm ht, Option.bind_some, if_pos rfl]
  by_cases h0 : code = 0
  · rw [if_pos h0, out_a hI2.hm.1, Option.bind_some, hj h0, lg_self, if_pos rfl]
  · rw [if_neg h0]
theorem kc_17 (xs : Nat → Int32) {L i : Nat} (hL : L ≤ 2560) (hi : i + 5 ≤ L) {M : Mem} (hI : Inv M) : ∃ M2, Inv M2 ∧ ∀ kn, fL_case17 xs L (some 0) (some 117) (some 126) (some 127) (nI i) kn M = kn M2 := by
  obtain ⟨M1, M2, code, y, e1, hm1, e3, ht, hj, hI2⟩ := b_quotients hI (xs (i + 1)) (xs (i + 2))
  have e4 : fX3_quotients M1 (some 117) (xs (i + 1)) (xs (i + 2)) = some (M2, y) := e3
  have s1 : sc xs L (nI i + 1) = some (xs (i + 1)) := sc_at xs (t := 1) hL (by omega)
  have s2 : sc xs L (nI i + 2) = some (xs (i + 2)) := sc_at xs (t := 2) hL (by omega)
  refine ⟨M2, hI2, fun kn => ?_⟩
  rw [fL_case17, s1, Option.bind_some, s2, Option.bind_some, e1, Option.bind_some, Option.bind_some, Option.bind_some, mok M1 hm1, Option.bind_some, e4, Option.bind_some, mok M2 hI2.hm, Option.bind_some, thr_at hI2.hm ht, Option.bind_some, if_pos rfl]
  by_cases h0 : code = 0
  · rw [if_pos h0, out_a hI2.hm.1, Option.bind_some, hj h0, lg_self, if_pos rfl]
  · rw [if_neg h0]
theorem kc_18 (xs : Nat → Int32) {L i : Nat} (hL : L ≤ 2560) (hi : i + 5 ≤ L) {M : Mem} (hI : Inv M) : ∃ M2, Inv M2 ∧ ∀ kn, fL_case18 xs L (some 0) (some 117) (some 126) (some 127) (nI i) kn M = kn M2 := by
  obtain ⟨M1, M2, code, y, e1, hm1, e3, ht, hj, hI2⟩ := b_best hI (xs (i + 1)) (xs (i + 2))
  have e4 : fX3_best M1 (some 117) (xs (i + 1)) (xs (i + 2)) = some (M2, y) := e3
  have s1 : sc xs L (nI i + 1) = some (xs (i + 1)) := sc_at xs (t := 1) hL (by omega)
  have s2 : sc xs L (nI i + 2) = some (xs (i + 2)) := sc_at xs (t := 2) hL (by omega)
  refine ⟨M2, hI2, fun kn => ?_⟩
  rw [fL_case18, s1, Option.bind_some, s2, Option.bind_some, e1, Option.bind_some, Option.bind_some, Option.bind_some, mok M1 hm1, Option.bind_some, e4, Option.bind_some, mok M2 hI2.hm, Option.bind_some, thr_at hI2.hm ht, Option.bind_some, if_pos rfl]
  by_cases h0 : code = 0
  · rw [if_pos h0, out_a hI2.hm.1, Option.bind_some, hj h0, lg_self, if_pos rfl]
  · rw [if_neg h0]
theorem kc_19 (xs : Nat → Int32) {L i : Nat} (hL : L ≤ 2560) (hi : i + 5 ≤ L) {M : Mem} (hI : Inv M) : ∃ M2, Inv M2 ∧ ∀ kn, fL_case19 xs L (some 0) (some 117) (some 126) (some 127) (nI i) kn M = kn M2 := by
  obtain ⟨M1, M2, code, y, e1, hm1, e3, ht, hj, hI2⟩ := b_many hI (xs (i + 1)) (xs (i + 2)) (xs (i + 3))
  have e4 : fX3_many M1 (some 117) (xs (i + 1)) (xs (i + 2)) (xs (i + 3)) = some (M2, y) := e3
  have s1 : sc xs L (nI i + 1) = some (xs (i + 1)) := sc_at xs (t := 1) hL (by omega)
  have s2 : sc xs L (nI i + 2) = some (xs (i + 2)) := sc_at xs (t := 2) hL (by omega)
  have s3 : sc xs L (nI i + 3) = some (xs (i + 3)) := sc_at xs (t := 3) hL (by omega)
  refine ⟨M2, hI2, fun kn => ?_⟩
  rw [fL_case19, s1, Option.bind_some, s2, Option.bind_some, s3, Option.bind_some, e1, Option.bind_some, Option.bind_some, Option.bind_some, Option.bind_some, mok M1 hm1, Option.bind_some, e4, Option.bind_some, mok M2 hI2.hm, Option.bind_some, thr_at hI2.hm ht, Option.bind_some, if_pos rfl]
  by_cases h0 : code = 0
  · rw [if_pos h0, out_a hI2.hm.1, Option.bind_some, hj h0, lg_self, if_pos rfl]
  · rw [if_neg h0]
theorem kc_20 (xs : Nat → Int32) {L i : Nat} (hL : L ≤ 2560) (hi : i + 5 ≤ L) {M : Mem} (hI : Inv M) : ∃ M2, Inv M2 ∧ ∀ kn, fL_case20 xs L (some 0) (some 117) (some 126) (some 127) (nI i) kn M = kn M2 := by
  obtain ⟨M1, M2, code, y, e1, hm1, e3, ht, hj, hI2⟩ := b_isIn hI (xs (i + 1)) (xs (i + 2)) (xs (i + 3)) (xs (i + 4))
  have e4 : fX3_isIn M1 (some 117) (xs (i + 1)) (xs (i + 2)) (xs (i + 3)) (xs (i + 4)) = some (M2, y) := e3
  have s1 : sc xs L (nI i + 1) = some (xs (i + 1)) := sc_at xs (t := 1) hL (by omega)
  have s2 : sc xs L (nI i + 2) = some (xs (i + 2)) := sc_at xs (t := 2) hL (by omega)
  have s3 : sc xs L (nI i + 3) = some (xs (i + 3)) := sc_at xs (t := 3) hL (by omega)
  have s4 : sc xs L (nI i + 4) = some (xs (i + 4)) := sc_at xs (t := 4) hL (by omega)
  refine ⟨M2, hI2, fun kn => ?_⟩
  rw [fL_case20, s1, Option.bind_some, s2, Option.bind_some, s3, Option.bind_some, s4, Option.bind_some, e1, Option.bind_some, Option.bind_some, Option.bind_some, Option.bind_some, Option.bind_some, mok M1 hm1, Option.bind_some, e4, Option.bind_some, mok M2 hI2.hm, Option.bind_some, thr_at hI2.hm ht, Option.bind_some, if_pos rfl]
  by_cases h0 : code = 0
  · rw [if_pos h0, out_a hI2.hm.1, Option.bind_some, hj h0, lg_self, if_pos rfl]
  · rw [if_neg h0]
theorem kc_21 (xs : Nat → Int32) {L i : Nat} (hL : L ≤ 2560) (hi : i + 5 ≤ L) {M : Mem} (hI : Inv M) : ∃ M2, Inv M2 ∧ ∀ kn, fL_case21 xs L (some 0) (some 117) (some 126) (some 127) (nI i) kn M = kn M2 := by
  obtain ⟨M1, M2, code, y, e1, hm1, e3, ht, hj, hI2⟩ := b_coefficient hI (xs (i + 1))
  have e4 : fX3_coefficient M1 (some 117) (xs (i + 1)) = some (M2, y) := e3
  have s1 : sc xs L (nI i + 1) = some (xs (i + 1)) := sc_at xs (t := 1) hL (by omega)
  refine ⟨M2, hI2, fun kn => ?_⟩
  rw [fL_case21, s1, Option.bind_some, e1, Option.bind_some, Option.bind_some, mok M1 hm1, Option.bind_some, e4, Option.bind_some, mok M2 hI2.hm, Option.bind_some, thr_at hI2.hm ht, Option.bind_some, if_pos rfl]
  by_cases h0 : code = 0
  · rw [if_pos h0, out_a hI2.hm.1, Option.bind_some, hj h0, lg_self, if_pos rfl]
  · rw [if_neg h0]
theorem kc_22 (xs : Nat → Int32) {L i : Nat} (hL : L ≤ 2560) (hi : i + 5 ≤ L) {M : Mem} (hI : Inv M) : ∃ M2, Inv M2 ∧ ∀ kn, fL_case22 xs L (some 0) (some 117) (some 126) (some 127) (nI i) kn M = kn M2 := by
  obtain ⟨M1, M2, code, y, e1, hm1, e3, ht, hj, hI2⟩ := b_count hI (xs (i + 1))
  have e4 : fX3_count M1 (some 117) (xs (i + 1)) = some (M2, y) := e3
  have s1 : sc xs L (nI i + 1) = some (xs (i + 1)) := sc_at xs (t := 1) hL (by omega)
  refine ⟨M2, hI2, fun kn => ?_⟩
  rw [fL_case22, s1, Option.bind_some, e1, Option.bind_some, Option.bind_some, mok M1 hm1, Option.bind_some, e4, Option.bind_some, mok M2 hI2.hm, Option.bind_some, thr_at hI2.hm ht, Option.bind_some, if_pos rfl]
  by_cases h0 : code = 0
  · rw [if_pos h0, out_a hI2.hm.1, Option.bind_some, hj h0, lg_self, if_pos rfl]
  · rw [if_neg h0]
theorem kc_23 (xs : Nat → Int32) {L i : Nat} (hL : L ≤ 2560) (hi : i + 5 ≤ L) {M : Mem} (hI : Inv M) : ∃ M2, Inv M2 ∧ ∀ kn, fL_case23 xs L (some 0) (some 117) (some 126) (some 127) (nI i) kn M = kn M2 := by
  obtain ⟨M1, M2, code, y, e1, hm1, e4, ht, hj, hI2⟩ := b_takenShare hI (xs (i + 1))
  have s1 : sc xs L (nI i + 1) = some (xs (i + 1)) := sc_at xs (t := 1) hL (by omega)
  refine ⟨M2, hI2, fun kn => ?_⟩
  rw [fL_case23, s1, Option.bind_some, e1, Option.bind_some, Option.bind_some, mok M1 hm1, Option.bind_some, e4, Option.bind_some, mok M2 hI2.hm, Option.bind_some, thr_at hI2.hm ht, Option.bind_some, if_pos rfl]
  by_cases h0 : code = 0
  · have hk := (hj h0).2
    unfold okSh at hk
    simp only [Bool.and_eq_true, decide_eq_true_eq] at hk
    rw [if_pos h0, outD_a hI2.hm.1, Option.bind_some, (hj h0).1, if_pos hk.1.2]
  · rw [if_neg h0]
theorem kc_24 (xs : Nat → Int32) {L i : Nat} (hL : L ≤ 2560) (hi : i + 5 ≤ L) {M : Mem} (hI : Inv M) : ∃ M2, Inv M2 ∧ ∀ kn, fL_case24 xs L (some 0) (some 117) (some 126) (some 127) (nI i) kn M = kn M2 := by
  obtain ⟨M1, M2, y, e1, hm1, e4, hI2⟩ := v_digest hI
  refine ⟨M2, hI2, fun kn => ?_⟩
  rw [fL_case24, kk M hI.hc, Option.bind_some, e1, Option.bind_some, mok M1 hm1, Option.bind_some, e4, Option.bind_some, lg_self, if_pos rfl]
theorem loop_true (xs : Nat → Int32) {L : Nat} (hL : L ≤ 2560) : ∀ n i (M : Mem), Inv M → i ≤ 5 * 600 → i + 5 * n ≥ 5 * 600 + 5 → ∃ M1, fL_loop xs L (some 0) (some 117) (some 126) (some 127) n M (nI i) = some (M1, 1) := by
  have hl : (Int32.ofNat L - 5).toInt = (L : Int) - 5 := by
    rw [Int32.toInt_sub, show (Int32.ofNat L).toInt = (L : Int) from nI_toInt (by omega), show (5 : Int32).toInt = 5 by decide]
    rw [Int.bmod_eq_of_le] <;> omega
  intro n
  induction n with
  | zero => intro i M _ h1 h2; omega
  | succ n ih =>
    intro i M hI h1 h2
    rw [fL_loop]
    by_cases hi : i + 5 ≤ L
    · have hn : ¬ Int32.ofNat L - 5 < nI i := fun q => by
        have := lt_i.mp q
        rw [hl, nI_toInt (by omega)] at this
        omega
      have s0 : sc xs L (nI i) = some (xs i) := by
        have e := sc_at xs (L := L) (i := i) (t := 0) hL (by omega)
        rw [nI_add] at e
        exact e
      have go : ∀ M2, Inv M2 → ∃ M1, fL_loop xs L (some 0) (some 117) (some 126) (some 127) n M2 (nI i + 5) = some (M1, 1) := fun M2 h2 => by
        rw [show nI i + 5 = nI (i + 5) from nI_add i 5]
        exact ih (i + 5) M2 h2 (by omega) (by omega)
      rw [if_neg hn, s0, Option.bind_some]
      by_cases c0 : xs i &&& 31 = 0
      · obtain ⟨M2, hI2, e⟩ := kc_0 xs hL hi hI
        rw [if_pos c0, e]
        exact go M2 hI2
      rw [if_neg c0]
      by_cases c1 : xs i &&& 31 = 1
      · obtain ⟨M2, hI2, e⟩ := kc_1 xs hL hi hI
        rw [if_pos c1, e]
        exact go M2 hI2
      rw [if_neg c1]
      by_cases c2 : xs i &&& 31 = 2
      · obtain ⟨M2, hI2, e⟩ := kc_2 xs hL hi hI
        rw [if_pos c2, e]
        exact go M2 hI2
      rw [if_neg c2]
      by_cases c3 : xs i &&& 31 = 3
      · obtain ⟨M2, hI2, e⟩ := kc_3 xs hL hi hI
        rw [if_pos c3, e]
        exact go M2 hI2
      rw [if_neg c3]
      by_cases c4 : xs i &&& 31 = 4
      · obtain ⟨M2, hI2, e⟩ := kc_4 xs hL hi hI
        rw [if_pos c4, e]
        exact go M2 hI2
      rw [if_neg c4]
      by_cases c5 : xs i &&& 31 = 5
      · obtain ⟨M2, hI2, e⟩ := kc_5 xs hL hi hI
        rw [if_pos c5, e]
        exact go M2 hI2
      rw [if_neg c5]
      by_cases c6 : xs i &&& 31 = 6
      · obtain ⟨M2, hI2, e⟩ := kc_6 xs hL hi hI
        rw [if_pos c6, e]
        exact go M2 hI2
      rw [if_neg c6]
      by_cases c7 : xs i &&& 31 = 7
      · obtain ⟨M2, hI2, e⟩ := kc_7 xs hL hi hI
        rw [if_pos c7, e]
        exact go M2 hI2
      rw [if_neg c7]
      by_cases c8 : xs i &&& 31 = 8
      · obtain ⟨M2, hI2, e⟩ := kc_8 xs hL hi hI
        rw [if_pos c8, e]
        exact go M2 hI2
      rw [if_neg c8]
      by_cases c9 : xs i &&& 31 = 9
      · obtain ⟨M2, hI2, e⟩ := kc_9 xs hL hi hI
        rw [if_pos c9, e]
        exact go M2 hI2
      rw [if_neg c9]
      by_cases c10 : xs i &&& 31 = 10
      · obtain ⟨M2, hI2, e⟩ := kc_10 xs hL hi hI
        rw [if_pos c10, e]
        exact go M2 hI2
      rw [if_neg c10]
      by_cases c11 : xs i &&& 31 = 11
      · obtain ⟨M2, hI2, e⟩ := kc_11 xs hL hi hI
        rw [if_pos c11, e]
        exact go M2 hI2
      rw [if_neg c11]
      by_cases c12 : xs i &&& 31 = 12
      · obtain ⟨M2, hI2, e⟩ := kc_12 xs hL hi hI
        rw [if_pos c12, e]
        exact go M2 hI2
      rw [if_neg c12]
      by_cases c13 : xs i &&& 31 = 13
      · obtain ⟨M2, hI2, e⟩ := kc_13 xs hL hi hI
        rw [if_pos c13, e]
        exact go M2 hI2
      rw [if_neg c13]
      by_cases c14 : xs i &&& 31 = 14
      · obtain ⟨M2, hI2, e⟩ := kc_14 xs hL hi hI
        rw [if_pos c14, e]
        exact go M2 hI2
      rw [if_neg c14]
      by_cases c15 : xs i &&& 31 = 15
      · obtain ⟨M2, hI2, e⟩ := kc_15 xs hL hi hI
        rw [if_pos c15, e]
        exact go M2 hI2
      rw [if_neg c15]
      by_cases c16 : xs i &&& 31 = 16
      · obtain ⟨M2, hI2, e⟩ := kc_16 xs hL hi hI
        rw [if_pos c16, e]
        exact go M2 hI2
      rw [if_neg c16]
      by_cases c17 : xs i &&& 31 = 17
      · obtain ⟨M2, hI2, e⟩ := kc_17 xs hL hi hI
        rw [if_pos c17, e]
        exact go M2 hI2
      rw [if_neg c17]
      by_cases c18 : xs i &&& 31 = 18
      · obtain ⟨M2, hI2, e⟩ := kc_18 xs hL hi hI
        rw [if_pos c18, e]
        exact go M2 hI2
      rw [if_neg c18]
      by_cases c19 : xs i &&& 31 = 19
      · obtain ⟨M2, hI2, e⟩ := kc_19 xs hL hi hI
        rw [if_pos c19, e]
        exact go M2 hI2
      rw [if_neg c19]
      by_cases c20 : xs i &&& 31 = 20
      · obtain ⟨M2, hI2, e⟩ := kc_20 xs hL hi hI
        rw [if_pos c20, e]
        exact go M2 hI2
      rw [if_neg c20]
      by_cases c21 : xs i &&& 31 = 21
      · obtain ⟨M2, hI2, e⟩ := kc_21 xs hL hi hI
        rw [if_pos c21, e]
        exact go M2 hI2
      rw [if_neg c21]
      by_cases c22 : xs i &&& 31 = 22
      · obtain ⟨M2, hI2, e⟩ := kc_22 xs hL hi hI
        rw [if_pos c22, e]
        exact go M2 hI2
      rw [if_neg c22]
      by_cases c23 : xs i &&& 31 = 23
      · obtain ⟨M2, hI2, e⟩ := kc_23 xs hL hi hI
        rw [if_pos c23, e]
        exact go M2 hI2
      rw [if_neg c23]
      by_cases c24 : xs i &&& 31 = 24
      · obtain ⟨M2, hI2, e⟩ := kc_24 xs hL hi hI
        rw [if_pos c24, e]
        exact go M2 hI2
      rw [if_neg c24]
      exact go M hI
    · have hn : Int32.ofNat L - 5 < nI i := by
        rw [lt_i, hl, nI_toInt (by omega)]
        omega
      exact ⟨M, by rw [if_pos hn]⟩
theorem law_true : ∀ (xs : Nat → Int32) (L : Nat), L ≤ 2560 → ∃ M1, fL_law xs L = some (M1, 1) := by
  intro xs L hL
  rw [law_loop, show (0 : Int32) = nI 0 from nI_0.symm]
  exact loop_true xs hL FU 0 MC MC_inv (by omega) (by have : 601 < FU := fu_9 (by decide); omega)
