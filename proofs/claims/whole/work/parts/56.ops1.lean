/-! ===== every operation: the class and the model answer alike ===== -/
theorem in_r (x : Int32) {N : Nat} (hN : N + 1 < 2 ^ 31) : x < 0 ∨ (¬ x < 0 ∧ ¬ x < nI (N + 1) ∧ ¬ x ≤ nI N ∧ nI N < x) ∨ ∃ n, n < N + 1 ∧ x = nI n := by
  rcases pk_ix x hN with h | h | h
  · exact Or.inl h
  · refine Or.inr (Or.inl ?_)
    have h1 := le_i.mp h
    rw [nI_toInt hN] at h1
    have e0 : (0 : Int32).toInt = 0 := by decide
    have e1 : (nI N).toInt = (N : Int) := nI_toInt (by omega)
    refine ⟨fun q => ?_, fun q => ?_, fun q => ?_, ?_⟩
    · have := lt_i.mp q; omega
    · have := lt_i.mp q; rw [nI_toInt hN] at this; omega
    · have := le_i.mp q; omega
    · rw [lt_i]; omega
  · exact Or.inr (Or.inr h)
theorem num_c (x : Int32) : ((∀ M, fX2_checkNumber M x = some (.inl "java/lang/IndexOutOfBoundsException")) ∧ ∀ M, fX3_isPoly M x = some 0) ∨ ∃ n, n < 5 ∧ x = nI n ∧ (∀ M, fX2_checkNumber M x = some (.inr ())) ∧ ∀ M, fX3_isPoly M x = some 1 := by
  rcases in_r x (N := 4) (by decide) with h | ⟨h0, h1, h2, h3⟩ | ⟨n, hn, rfl⟩
  · exact Or.inl ⟨fun M => by rw [fX2_checkNumber, if_pos h], fun M => by rw [fX3_isPoly, q_in, if_pos h]; rfl⟩
  · exact Or.inl ⟨fun M => by rw [fX2_checkNumber, if_neg h0, if_neg (show ¬ x < 5 from h1)], fun M => by rw [fX3_isPoly, q_in, if_neg h0, if_pos (show (4 : Int32) < x from h3)]; rfl⟩
  · refine Or.inr ⟨n, hn, rfl, fun M => ?_, fun M => ?_⟩
    · rw [fX2_checkNumber, if_neg (nI_pos (by omega)), if_pos (show nI n < 5 from nI_lt hn (by decide))]
    · rw [fX3_isPoly, q_in, if_neg (nI_pos (by omega)), if_neg (show ¬ (4 : Int32) < nI n from nI_nlt (a := 4) (by omega) (by decide))]; rfl
theorem pow_c (x : Int32) : ((∀ M, fX2_checkPower M x = some (.inl "java/lang/IllegalArgumentException")) ∧ ∀ M, fX3_in M x 0 8 = some 0) ∨ ∃ n, n < 9 ∧ x = nI n ∧ (∀ M, fX2_checkPower M x = some (.inr ())) ∧ ∀ M, fX3_in M x 0 8 = some 1 := by
  rcases in_r x (N := 8) (by decide) with h | ⟨h0, h1, h2, h3⟩ | ⟨n, hn, rfl⟩
  · exact Or.inl ⟨fun M => by rw [fX2_checkPower, if_pos h], fun M => by rw [q_in, if_pos h]⟩
  · exact Or.inl ⟨fun M => by rw [fX2_checkPower, if_neg h0, if_neg (show ¬ x ≤ 8 from h2)], fun M => by rw [q_in, if_neg h0, if_pos (show (8 : Int32) < x from h3)]⟩
  · refine Or.inr ⟨n, hn, rfl, fun M => ?_, fun M => ?_⟩
    · rw [fX2_checkPower, if_neg (nI_pos (by omega)), if_pos (show nI n ≤ 8 from nI_le (b := 8) (by omega) (by decide))]
    · rw [q_in, if_neg (nI_pos (by omega)), if_neg (show ¬ (8 : Int32) < nI n from nI_nlt (a := 8) (by omega) (by decide))]
theorem sgn_c (x : Int32) : ((∀ M, fX2_checkSign M x = some (.inl "java/lang/IllegalArgumentException")) ∧ ∀ M, fX3_isSign M x = some 0) ∨ (sgn x ∧ (∀ M, fX2_checkSign M x = some (.inr ())) ∧ ∀ M, fX3_isSign M x = some 1) := by
  have em : (-1 : Int32).toInt = -1 := by decide
  have e1 : (1 : Int32).toInt = 1 := by decide
  have e0 : (0 : Int32).toInt = 0 := by decide
  by_cases h : x < -1
  · exact Or.inl ⟨fun M => by rw [fX2_checkSign, if_pos h], fun M => by rw [fX3_isSign, q_in, if_pos h]; rfl⟩
  · by_cases h2 : x ≤ 1
    · have h3 : ¬ (1 : Int32) < x := fun q => by have := lt_i.mp q; have := le_i.mp h2; omega
      refine Or.inr ⟨?_, fun M => by rw [fX2_checkSign, if_neg h, if_pos h2], fun M => by rw [fX3_isSign, q_in, if_neg h, if_neg h3]; rfl⟩
      have a1 := le_i.mp h2
      have a2 : ¬ x.toInt < (-1 : Int32).toInt := fun q => h (lt_i.mpr q)
      unfold sgn
      rw [← Int32.toInt_inj, ← Int32.toInt_inj, ← Int32.toInt_inj]
      omega
    · have h3 : (1 : Int32) < x := by
        rw [lt_i]
        have : ¬ x.toInt ≤ (1 : Int32).toInt := fun q => h2 (le_i.mpr q)
        omega
      exact Or.inl ⟨fun M => by rw [fX2_checkSign, if_neg h, if_neg h2], fun M => by rw [fX3_isSign, q_in, if_neg h, if_pos h3]; rfl⟩
theorem wha_c (x : Int32) {N : Nat} (hN : N + 1 < 2 ^ 31) : ((∀ M, fX2_checkWhat M x (nI (N + 1)) = some (.inl "java/lang/IllegalArgumentException")) ∧ ∀ M, fX3_in M x 0 (nI N) = some 0) ∨ ∃ n, n < N + 1 ∧ x = nI n ∧ (∀ M, fX2_checkWhat M x (nI (N + 1)) = some (.inr ())) ∧ ∀ M, fX3_in M x 0 (nI N) = some 1 := by
  rcases in_r x hN with h | ⟨h0, h1, h2, h3⟩ | ⟨n, hn, rfl⟩
  · exact Or.inl ⟨fun M => by rw [fX2_checkWhat, if_pos h], fun M => by rw [q_in, if_pos h]⟩
  · exact Or.inl ⟨fun M => by rw [fX2_checkWhat, if_neg h0, if_neg h1], fun M => by rw [q_in, if_neg h0, if_pos h3]⟩
  · refine Or.inr ⟨n, hn, rfl, fun M => ?_, fun M => ?_⟩
    · rw [fX2_checkWhat, if_neg (nI_pos (by omega)), if_pos (nI_lt hn (by omega))]
    · rw [q_in, if_neg (nI_pos (by omega)), if_neg (nI_nlt (by omega) (by omega))]
theorem slo_c (x : Int32) : ((∀ M, fX2_checkSlot M x = some (.inl "java/lang/IllegalArgumentException")) ∧ ∀ M, fX3_in M x 0 1 = some 0) ∨ ∃ n, n < 2 ∧ x = nI n ∧ (∀ M, fX2_checkSlot M x = some (.inr ())) ∧ ∀ M, fX3_in M x 0 1 = some 1 := by
  rcases in_r x (N := 1) (by decide) with h | ⟨h0, h1, h2, h3⟩ | ⟨n, hn, rfl⟩
  · exact Or.inl ⟨fun M => by rw [fX2_checkSlot, if_pos h], fun M => by rw [q_in, if_pos h]⟩
  · exact Or.inl ⟨fun M => by rw [fX2_checkSlot, if_neg h0, if_neg (show ¬ x < 2 from h1)], fun M => by rw [q_in, if_neg h0, if_pos (show (1 : Int32) < x from h3)]⟩
  · refine Or.inr ⟨n, hn, rfl, fun M => ?_, fun M => ?_⟩
    · rw [fX2_checkSlot, if_neg (nI_pos (by omega)), if_pos (show nI n < 2 from nI_lt hn (by decide))]
    · rw [q_in, if_neg (nI_pos (by omega)), if_neg (show ¬ (1 : Int32) < nI n from nI_nlt (a := 1) (by omega) (by decide))]
/-! the law's own cell -/
theorem out_w {M : Mem} (h : M.1 = 128) (x : Int64) : wJ M (some 126) 0 x = some (setJ M 126 (uq (mJ M 126) 0 x)) := (wJ_at (n := 1) (k := 0) (by rw [h]; decide) rfl rfl (by decide) (by decide)).trans (congrArg some (sJ_setJ _ _ _ _))
theorem out_a {M : Mem} (h : M.1 = 128) : aJ M (some 126) 0 = some (mJ M 126 0) := aJ_at (n := 1) (k := 0) (by rw [h]; decide) rfl rfl (by decide) (by decide)
def zap (M : Mem) (x : Int32) : Mem := setA M 117 (uq (mI M 117) 0 x)
theorem zap_zap (M : Mem) (x y : Int32) : setA (zap M x) 117 (uq (mI (zap M x) 117) 0 y) = zap M y := by
  unfold zap
  rw [setA_setA, mI_eq, uq_uq]
theorem zap_o (M : Mem) (x : Int32) {b : Nat} (h : b ≠ 117) : mI (zap M x) b = mI M b := mI_ne _ _ h
theorem zap_k (M : Mem) (x : Int32) {k : Nat} (h : k ≠ 0) : mI (zap M x) 117 k = mI M 117 k := by unfold zap; rw [mI_eq, uq_ne _ _ h]
theorem zap_0 (M : Mem) (x : Int32) : mI (zap M x) 117 0 = x := by unfold zap; rw [mI_eq, uq_eq]
theorem FrM.zap {M : Mem} (x : Int32) : FrM M (zap M x) := FrM.set (by decide)
theorem Inv.zap {M : Mem} (h : Inv M) (x : Int32) : Inv (zap M x) := by
  obtain ⟨sp, c, l, h1, h2, h3, h4, h5, h6⟩ := h
  exact Inv.same h4 h1 (FrM.zap x) (by rw [zap_k _ _ (by decide)]; exact h2) (by rw [zap_k _ _ (by decide)]; exact h3) (zap_o _ _ (by decide)) (zap_o _ _ (by decide)) (zap_o _ _ (by decide)) (zap_o _ _ (by decide)) (zap_o _ _ (by decide)) h5 h6
/-- the class's wrapper and the model: the same code and answer, and both say the same again -/
def Bth (o1 : Option (Mem × Int32)) (o3 : Mem → Option (Mem × Int32)) : Prop := ∃ M1 M2 code y, o1 = some (M1, code) ∧ HM M1 ∧ o3 M1 = some (M2, y) ∧ mI M2 117 0 = code ∧ (code = 0 → mJ M2 126 0 = y.toInt64) ∧ Inv M2
theorem Inv.hm {M : Mem} (h : Inv M) : HM M := by obtain ⟨sp, c, l, h1, h2⟩ := h; exact h1
theorem Inv.hc {M : Mem} (h : Inv M) : HC0 M := by obtain ⟨sp, c, l, h1, h2, h3, h4, h5⟩ := h; exact h4.1
theorem Bth.fail {M : Mem} (h : Inv M) {o1 : Option (Mem × Int32)} {o3 : Mem → Option (Mem × Int32)} {code : Int32} (h1 : o1 = some (M, code)) (hc : code ≠ 0) (h3 : o3 M = some (zap M code, 0)) : Bth o1 o3 :=
  ⟨M, zap M code, code, 0, h1, h.hm, h3, zap_0 _ _, fun q => absurd q hc, h.zap code⟩
theorem q_fz (M : Mem) (h : HM M) (x : Int32) : fX3_fails (zap M 0) (some 117) x = some (zap M x, 0) := by
  rw [q_fails _ (h.frM (FrM.zap 0)), zap_zap]
