/-! ===== the first memory ===== -/
def I1 : Option Mem := (nwO 2 M0).bind fun M236 => fX2_init M236 (some M0.1)
set_option maxRecDepth 100000 in
theorem I1_s : I1.isSome = true := by decide +kernel
def MA : Mem := I1.getD M0
theorem I1_e : I1 = some MA := by
  have h := I1_s
  unfold MA
  cases hI : I1 with
  | none => rw [hI] at h; cases h
  | some m => rfl
set_option maxRecDepth 100000 in
theorem MA_1 : MA.1 = 117 := by decide +kernel
def I2 : Option Mem := (nwO 3 MA).bind fun M238 => fX3_init M238 (some MA.1)
set_option maxRecDepth 100000 in
theorem I2_s : I2.isSome = true := by decide +kernel
def MB : Mem := I2.getD M0
theorem I2_e : I2 = some MB := by
  have h := I2_s
  unfold MB
  cases hI : I2 with
  | none => rw [hI] at h; cases h
  | some m => rfl
set_option maxRecDepth 100000 in
theorem MB_1 : MB.1 = 126 := by decide +kernel
def MC : Mem := al (al MB)
theorem MC_1 : MC.1 = 128 := by
  show MB.1 + 1 + 1 = 128
  rw [MB_1]
set_option maxRecDepth 100000 in
theorem MC_r0 : mR MC 0 0 = some 1 ∧ mR MC 0 1 = some 9 ∧ mR MC 0 3 = some 10 ∧ mR MC 0 4 = some 11 ∧ mR MC 0 5 = some 12 ∧ mR MC 0 7 = some 13 ∧ mR MC 0 8 = some 14 ∧ mR MC 0 9 = some 15 ∧ mR MC 15 0 = some 16 := by decide +kernel
set_option maxRecDepth 100000 in
theorem MC_t : ∀ k : Nat, k < 1231 → mJ MC 16 k = 0 := by decide +kernel
set_option maxRecDepth 100000 in
theorem MC_rM : mR MC 117 1 = some 118 ∧ mR MC 117 2 = some 119 ∧ mR MC 117 4 = some 120 ∧ mR MC 117 5 = some 121 ∧ mR MC 117 6 = some 122 ∧ mR MC 117 8 = some 123 ∧ mR MC 117 9 = some 124 ∧ mR MC 117 11 = some 125 := by decide +kernel
set_option maxRecDepth 100000 in
theorem MC_rd : ∀ i : Nat, i < 9 → mR MC (81 + 4 * i) 0 = some (82 + 4 * i) ∧ mR MC (81 + 4 * i) 1 = some (83 + 4 * i) ∧ mR MC (81 + 4 * i) 2 = some (84 + 4 * i) ∧ mR MC 14 i = some (81 + 4 * i) := by decide +kernel
set_option maxRecDepth 100000 in
theorem MC_rs : (∀ j : Nat, j < 6 → mR MC 9 j = some (17 + 8 * j)) ∧ (∀ s : Nat, s < 2 → mR MC 10 s = some (65 + 8 * s)) := by decide +kernel
set_option maxRecDepth 100000 in
theorem MC_rb : ∀ b : Nat, b < 74 → blk b = true → mR MC b 0 = some (b + 1) ∧ mR MC b 1 = some (b + 7) ∧ ∀ n : Nat, n < 5 → mR MC (b + 1) n = some (b + 2 + n) := by decide +kernel
set_option maxRecDepth 100000 in
theorem MC_i1 : (∀ n : Nat, n < 5 → ∀ k : Nat, k < 9 → mI MC (1 + 2 + n) k = (if k = 0 then 1 else 0) ∧ mI MC 118 (9 * n + k) = (if k = 0 then 1 else 0)) ∧ mI MC 1 2 = 0 ∧ mI MC 1 3 = 0 ∧ mI MC 1 4 = 0 ∧ mI MC 118 45 = 0 ∧ mI MC 118 54 = 0 ∧ mI MC 118 55 = 0 ∧ mI MC 0 2 = 0 ∧ mI MC 0 6 = 0 ∧ mI MC 117 3 = 0 ∧ mI MC 117 7 = 0 ∧ (∀ s : Nat, s < 2 → mI MC 11 s = 0 ∧ mI MC 121 s = 0) := by decide +kernel
theorem inv0 {M : Mem} (m1 : M.1 = 128)
    (h0 : mR M 0 0 = some 1 ∧ mR M 0 1 = some 9 ∧ mR M 0 3 = some 10 ∧ mR M 0 4 = some 11 ∧ mR M 0 5 = some 12 ∧ mR M 0 7 = some 13 ∧ mR M 0 8 = some 14 ∧ mR M 0 9 = some 15 ∧ mR M 15 0 = some 16)
    (ht : ∀ k : Nat, k < 1231 → mJ M 16 k = 0)
    (hM : StM (mR M))
    (hd : ∀ i : Nat, i < 9 → mR M (81 + 4 * i) 0 = some (82 + 4 * i) ∧ mR M (81 + 4 * i) 1 = some (83 + 4 * i) ∧ mR M (81 + 4 * i) 2 = some (84 + 4 * i) ∧ mR M 14 i = some (81 + 4 * i))
    (hs : (∀ j : Nat, j < 6 → mR M 9 j = some (17 + 8 * j)) ∧ (∀ s : Nat, s < 2 → mR M 10 s = some (65 + 8 * s)))
    (hb : ∀ b : Nat, b < 74 → blk b = true → mR M b 0 = some (b + 1) ∧ mR M b 1 = some (b + 7) ∧ ∀ n : Nat, n < 5 → mR M (b + 1) n = some (b + 2 + n))
    (hi : (∀ n : Nat, n < 5 → ∀ k : Nat, k < 9 → mI M (1 + 2 + n) k = (if k = 0 then 1 else 0) ∧ mI M 118 (9 * n + k) = (if k = 0 then 1 else 0)) ∧ mI M 1 2 = 0 ∧ mI M 1 3 = 0 ∧ mI M 1 4 = 0 ∧ mI M 118 45 = 0 ∧ mI M 118 54 = 0 ∧ mI M 118 55 = 0 ∧ mI M 0 2 = 0 ∧ mI M 0 6 = 0 ∧ mI M 117 3 = 0 ∧ mI M 117 7 = 0 ∧ (∀ s : Nat, s < 2 → mI M 11 s = 0 ∧ mI M 121 s = 0)) : Inv M := by
  obtain ⟨a1, a2, a3, a4, a5, a6, a7, a8, a9, aA, aB, aC⟩ := hi
  obtain ⟨r0, r1, r2, r3, r4, r5, r6, r7, r8⟩ := h0
  have hc : cnt (mI M 118) = 0 := by
    unfold cnt
    rw [a5]
    decide
  have hrv : ∀ n, n < 5 → ∀ k, rv (mI M 118) n k = if k = 0 then 1 else 0 := by
    intro n hn k
    unfold rv
    by_cases h : k < 9
    · rw [if_pos h, (a1 n hn k h).2]
    · rw [if_neg h, if_neg (by omega)]
  have hok : OkV (mI M 118) := by
    refine ⟨fun i hi => ?_, fun n hn => ⟨0, by decide, by rw [hrv n hn]; decide⟩, ⟨by rw [hc]; decide, by rw [hc, a5]; decide⟩, fun i hi => by rw [hc] at hi; omega⟩
    have h := (a1 (i / 9) (by omega) (i % 9) (by omega)).2
    rw [show 9 * (i / 9) + i % 9 = i by omega] at h
    rw [h]
    split
    · exact sgn_1
    · exact sgn_0
  have hh : HC0 M := ⟨m1, ⟨r0, r1, r2, r3, r4, r5⟩, ⟨⟨r6, ⟨m1, r7, r8⟩, TI_0 ht⟩, fun i hi => ⟨⟨m1, hi, (hd i hi).1, (hd i hi).2.1, (hd i hi).2.2.1⟩, (hd i hi).2.2.2⟩⟩, fun b hb2 => hb b (blk_lt hb2) hb2, hs.2⟩
  have hsp : SpM M id := ⟨fun j hj => ⟨hs.1 j hj, hj⟩, fun i j _ _ h => h⟩
  have hrep : Rep M 1 (mI M 118) := by
    refine ⟨fun n hn => ?_, by rw [a2, a5], fun i hi => by rw [hc] at hi; omega, by rw [a3, a6], by rw [a4, a7]⟩
    funext k
    rw [hrv n hn]
    unfold rC
    by_cases h : k < 9
    · rw [if_pos h, (a1 n hn k h).1]
    · rw [if_neg h, if_neg (by omega)]
  have hz : (0 : Int32) = nI 0 := nI_0.symm
  have hsl : ∀ s, s < 2 → mI M 11 s = (BM M 0 0).2.2.1 s ∧ ((BM M 0 0).2.2.1 s ≠ 0 → Rep M (65 + 8 * s) ((BM M 0 0).2.2.2.1 s)) := fun s hs2 => ⟨(aC s hs2).1.trans (aC s hs2).2.symm, fun h => absurd (aC s hs2).2 h⟩
  have hcr : CR M id (mI M 118) (BM M 0 0) := ⟨hh, hsp, hrep, a8.trans hz, fun j hj => absurd hj (Nat.not_lt_zero _), hsl, a9.trans hz, fun i hi => absurd hi (Nat.not_lt_zero _)⟩
  have hokb : OkB (BM M 0 0) := ⟨Nat.zero_le _, fun j hj => absurd hj (Nat.not_lt_zero _), fun s hs2 => ⟨Or.inl (aC s hs2).2, fun h => absurd (aC s hs2).2 h⟩, Nat.zero_le _⟩
  exact ⟨id, 0, 0, ⟨m1, hM⟩, aA.trans hz, aB.trans hz, hcr, hok, hokb⟩
theorem MC_inv : Inv MC := inv0 MC_1 MC_r0 MC_t MC_rM MC_rd MC_rs MC_rb MC_i1
theorem law_loop (xs : Nat → Int32) (L : Nat) : fL_law xs L = fL_loop xs L (some 0) (some 117) (some 126) (some 127) FU MC 0 := by
  have e1 : (nwO 2 M0).bind (fun M236 => (fX2_init M236 (some M0.1)).bind fun w237 =>
      (nwO 3 w237).bind fun M238 =>
      (fX3_init M238 (some w237.1)).bind fun w239 =>
      (nwA 5 w239 1).bind fun M240 =>
      (nwA 10 M240 1).bind fun M241 =>
      fL_loop xs L (some M0.1) (some w237.1) (some w239.1) (some M240.1) FU M241 0) = I1.bind fun w237 =>
      (nwO 3 w237).bind fun M238 =>
      (fX3_init M238 (some w237.1)).bind fun w239 =>
      (nwA 5 w239 1).bind fun M240 =>
      (nwA 10 M240 1).bind fun M241 =>
      fL_loop xs L (some M0.1) (some w237.1) (some w239.1) (some M240.1) FU M241 0 := (Option.bind_assoc _ _ _).symm
  have e2 : (nwO 3 MA).bind (fun M238 => (fX3_init M238 (some MA.1)).bind fun w239 =>
      (nwA 5 w239 1).bind fun M240 =>
      (nwA 10 M240 1).bind fun M241 =>
      fL_loop xs L (some M0.1) (some MA.1) (some w239.1) (some M240.1) FU M241 0) = I2.bind fun w239 =>
      (nwA 5 w239 1).bind fun M240 =>
      (nwA 10 M240 1).bind fun M241 =>
      fL_loop xs L (some M0.1) (some MA.1) (some w239.1) (some M240.1) FU M241 0 := (Option.bind_assoc _ _ _).symm
  have n1 : nwA 5 MB 1 = some (al MB) := by
    unfold nwA
    rw [MB_1]
    exact if_pos (by decide)
  have n2 : nwA 10 (al MB) 1 = some MC := by
    unfold nwA
    rw [show (al MB).1 = 127 from congrArg (· + 1) MB_1]
    exact if_pos (by decide)
  rw [fL_law, e1, I1_e, Option.bind_some, e2, I2_e, Option.bind_some, n1, Option.bind_some, n2, Option.bind_some, MA_1, MB_1, show (al MB).1 = 127 from congrArg (· + 1) MB_1]
  rfl
