/-! ===== the first memory, and the law ===== -/
def I1 : Option Mem := (nwO 2 M0).bind fun M1 => fX2_init M1 (some M0.1)
set_option maxRecDepth 100000 in
theorem I1_s : I1.isSome = true := by decide +kernel
def MA : Mem := I1.getD M0
theorem I1_e : I1 = some MA := by
  have h := I1_s
  unfold MA
  cases hI : I1 with
  | none => rw [hI] at h; cases h
  | some m => rfl
set_option maxRecDepth 100000 in
theorem MA_1 : MA.1 = 117 := by decide +kernel
set_option maxRecDepth 100000 in
theorem MA_r0 : mR MA 0 0 = some 1 ∧ mR MA 0 1 = some 9 ∧ mR MA 0 3 = some 10 ∧ mR MA 0 4 = some 11 ∧ mR MA 0 5 = some 12 ∧ mR MA 0 7 = some 13 ∧ mR MA 0 8 = some 14 ∧ mR MA 0 9 = some 15 ∧ mR MA 15 0 = some 16 := by decide +kernel
set_option maxRecDepth 100000 in
theorem MA_t : ∀ k : Nat, k < 1231 → mJ MA 16 k = 0 := by decide +kernel
set_option maxRecDepth 100000 in
theorem MA_rd : ∀ i : Nat, i < 9 → mR MA (81 + 4 * i) 0 = some (82 + 4 * i) ∧ mR MA (81 + 4 * i) 1 = some (83 + 4 * i) ∧ mR MA (81 + 4 * i) 2 = some (84 + 4 * i) ∧ mR MA 14 i = some (81 + 4 * i) := by decide +kernel
set_option maxRecDepth 100000 in
theorem MA_rs : (∀ j : Nat, j < 6 → mR MA 9 j = some (17 + 8 * j)) ∧ (∀ s : Nat, s < 2 → mR MA 10 s = some (65 + 8 * s)) := by decide +kernel
set_option maxRecDepth 100000 in
theorem MA_rb : ∀ b : Nat, b < 74 → blk b = true → mR MA b 0 = some (b + 1) ∧ mR MA b 1 = some (b + 7) ∧ ∀ n : Nat, n < 5 → mR MA (b + 1) n = some (b + 2 + n) := by decide +kernel
set_option maxRecDepth 100000 in
theorem MA_i1 : (∀ n : Nat, n < 5 → ∀ k : Nat, k < 9 → mI MA (1 + 2 + n) k = (if k = 0 then 1 else 0)) ∧ mI MA 1 2 = 0 ∧ mI MA 1 3 = 0 ∧ mI MA 1 4 = 0 ∧ mI MA 0 2 = 0 ∧ mI MA 0 6 = 0 ∧ (∀ s : Nat, s < 2 → mI MA 11 s = 0) := by decide +kernel
/-- all polynomials 1, nothing else -/
def v0 : Nat → Int32 := fun i => if i < 45 ∧ i % 9 = 0 then 1 else 0
def B0 : BS := (0, fun _ _ => 0, fun _ => 0, fun _ _ => 0, 0, fun _ => 0)
theorem rv0 {n : Nat} (hn : n < 5) (k : Nat) : rv v0 n k = if k = 0 then 1 else 0 := by
  unfold rv v0
  by_cases h : k < 9
  · rw [if_pos h]
    by_cases h0 : k = 0
    · rw [if_pos h0, if_pos (by omega)]
    · rw [if_neg h0, if_neg (by omega)]
  · rw [if_neg h, if_neg (by omega)]
theorem start0 {M : Mem} (m1 : M.1 = 117)
    (h0 : mR M 0 0 = some 1 ∧ mR M 0 1 = some 9 ∧ mR M 0 3 = some 10 ∧ mR M 0 4 = some 11 ∧ mR M 0 5 = some 12 ∧ mR M 0 7 = some 13 ∧ mR M 0 8 = some 14 ∧ mR M 0 9 = some 15 ∧ mR M 15 0 = some 16)
    (ht : ∀ k : Nat, k < 1231 → mJ M 16 k = 0)
    (hd : ∀ i : Nat, i < 9 → mR M (81 + 4 * i) 0 = some (82 + 4 * i) ∧ mR M (81 + 4 * i) 1 = some (83 + 4 * i) ∧ mR M (81 + 4 * i) 2 = some (84 + 4 * i) ∧ mR M 14 i = some (81 + 4 * i))
    (hs : (∀ j : Nat, j < 6 → mR M 9 j = some (17 + 8 * j)) ∧ (∀ s : Nat, s < 2 → mR M 10 s = some (65 + 8 * s)))
    (hb : ∀ b : Nat, b < 74 → blk b = true → mR M b 0 = some (b + 1) ∧ mR M b 1 = some (b + 7) ∧ ∀ n : Nat, n < 5 → mR M (b + 1) n = some (b + 2 + n))
    (hi : (∀ n : Nat, n < 5 → ∀ k : Nat, k < 9 → mI M (1 + 2 + n) k = (if k = 0 then 1 else 0)) ∧ mI M 1 2 = 0 ∧ mI M 1 3 = 0 ∧ mI M 1 4 = 0 ∧ mI M 0 2 = 0 ∧ mI M 0 6 = 0 ∧ (∀ s : Nat, s < 2 → mI M 11 s = 0)) : Sx M v0 B0 := by
  obtain ⟨a1, a2, a3, a4, a8, a9, aC⟩ := hi
  obtain ⟨r0, r1, r2, r3, r4, r5, r6, r7, r8⟩ := h0
  have hc : cnt v0 = 0 := by decide
  have hok : OkV v0 := by
    refine ⟨fun i hi => ?_, fun n hn => ⟨0, by decide, by rw [rv0 hn]; decide⟩, ⟨by rw [hc]; decide, by rw [hc]; decide⟩, fun i hi => by rw [hc] at hi; omega⟩
    unfold v0
    split
    · exact sgn_1
    · exact sgn_0
  have hh : HC0 M := ⟨m1, ⟨r0, r1, r2, r3, r4, r5⟩, ⟨⟨r6, ⟨m1, r7, r8⟩, TI_0 ht⟩, fun i hi => ⟨⟨m1, hi, (hd i hi).1, (hd i hi).2.1, (hd i hi).2.2.1⟩, (hd i hi).2.2.2⟩⟩, fun b hb2 => hb b (blk_lt hb2) hb2, hs.2⟩
  have hsp : SpM M id := ⟨fun j hj => ⟨hs.1 j hj, hj⟩, fun i j _ _ h => h⟩
  have hrep : Rep M 1 v0 := by
    refine ⟨fun n hn => ?_, by rw [a2]; decide, fun i hi => by rw [hc] at hi; omega, by rw [a3]; decide, by rw [a4]; decide⟩
    funext k
    rw [rv0 hn]
    unfold rC
    by_cases h : k < 9
    · rw [if_pos h, a1 n hn k h]
    · rw [if_neg h, if_neg (by omega)]
  have hz : (0 : Int32) = nI 0 := nI_0.symm
  have hcr : CR M id v0 B0 := ⟨hh, hsp, hrep, a8.trans hz, fun j hj => absurd hj (Nat.not_lt_zero _), fun s hs2 => ⟨aC s hs2, fun h => absurd rfl h⟩, a9.trans hz, fun i hi => absurd hi (Nat.not_lt_zero _)⟩
  have hokb : OkB B0 := ⟨Nat.zero_le _, fun j hj => absurd hj (Nat.not_lt_zero _), fun s hs2 => ⟨Or.inl rfl, fun h => absurd rfl h⟩, Nat.zero_le _⟩
  exact ⟨⟨id, hcr⟩, hok, hokb⟩
theorem MA_s : Sx MA v0 B0 := start0 MA_1 MA_r0 MA_t MA_rd MA_rs MA_rb MA_i1
theorem deg_v0 {n : Nat} (hn : n < 5) : deg (rv v0 n) = 0 := by
  have h : rv v0 n = fun k => if k = 0 then 1 else 0 := funext (rv0 hn)
  rw [h]
  decide
theorem dgs_v0 : dgs v0 5 = 0 := by
  show 0 + deg (rv v0 0) + deg (rv v0 1) + deg (rv v0 2) + deg (rv v0 3) + deg (rv v0 4) = 0
  rw [deg_v0 (by decide), deg_v0 (by decide), deg_v0 (by decide), deg_v0 (by decide), deg_v0 (by decide)]
theorem one_one : Op.cmpValue (FP.dcmp FP.dconst1 FP.dconst1) .l = 0 := by decide +kernel
theorem law_true (xs : Nat → Int32) (L : Nat) (hL : L ≤ 260) : ∃ M1, fL_law xs L = some (M1, 1) := by
  obtain ⟨M1, e1, s1⟩ := o_keep MA_s
  rw [dgs_v0, nI_0] at e1
  have e2 : fX2_takenShare M1 (some 0) 0 = some FP.dconst1 := by
    have := g_share s1 (n := 0) (by decide)
    unfold shV at this
    rw [if_pos (deg_v0 (by decide))] at this
    exact this
  obtain ⟨M2, e3, s2⟩ := g_coef s1 (k := 0) (by decide)
  have e3' : fX2_coefficient M1 (some 0) 0 = some (M2, 1) := e3
  obtain ⟨M3, e4⟩ := loop_true xs hL 40 0 FU rfl (fu_9 (by decide)) M2 _ _ s2 (show uq B0.2.2.1 0 1 0 ≠ 0 by rw [uq_eq]; decide)
  rw [nI_0] at e4
  refine ⟨M3, ?_⟩
  have c7 : lg_cmp (1 : Int64) 1 = 0 := by decide
  unfold fL_law
  rw [show ((nwO 2 M0).bind fun M1 => (fX2_init M1 (some M0.1)).bind fun w2 =>
      (ck 2 w2 (some M0.1)).bind fun _ =>
      (fX2_keep w2 (some M0.1) 0).bind fun w3 =>
      if w3.2 = 0 then
        (ck 2 w3.1 (some M0.1)).bind fun _ =>
        (fX2_takenShare w3.1 (some M0.1) 0).bind fun w5 =>
        if (Op.cmpValue (FP.dcmp w5 FP.dconst1) .l) = 0 then
          (ck 2 w3.1 (some M0.1)).bind fun _ =>
          (fX2_coefficient w3.1 (some M0.1) 0).bind fun w7 =>
          if (lg_cmp w7.2 1) = 0 then
            fL_loop xs L (some M0.1) FU w7.1 0
          else
            none
        else
          none
      else
        none) = I1.bind fun w2 =>
      (ck 2 w2 (some 0)).bind fun _ =>
      (fX2_keep w2 (some 0) 0).bind fun w3 =>
      if w3.2 = 0 then
        (ck 2 w3.1 (some 0)).bind fun _ =>
        (fX2_takenShare w3.1 (some 0) 0).bind fun w5 =>
        if (Op.cmpValue (FP.dcmp w5 FP.dconst1) .l) = 0 then
          (ck 2 w3.1 (some 0)).bind fun _ =>
          (fX2_coefficient w3.1 (some 0) 0).bind fun w7 =>
          if (lg_cmp w7.2 1) = 0 then
            fL_loop xs L (some 0) FU w7.1 0
          else
            none
        else
          none
      else
        none from (Option.bind_assoc _ _ _).symm, I1_e, Option.bind_some, kk MA MA_s.hc, Option.bind_some, e1, Option.bind_some, if_pos rfl, kk M1 s1.hc, Option.bind_some, e2, Option.bind_some, if_pos one_one, Option.bind_some, e3', Option.bind_some, if_pos c7, e4]
