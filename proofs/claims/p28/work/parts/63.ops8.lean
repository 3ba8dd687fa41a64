def sg (x : Int64) : Int32 := if lg_cmp x 0 ≤ 0 then (if 0 ≤ lg_cmp x 0 then 0 else -1) else 1
theorem sg_sgn (x : Int64) : sgn (sg x) := by
  unfold sg
  split
  · split
    · exact sgn_0
    · exact sgn_neg sgn_1
  · exact sgn_1
theorem whW_top (v : Nat → Int32) : ∀ i, whW v i i = 1 := by
  intro i
  induction i with
  | zero => rfl
  | succ i ih =>
    show mulW (v (46 + i)) (whW v i) (i + 1) = 1
    unfold mulW
    rw [if_neg (by omega), Nat.add_sub_cancel, ih, whW_0 v i (i + 1) (by omega), Int64.mul_zero, Int64.sub_zero]
