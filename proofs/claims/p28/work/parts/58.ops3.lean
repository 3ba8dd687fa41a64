theorem s_signOf (M : Mem) (x : Int32) : fX2_signOf M x.toInt64 = some (if rcl x = 1 then 1 else if rcl x = 2 then -1 else 0) := by
  unfold fX2_signOf rcl
  have z : (0 : Int64) = (0 : Int32).toInt64 := by decide
  have hle : (lg_cmp x.toInt64 0 ≤ 0) ↔ x ≤ 0 := by
    rw [lg_cmp_le, z, Int64.le_iff_toInt_le, Int32.le_iff_toInt_le, Int32.toInt_toInt64, Int32.toInt_toInt64]
  have hge : (0 ≤ lg_cmp x.toInt64 0) ↔ 0 ≤ x := by
    rw [lg_cmp_ge, z, Int64.le_iff_toInt_le, Int32.le_iff_toInt_le, Int32.toInt_toInt64, Int32.toInt_toInt64]
  simp only [hle, hge]
  by_cases h1 : x ≤ 0
  · rw [if_pos h1, if_pos h1]
    by_cases h2 : 0 ≤ x
    · rw [if_pos h2, if_pos h2]; rfl
    · rw [if_neg h2, if_neg h2]; rfl
  · rw [if_neg h1, if_neg h1]; rfl
def clsOf (w : Int32) : Int32 := if w = 1 then 1 else if w = -1 then 2 else 3
theorem cls_iff {w x : Int32} (hw : sgn w) : ((if rcl x = 1 then (1 : Int32) else if rcl x = 2 then -1 else 0) = w) ↔ rcl x = clsOf w := by
  have h : rcl x = 1 ∨ rcl x = 2 ∨ rcl x = 3 := by unfold rcl; split; · split <;> simp
                                                   simp
  rcases h with h | h | h <;> rw [h] <;> rcases hw with rfl | rfl | rfl <;> decide
theorem HC0.hv {M : Mem} (h : HC0 M) : HV M := h.2.2.1
