/-! ===== the taken share ===== -/
theorem s_shareOf {M : Mem} {a : Nat} (h : Row M a) (hs : SgR (rC M a)) (hz : Nz (rC M a)) : fX2_shareOf M (some a) = some (shV (rC M a)) := by
  have hk := okSh_sh hs hz
  unfold fX2_shareOf
  unfold shV at hk ⊢
  have e0 : (nI (deg (rC M a)) = 0) ↔ deg (rC M a) = 0 := nI_eq (b := 0) (by have := deg_lt (rC M a); omega) (by decide)
  rw [s_degreeOf h, Option.bind_some]
  by_cases h0 : deg (rC M a) = 0
  · rw [if_pos (e0.mpr h0), if_pos h0]
  · rw [if_neg h0] at hk
    unfold okSh at hk
    simp only [Bool.and_eq_true] at hk
    rw [if_neg (fun q => h0 (e0.mp q)), if_neg h0, s_counted h sgn_1 hs, Option.bind_some, s_counted h (sgn_neg sgn_1) hs, Option.bind_some, s_counted h sgn_0 hs, Option.bind_some, nI_add, nI_add, chk, if_pos hk.1.1]
def outD (M : Mem) (x : UInt64) : Mem := sD M 125 0 x
theorem outD_w {M : Mem} (h : M.1 = 126) (x : UInt64) : wD M (some 125) 0 x = some (outD M x) := wD_at (n := 1) (k := 0) (by rw [h]; decide) rfl rfl (by decide) (by decide)
theorem outD_a {M : Mem} (h : M.1 = 126) : aD M (some 125) 0 = some (mD M 125 0) := aD_at (n := 1) (k := 0) (by rw [h]; decide) rfl rfl (by decide) (by decide)
