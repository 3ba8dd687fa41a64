def dgs (v : Nat → Int32) : Nat → Nat
  | 0 => 0
  | i + 1 => dgs v i + deg (rv v i)
theorem s_degs {M : Mem} (hc : HC0 M) {v : Nat → Int32} (hr : Rep M 1 v) : fX2_degreesTogether M (some 0) = some (nI (dgs v 5)) := by
  unfold fX2_degreesTogether
  have e := loopA (fX2_degreesTogether_4 M (some 0)) 5 (fun i => nI (dgs v i)) (fun i hi k m => by
    have f1 := s_degreeOf (bRow hi blk_1 hc)
    rw [hr.1 i hi] at f1
    rw [fX2_degreesTogether_4, if_neg (lt5_f i hi), now_row hc hi, f1, Option.bind_some, nI_1, nI_add]
    rfl) (fun k m => by rw [fX2_degreesTogether_4, if_pos (by decide)]) 5 0 FU rfl (fu_9 (by decide))
  exact e _
theorem dgs_cg {v w : Nat → Int32} (h : ∀ t, t < 5 → rv v t = rv w t) : ∀ n, n ≤ 5 → dgs v n = dgs w n := by
  intro n
  induction n with
  | zero => intro _; rfl
  | succ n ih => intro hn; rw [dgs, dgs, ih (by omega), h n (by omega)]
