def mx (h v : Int64) : Int64 := 31 * h + v
def hx (h : Int64) (xs : List Int64) : Int64 := xs.foldl mx h
theorem hx_nil (h : Int64) : hx h [] = h := rfl
theorem hx_cons (h v : Int64) (xs : List Int64) : hx h (v :: xs) = hx (mx h v) xs := rfl
theorem hx_app (h : Int64) (xs ys : List Int64) : hx h (xs ++ ys) = hx (hx h xs) ys := List.foldl_append
theorem hx_one (h v : Int64) : hx h [v] = mx h v := rfl
def bfm (g : Nat → Int32) (r : Int32) : Int32 := if cntd g r = 0 then -9 else form (lrow (bst r (quo g r)).2)
def rootL (g : Nat → Int32) (r : Int32) : List Int64 := [(b2 (hasR g r)).toInt64, (nI (cntd g r)).toInt64, (nI (cntd g r)).toInt64, (nI (quo g r).length).toInt64, (bfm g r).toInt64]
def sgL (g : Nat → Int32) (i : Nat) : List Int64 := (List.range i).map fun k => (g k).toInt64
def telL (g : Nat → Int32) (i : Nat) : List Int64 := (List.range i).map fun w => (tel g w).toInt64
def rowL (g : Nat → Int32) : List Int64 := telL g 4 ++ (sgL g 9 ++ (rootL g (-1) ++ (rootL g 0 ++ (rootL g 1 ++ [(shV g).toInt64]))))
theorem b64 (b : Bool) : (if b2 b = 0 then (0 : Int64) else 1) = (b2 b).toInt64 := by cases b <;> decide
theorem s_bestForm {Mc : Mem} (hV : HV Mc) {g : Nat → Int32} (hs : SgR g) (hz : Nz g) {r : Int32} (hr : sgn r) (w1 : cntd g r ≠ 0 → ∀ k, k < 9 → mI Mc 84 k = lrow (bst r (quo g r)).2 k) : fX2_bestForm Mc (some 0) (nI (cntd g r)) = some (bfm g r) := by
  have hK := cnt_0 hs hz hr
  unfold fX2_bestForm bfm
  by_cases h0 : cntd g r = 0
  · rw [if_pos (hK.mpr h0), if_pos h0]
  · rw [if_neg (fun q => h0 (hK.mp q)), if_neg h0, hV.g, Option.bind_some, hV.a0, Option.bind_some, show gR 0 2 Mc (some 81) = some (some 84) from dv2 Mc 0 (hV.2 0 (by decide)).1, Option.bind_some, s_formOf (show Row Mc 84 from rw82 (hV.2 0 (by decide)).1), Option.bind_some]
    refine congrArg some (form_cg fun i hi => ?_)
    rw [rC, if_pos hi, w1 h0 i hi]
theorem sgL_s (g : Nat → Int32) (i : Nat) : sgL g (i + 1) = sgL g i ++ [(g i).toInt64] := by
  unfold sgL
  rw [List.range_succ, List.map_append]; rfl
