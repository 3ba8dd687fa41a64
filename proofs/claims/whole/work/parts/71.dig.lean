/-! ===== the digest: both fold the same list ===== -/
def mx (h v : Int64) : Int64 := 31 * h + v
def hx (h : Int64) (xs : List Int64) : Int64 := xs.foldl mx h
theorem hx_nil (h : Int64) : hx h [] = h := rfl
theorem hx_cons (h v : Int64) (xs : List Int64) : hx h (v :: xs) = hx (mx h v) xs := rfl
theorem hx_app (h : Int64) (xs ys : List Int64) : hx h (xs ++ ys) = hx (hx h xs) ys := List.foldl_append
theorem hx_one (h v : Int64) : hx h [v] = mx h v := rfl
def bfm (g : Nat → Int32) (r : Int32) : Int32 := if cntd g r = 0 then -9 else form (lrow (bst r (quo g r)).2)
def rootL (g : Nat → Int32) (r : Int32) : List Int64 := [(b2 (hasR g r)).toInt64, (nI (cntd g r)).toInt64, (nI (cntd g r)).toInt64, (nI (quo g r).length).toInt64, (bfm g r).toInt64]
def sgL (g : Nat → Int32) (i : Nat) : List Int64 := (List.range i).map fun k => (g k).toInt64
def telL (g : Nat → Int32) (i : Nat) : List Int64 := (List.range i).map fun w => (tel g w).toInt64
def rowL (g : Nat → Int32) : List Int64 := telL g 4 ++ (sgL g 9 ++ (rootL g (-1) ++ (rootL g 0 ++ (rootL g 1 ++ [(shV g).toInt64]))))
theorem Inv.fr {M M2 : Mem} (hI : Inv M) {S : Nat → Prop} (hf : Fr S M M2) (hs : ∀ b, S b → 79 ≤ b ∧ b < 115) : Inv M2 ∧ mI M2 116 = mI M 116 := by
  obtain ⟨sp, c, l, i1, i2, i3, i4, i5, i6⟩ := hI
  have hc := hf.frC (fun b hb q => by have := hs b q; omega)
  have e : ∀ b, 115 ≤ b → mI M2 b = mI M b := fun b hb => (hc.2.2 b hb).1
  refine ⟨Inv.same (M := M) (i4.fr i6.1 hf (fun b hb => (hs b hb).1)) (i1.frC hc) (FrM.refl M2) ?_ ?_ (e _ (by decide)) (e _ (by decide)) (e _ (by decide)) (e _ (by decide)) (e _ (by decide)) i5 i6, e 116 (by decide)⟩
  · rw [e 115 (by decide), i2]
  · rw [e 115 (by decide), i3]
theorem s_mixed (M : Mem) (h v : Int64) : fX2_mixed M h v = some (mx h v) := rfl
theorem b64 (b : Bool) : (if b2 b = 0 then (0 : Int64) else 1) = (b2 b).toInt64 := by cases b <;> decide
