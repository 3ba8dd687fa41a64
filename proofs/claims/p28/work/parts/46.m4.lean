/-- how many roots -/
def cnt (v : Nat → Int32) : Nat := (v 45).toNatClampNeg
def OkC (v : Nat → Int32) : Prop := cnt v ≤ 8 ∧ v 45 = nI (cnt v)
/-- the sign class of a root: 1 above, 2 below, 3 none -/
def rcl (x : Int32) : Int32 := if x ≤ 0 then (if 0 ≤ x then 3 else 2) else 1
def rtF (v : Nat → Int32) (w : Int32) : Nat → Nat
  | 0 => 0
  | i + 1 => rtF v w i + (if rcl (v (46 + i)) = w then 1 else 0)
def w1F (v : Nat → Int32) : Nat → Nat
  | 0 => 0
  | i + 1 => w1F v i + (if hasR (rv v i) 1 then 1 else 0)
theorem lt5_f : ∀ k : Nat, k < 5 → ¬ (5 : Int32) ≤ nI k := by decide
/-- what is told by count -/
def tcV (v : Nat → Int32) (c : Nat) (w : Nat) : Int32 := if w = 0 then nI (cnt v) else if w = 1 then nI (rtF v 1 (cnt v)) else if w = 2 then nI (rtF v 2 (cnt v)) else if w = 3 then nI (rtF v 3 (cnt v)) else if w = 4 then v 54 else if w = 5 then v 55 else if w = 6 then nI (w1F v 5) else nI c
/-- the whole numbers: a row times a root's factor -/
def mulW (x : Int32) (f : Nat → Int64) : Nat → Int64 := fun k => if k = 0 then 0 - x.toInt64 * f 0 else f (k - 1) - x.toInt64 * f k
def oneW : Nat → Int64 := fun k => if k = 0 then 1 else 0
def whW (v : Nat → Int32) : Nat → Nat → Int64
  | 0 => oneW
  | i + 1 => mulW (v (46 + i)) (whW v i)
/-- cut to the nine places, the rest as it lies -/
def cutW (g f : Nat → Int64) : Nat → Int64 := fun k => if k < 9 then f k else g k
/-- a row whose places from i on are multiplied already -/
def parW (x : Int32) (f : Nat → Int64) (i : Nat) : Nat → Int64 := fun k => if i ≤ k then mulW x f k else f k
theorem pk_sub1 {j : Nat} (h : j ≠ 0) : nI j - 1 = nI (j - 1) := by
  obtain ⟨q, rfl⟩ : ∃ q, j = q + 1 := ⟨j - 1, by omega⟩
  exact nI_pred q
theorem eq0_iff : ∀ k : Nat, k < 9 → ((nI k = 0) ↔ k = 0) := by decide
theorem cut_cg (g : Nat → Int64) {f f2 : Nat → Int64} (h : ∀ k, k < 9 → f k = f2 k) : cutW g f = cutW g f2 := by
  funext k
  unfold cutW
  split
  · next hk => exact h k hk
  · rfl
theorem cut_lt (g f : Nat → Int64) {k : Nat} (h : k < 9) : cutW g f k = f k := if_pos h
