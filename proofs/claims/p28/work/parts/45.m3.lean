theorem pw0 : ∀ k : Nat, k < 9 → pw 0 k = if k = 0 then 1 else 0 := by decide
theorem le0_iff : ∀ k : Nat, k < 9 → ((nI k ≤ 0) ↔ k = 0) := by decide
theorem odd_iff : ∀ k : Nat, k < 9 → ((nI k - nI k / 2 * 2 = 1) ↔ k % 2 = 1) := by decide
theorem pw_o {r : Int32} (h : r = 1 ∨ r = -1) : ∀ i : Nat, i < 9 → pw r i = if i % 2 = 1 then r else 1 := by
  rcases h with rfl | rfl <;> decide
def b2 (b : Bool) : Int32 := if b then 1 else 0
theorem has_st (p : Bool) {x : Int32} (hx : sgn x) : (if b2 p = 0 then (if x ≤ 0 then 0 else 1) else (1 : Int32)) = b2 (p || isP x) := by
  rcases hx with rfl | rfl | rfl <;> cases p <;> decide
theorem has_st2 (p : Bool) {x : Int32} (hx : sgn x) : (if b2 p = 0 then (if 0 ≤ x then 0 else 1) else (1 : Int32)) = b2 (p || isM x) := by
  rcases hx with rfl | rfl | rfl <;> cases p <;> decide
theorem has_st3 (p : Bool) : (if b2 p = 0 then 0 else (1 : Int32)) = b2 p := by cases p <;> decide
def onl (p m : Bool) : Int32 := if p then 1 else if m then -1 else 0
