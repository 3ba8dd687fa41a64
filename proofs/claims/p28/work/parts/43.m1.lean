/-- the row n of a view -/
def rv (v : Nat → Int32) (n : Nat) : Nat → Int32 := fun k => if k < 9 then v (9 * n + k) else 0
theorem rv_lt (v : Nat → Int32) (n : Nat) {k : Nat} (h : k < 9) : rv v n k = v (9 * n + k) := if_pos h
def SgV (v : Nat → Int32) : Prop := ∀ i, i < 45 → sgn (v i)
theorem SgV.row {v : Nat → Int32} (h : SgV v) {n : Nat} (hn : n < 5) : SgR (rv v n) := by
  intro k
  unfold rv
  split
  · exact h _ (by omega)
  · exact sgn_0
theorem nI_lt9 {k : Nat} (hk : k < 2 ^ 31) : nI k < 9 ↔ k < 9 := nI_ltI (b := 9) hk (by decide)
/-- what saving makes of the model's saved texts -/
def shf (g : Nat → Int32) : Nat → Int32 := bq g 0 280 (fun i => g (i + 56))
theorem uq_uq {α : Type} (g : Nat → α) (k : Nat) (v w : α) : uq (uq g k v) k w = uq g k w := uq_upd g k v w
theorem setA_comm (M : Mem) {a b : Nat} (f g : Nat → Int32) (h : a ≠ b) : setA (setA M a f) b g = setA (setA M b g) a f := by
  refine Prod.ext rfl (Prod.ext ?_ rfl)
  funext c
  show (if c = b then g else if c = a then f else mI M c) = (if c = a then f else if c = b then g else mI M c)
  by_cases h1 : c = a
  · subst h1; simp [h]
  · simp [h1]
/-- the counted of a row's first d + 1 places -/
def ccd (r : Int32) (g : Nat → Int32) (d : Nat) : Nat := if r = 0 then zbF g 0 (d + 1) else chs r 0 (seg g 0 (d + 1))
