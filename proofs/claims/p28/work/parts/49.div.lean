/-- the digit at place i of k + 1 places -/
def dgf (k N : Nat) : Nat → Int32 := fun i => nI (N / 3 ^ (k - i) % 3) - 1
theorem dgf_seg (k N : Nat) : ∀ j i, i + j = k + 1 → seg (dgf k N) i j = dig j (N % 3 ^ j) := by
  intro j
  induction j with
  | zero => intro i _; rfl
  | succ j ih =>
    intro i hi
    rw [seg, dig, ih (i + 1) (by omega)]
    have e1 : N % 3 ^ (j + 1) / 3 ^ j = N / 3 ^ j % 3 := by rw [Nat.pow_succ, Nat.mod_mul_right_div_self]
    have e2 : N % 3 ^ (j + 1) % 3 ^ j = N % 3 ^ j := Nat.mod_mod_of_dvd _ (Nat.pow_dvd_pow 3 (by omega))
    rw [e1, e2, dgf, show k - i = j by omega]
def digc (g : Nat → Int32) (k N j : Nat) : Nat → Int32 := fun i => if j ≤ i ∧ i ≤ k then dgf k N i else g i
theorem dgf_sgn (k N i : Nat) : sgn (dgf k N i) := by
  unfold dgf
  have : ∀ q : Nat, q < 3 → sgn (nI q - 1) := by unfold sgn; decide
  exact this _ (Nat.mod_lt _ (by decide))
theorem p3 : ∀ k : Nat, k < 9 → 3 ^ k < 20000 := by decide
theorem ccd_cl (r : Int32) (f : Nat → Int32) (d : Nat) : ccd r f d = cl r (seg f 0 (d + 1)) := by
  unfold ccd cl
  rw [zbF_zl, Nat.zero_add]
theorem lst_seg (f : Nat → Int32) : ∀ j i p, lst p (seg f i (j + 1)) = f (i + j) := by
  intro j
  induction j with
  | zero => intro i p; rfl
  | succ j ih =>
    intro i p
    rw [seg, lst, ih (i + 1), show i + 1 + j = i + (j + 1) by omega]
/-- a list as a row -/
def lrow (q : List Int32) : Nat → Int32 := fun i => q.getD i 0
def cuti (g f : Nat → Int32) : Nat → Int32 := fun i => if i < 9 then f i else g i
theorem seg_getD (f : Nat → Int32) : ∀ j i t, t < j → (seg f i j).getD t 0 = f (i + t) := by
  intro j
  induction j with
  | zero => intro i t h; omega
  | succ j ih =>
    intro i t h
    rw [seg]
    cases t with
    | zero => rfl
    | succ t =>
      rw [List.getD_cons_succ, ih (i + 1) t (by omega), show i + 1 + t = i + (t + 1) by omega]
theorem lrow_seg (f : Nat → Int32) (j t : Nat) : lrow (seg f 0 j) t = if t < j then f t else 0 := by
  unfold lrow
  split
  · next h => rw [seg_getD f j 0 t h, Nat.zero_add]
  · next h => rw [List.getD_eq_getElem?_getD, List.getElem?_eq_none (by rw [seg_len]; omega)]; rfl
/-- what is noted after some rows -/
def Ntd (r : Int32) (P : List (List Int32)) (g : Nat → Int32) (x : Int32) : Prop := x = nI (bst r P).1 - 1 - (if (bst r P).1 = 0 then 8 else 0) ∧ ((bst r P).1 ≠ 0 → ∀ i, i < 9 → g i = lrow (bst r P).2 i)
theorem zl_le : ∀ xs : List Int32, zl xs ≤ xs.length := by
  intro xs
  induction xs with
  | nil => exact Nat.le_refl _
  | cons x xs ih => unfold zl; split <;> simp <;> omega
theorem chs_le (a : Int32) : ∀ (xs : List Int32) (l : Int32), chs a l xs ≤ xs.length := by
  intro xs
  induction xs with
  | nil => intro l; exact Nat.le_refl _
  | cons x xs ih =>
    intro l
    have := ih (a * nxl l x)
    simp only [chs, List.length_cons]
    have : chg l x ≤ 1 := by unfold chg; split <;> decide
    omega
theorem cl_le (a : Int32) (xs : List Int32) : cl a xs ≤ xs.length := by
  unfold cl
  split
  · exact zl_le xs
  · exact chs_le a xs 0
theorem bst_app (r : Int32) (P : List (List Int32)) (q : List Int32) : bst r (P ++ [q]) = stp r (bst r P) q := by
  unfold bst
  rw [List.foldl_append]; rfl
theorem bst_le (r : Int32) (P : List (List Int32)) (k : Nat) (h : ∀ q ∈ P, q.length ≤ k) : (bst r P).1 ≤ k + 1 :=
  (fold_ub r (k + 1) P (0, []) (Nat.zero_le _) (fun q hq => by have := cl_le r q; have := h q hq; omega)).2.1
theorem cmpN : ∀ c : Nat, c < 10 → ∀ b : Nat, b < 11 → ((nI c ≤ nI b - 1 - (if b = 0 then 8 else 0)) ↔ c + 1 ≤ b) := by decide
/-- all quotients of a row -/
def quo (g : Nat → Int32) (r : Int32) : List (List Int32) := qE r 0 (seg g 0 (deg g + 1))
