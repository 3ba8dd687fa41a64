theorem rv_9 (v : Nat → Int32) (n : Nat) {k : Nat} (h : 9 ≤ k) : rv v n k = 0 := if_neg (by omega)
theorem seg_cg {f g : Nat → Int32} : ∀ j i, (∀ k, i ≤ k → k < i + j → f k = g k) → seg f i j = seg g i j := by
  intro j
  induction j with
  | zero => intro i _; rfl
  | succ j ih =>
    intro i h
    rw [seg, seg, h i (by omega) (by omega), ih (i + 1) (fun k h1 h2 => h k (by omega) (by omega))]
theorem zbF_cg {f g : Nat → Int32} : ∀ j i, (∀ k, i ≤ k → k < i + j → f k = g k) → zbF f i j = zbF g i j := by
  intro j
  induction j with
  | zero => intro i _; rfl
  | succ j ih =>
    intro i h
    rw [zbF, zbF, h i (by omega) (by omega), ih (i + 1) (fun k h1 h2 => h k (by omega) (by omega))]
theorem ccd_cg {r : Int32} {f g : Nat → Int32} {d : Nat} (h : ∀ k, k ≤ d → f k = g k) : ccd r f d = ccd r g d := by
  unfold ccd
  rw [seg_cg (d + 1) 0 (fun k _ h2 => h k (by omega)), zbF_cg (d + 1) 0 (fun k _ h2 => h k (by omega))]
theorem seg_app (g : Nat → Int32) : ∀ a i b, seg g i (a + b) = seg g i a ++ seg g (i + a) b := by
  intro a
  induction a with
  | zero => intro i b; simp [seg]
  | succ a ih =>
    intro i b
    rw [show a + 1 + b = (a + b) + 1 by omega, seg, seg, ih (i + 1) b, show i + 1 + a = i + (a + 1) by omega]
    rfl
theorem chs_zeros (a : Int32) : ∀ j (l : Int32), chs a l (List.replicate j 0) = 0 := by
  intro j
  induction j with
  | zero => intro l; rfl
  | succ j ih => intro l; simp [List.replicate_succ, chs, chg, nxl, ih]
theorem chs_app (a : Int32) (ys : List Int32) (hy : ∀ l, chs a l ys = 0) : ∀ (xs : List Int32) (l : Int32), chs a l (xs ++ ys) = chs a l xs := by
  intro xs
  induction xs with
  | nil => intro l; exact hy l
  | cons x xs ih => intro l; simp [chs, ih]
theorem seg_zero (g : Nat → Int32) : ∀ j i, (∀ k, i ≤ k → k < i + j → g k = 0) → seg g i j = List.replicate j 0 := by
  intro j
  induction j with
  | zero => intro i _; rfl
  | succ j ih =>
    intro i h
    rw [seg, h i (by omega) (by omega), ih (i + 1) (fun k h1 h2 => h k (by omega) (by omega))]
    rfl
theorem zbF_stop (g : Nat → Int32) : ∀ j i b k, i ≤ k → k < i + j → g k ≠ 0 → zbF g i (j + b) = zbF g i j := by
  intro j
  induction j with
  | zero => intro i b k h1 h2; omega
  | succ j ih =>
    intro i b k h1 h2 h3
    rw [show j + 1 + b = (j + b) + 1 by omega, zbF, zbF]
    by_cases hg : g i = 0
    · rw [if_pos hg, if_pos hg]
      have hne : i ≠ k := fun e => h3 (e ▸ hg)
      exact ih (i + 1) b k (by omega) (by omega) h3
    · rw [if_neg hg, if_neg hg]
/-- some place below 9 isn't 0 -/
def Nz (g : Nat → Int32) : Prop := ∃ k, k < 9 ∧ g k ≠ 0
theorem deg_ne {g : Nat → Int32} (h : Nz g) : g (deg g) ≠ 0 := degF_ne g 9 h
theorem deg_top (g : Nat → Int32) {k : Nat} (h : deg g < k) (h2 : k < 9) : g k = 0 := degF_top g 9 k h h2
theorem ccd_deg {r : Int32} {g : Nat → Int32} (h : Nz g) : ccd r g (deg g) = cntd g r := by
  unfold ccd cntd
  have h1 := deg_lt g
  by_cases h0 : r = 0
  · rw [if_pos h0, if_pos h0]
    have e := zbF_stop g (deg g + 1) 0 (8 - deg g) (deg g) (by omega) (by omega) (deg_ne h)
    rw [show deg g + 1 + (8 - deg g) = 9 by omega] at e
    exact e.symm
  · rw [if_neg h0, if_neg h0]
    have e := seg_app g (deg g + 1) 0 (8 - deg g)
    rw [show deg g + 1 + (8 - deg g) = 9 by omega, seg_zero g (8 - deg g) (0 + (deg g + 1)) (fun k h2 h3 => deg_top g (by omega) (by omega))] at e
    rw [e, chs_app r _ (fun l => chs_zeros r _ l)]
theorem setA_cg (M : Mem) (a : Nat) {f g : Nat → Int32} (h : f = g) : setA M a f = setA M a g := by rw [h]
def NzV (v : Nat → Int32) : Prop := ∀ n, n < 5 → Nz (rv v n)
theorem formD_cg {f g : Nat → Int32} : ∀ k x, (∀ i, i < k → f i = g i) → formD f k x = formD g k x := by
  intro k
  induction k with
  | zero => intro x _; rfl
  | succ k ih =>
    intro x h
    rw [formD, formD, h k (by omega), ih _ (fun i hi => h i (by omega))]
theorem form_cg {f g : Nat → Int32} (h : ∀ i, i < 9 → f i = g i) : form f = form g := formD_cg 9 0 h
theorem nzF_cg {f g : Nat → Int32} : ∀ k, (∀ i, i < k → f i = g i) → nzF f k = nzF g k := by
  intro k
  induction k with
  | zero => intro _; rfl
  | succ k ih =>
    intro h
    rw [nzF, nzF, h k (by omega), ih (fun i hi => h i (by omega))]
/-- what is told of a row -/
def tel (g : Nat → Int32) (w : Nat) : Int32 := if w = 0 then nI (deg g) else if w = 1 then nI (nzF g 9) else if w = 2 then nI (cntd g 1) else form g
