/-! ===== the model's queries, continued ===== -/
theorem rv_9 (v : Nat → Int32) (n : Nat) {k : Nat} (h : 9 ≤ k) : rv v n k = 0 := if_neg (by omega)
theorem seg_cg {f g : Nat → Int32} : ∀ j i, (∀ k, i ≤ k → k < i + j → f k = g k) → seg f i j = seg g i j := by
  intro j
  induction j with
  | zero => intro i _; rfl
  | succ j ih =>
    intro i h
    rw [seg, seg, h i (by omega) (by omega), ih (i + 1) (fun k h1 h2 => h k (by omega) (by omega))]
theorem zbF_cg {f g : Nat → Int32} : ∀ j i, (∀ k, i ≤ k → k < i + j → f k = g k) → zbF f i j = zbF g i j := by
  intro j
  induction j with
  | zero => intro i _; rfl
  | succ j ih =>
    intro i h
    rw [zbF, zbF, h i (by omega) (by omega), ih (i + 1) (fun k h1 h2 => h k (by omega) (by omega))]
theorem ccd_cg {r : Int32} {f g : Nat → Int32} {d : Nat} (h : ∀ k, k ≤ d → f k = g k) : ccd r f d = ccd r g d := by
  unfold ccd
  rw [seg_cg (d + 1) 0 (fun k _ h2 => h k (by omega)), zbF_cg (d + 1) 0 (fun k _ h2 => h k (by omega))]
theorem seg_app (g : Nat → Int32) : ∀ a i b, seg g i (a + b) = seg g i a ++ seg g (i + a) b := by
  intro a
  induction a with
  | zero => intro i b; simp [seg]
  | succ a ih =>
    intro i b
    rw [show a + 1 + b = (a + b) + 1 by omega, seg, seg, ih (i + 1) b, show i + 1 + a = i + (a + 1) by omega]
    rfl
theorem chs_zeros (a : Int32) : ∀ j (l : Int32), chs a l (List.replicate j 0) = 0 := by
  intro j
  induction j with
  | zero => intro l; rfl
  | succ j ih => intro l; simp [List.replicate_succ, chs, chg, nxl, ih]
theorem chs_app (a : Int32) (ys : List Int32) (hy : ∀ l, chs a l ys = 0) : ∀ (xs : List Int32) (l : Int32), chs a l (xs ++ ys) = chs a l xs := by
  intro xs
  induction xs with
  | nil => intro l; exact hy l
  | cons x xs ih => intro l; simp [chs, ih]
theorem seg_zero (g : Nat → Int32) : ∀ j i, (∀ k, i ≤ k → k < i + j → g k = 0) → seg g i j = List.replicate j 0 := by
  intro j
  induction j with
  | zero => intro i _; rfl
  | succ j ih =>
    intro i h
    rw [seg, h i (by omega) (by omega), ih (i + 1) (fun k h1 h2 => h k (by omega) (by omega))]
    rfl
theorem zbF_stop (g : Nat → Int32) : ∀ j i b k, i ≤ k → k < i + j → g k ≠ 0 → zbF g i (j + b) = zbF g i j := by
  intro j
  induction j with
  | zero => intro i b k h1 h2; omega
  | succ j ih =>
    intro i b k h1 h2 h3
    rw [show j + 1 + b = (j + b) + 1 by omega, zbF, zbF]
    by_cases hg : g i = 0
    · rw [if_pos hg, if_pos hg]
      have hne : i ≠ k := fun e => h3 (e ▸ hg)
      exact ih (i + 1) b k (by omega) (by omega) h3
    · rw [if_neg hg, if_neg hg]
/-- some place below 9 isn't 0 -/
def Nz (g : Nat → Int32) : Prop := ∃ k, k < 9 ∧ g k ≠ 0
theorem deg_ne {g : Nat → Int32} (h : Nz g) : g (deg g) ≠ 0 := degF_ne g 9 h
theorem deg_top (g : Nat → Int32) {k : Nat} (h : deg g < k) (h2 : k < 9) : g k = 0 := degF_top g 9 k h h2
theorem ccd_deg {r : Int32} {g : Nat → Int32} (h : Nz g) : ccd r g (deg g) = cntd g r := by
  unfold ccd cntd
  have h1 := deg_lt g
  by_cases h0 : r = 0
  · rw [if_pos h0, if_pos h0]
    have e := zbF_stop g (deg g + 1) 0 (8 - deg g) (deg g) (by omega) (by omega) (deg_ne h)
    rw [show deg g + 1 + (8 - deg g) = 9 by omega] at e
    exact e.symm
  · rw [if_neg h0, if_neg h0]
    have e := seg_app g (deg g + 1) 0 (8 - deg g)
    rw [show deg g + 1 + (8 - deg g) = 9 by omega, seg_zero g (8 - deg g) (0 + (deg g + 1)) (fun k h2 h3 => deg_top g (by omega) (by omega))] at e
    rw [e, chs_app r _ (fun l => chs_zeros r _ l)]
theorem setA_cg (M : Mem) (a : Nat) {f g : Nat → Int32} (h : f = g) : setA M a f = setA M a g := by rw [h]
def NzV (v : Nat → Int32) : Prop := ∀ n, n < 5 → Nz (rv v n)
def oftM (M : Mem) (n : Nat) : Mem := setA M 123 (bq (mI M 123) 0 9 (rv (mI M 118) n))
theorem q_often_2 (M : Mem) (h : HM M) {n : Nat} (hn : n < 5) (a2 : Int32) : ∀ k, fX3_often_2 (some 117) (nI n) a2 k FU M 0 = k (oftM M n) (nI 9) := by
  have e := loopF (fX3_often_2 (some 117) (nI n) a2) 9 (fun i => setA M 123 (bq (mI M 123) 0 i (rv (mI M 118) n))) (fun i hi k m => by
    have e2 := bq_s (mI M 123) 0 i (rv (mI M 118) n)
    rw [Nat.zero_add] at e2
    have e3 := q_signAt (setA M 123 (bq (mI M 123) 0 i (rv (mI M 118) n))) h hn (k := i) (by omega)
    rw [fX3_often_2, if_neg (ge9_f i hi)]
    simp (disch := first | omega | (simp only [HM_setA, HM_setJ, h]; done) | (simp only [lm6, lm7, lm8, lm0, lm1, lm2]; omega)) only [mo1, mo2, mo4, mo5, mo6, mo8, mo9, mo11, mog, mop, mogJ, mopJ, mok, moa, mow, moaJ, mowJ, moaZ, mowZ, Option.bind_some, mI_eq, mI_ne, mJ_eq, mJ_ne, mI_setJ, mJ_setA, setA_setA, setJ_setJ, uq_eq, uq_ne, uq_uq, nI_1, e3, e2]) (fun k m => by rw [fX3_often_2, if_pos ge9_t]) 9 0 FU rfl (fu_9 (by decide))
  rw [bq_0, setA_id] at e
  exact e
theorem rv_121 {M : Mem} {n k : Nat} (hk : k < 9) : mI (oftM M n) 123 k = rv (mI M 118) n k := by
  unfold oftM
  rw [mI_eq]
  have e := bq_in (mI M 123) 0 9 (rv (mI M 118) n) hk
  rw [Nat.zero_add] at e
  exact e
theorem q_often (M : Mem) (h : HM M) (hs : SgV (mI M 118)) (hz : NzV (mI M 118)) {n : Nat} (hn : n < 5) {r : Int32} (hr : sgn r) : fX3_often M (some 117) (nI n) r = some (oftM M n, nI (cntd (rv (mI M 118) n) r)) := by
  unfold fX3_often
  have h1 := deg_lt (rv (mI M 118) n)
  have ho : HM (oftM M n) := h
  have e4 : mI (oftM M n) 118 = mI M 118 := mI_ne _ _ (by decide)
  rw [q_often_2 M h hn, mo8 _ ho, Option.bind_some, mok _ ho, Option.bind_some, q_degree _ ho hn, Option.bind_some, e4,
    q_changes _ ho rfl hr (fun i hi => by rw [rv_121 (by omega)]; exact hs.row hn i) h1, Option.bind_some, ccd_cg (g := rv (mI M 118) n) (fun k hk => rv_121 (by omega)), ccd_deg (hz n hn)]
theorem q_form (M : Mem) (h : HM M) {a : Nat} (ha : lm a = 9) : fX3_form M (some a) = some (form (mI M a)) := by
  have go : ∀ (j n : Nat) (x : Int32), j ≤ 9 → j < n → fX3_form_5 M (some a) (fun x _ => some x) n x (nI j + (-1)) = some (formD (mI M a) j x) := by
    intro j
    induction j with
    | zero =>
      intro n x _ hn
      obtain ⟨n, rfl⟩ := suc_of hn
      rw [fX3_form_5, if_pos (by decide)]
      rfl
    | succ j ih =>
      intro n x hj hn
      obtain ⟨n, rfl⟩ := suc_of hn
      rw [pk_m1, fX3_form_5, if_neg (lt0_f j (by omega)), moa _ a _ (by omega) h, Option.bind_some]
      exact ih n _ (by omega) (by omega)
  exact go 9 FU 0 (by decide) (fu_9 (by decide))
theorem formD_cg {f g : Nat → Int32} : ∀ k x, (∀ i, i < k → f i = g i) → formD f k x = formD g k x := by
  intro k
  induction k with
  | zero => intro x _; rfl
  | succ k ih =>
    intro x h
    rw [formD, formD, h k (by omega), ih _ (fun i hi => h i (by omega))]
theorem form_cg {f g : Nat → Int32} (h : ∀ i, i < 9 → f i = g i) : form f = form g := formD_cg 9 0 h
theorem nzF_cg {f g : Nat → Int32} : ∀ k, (∀ i, i < k → f i = g i) → nzF f k = nzF g k := by
  intro k
  induction k with
  | zero => intro _; rfl
  | succ k ih =>
    intro h
    rw [nzF, nzF, h k (by omega), ih (fun i hi => h i (by omega))]
/-- what is told of a row -/
def tel (g : Nat → Int32) (w : Nat) : Int32 := if w = 0 then nI (deg g) else if w = 1 then nI (nzF g 9) else if w = 2 then nI (cntd g 1) else form g
def telM (M : Mem) (n w : Nat) : Mem := if w = 0 then M else oftM M n
theorem q_tells_27 (M : Mem) (h : HM M) {n : Nat} (hn : n < 5) (a2 : Int32) : ∀ k, fX3_tells_27 (some 117) (nI n) a2 k FU M 0 0 = k (oftM M n) (nI (nzF (rv (mI M 118) n) 9)) (nI 9) := by
  intro k
  have go : ∀ j i m, i + j = 9 → j < m → fX3_tells_27 (some 117) (nI n) a2 k m (setA M 123 (bq (mI M 123) 0 i (rv (mI M 118) n))) (nI (nzF (rv (mI M 118) n) i)) (nI i) = k (oftM M n) (nI (nzF (rv (mI M 118) n) 9)) (nI 9) := by
    intro j
    induction j with
    | zero =>
      intro i m hi hm
      obtain ⟨m, rfl⟩ := suc_of hm
      have : i = 9 := by omega
      subst this
      rw [fX3_tells_27, if_pos ge9_t]
      rfl
    | succ j ih =>
      intro i m hi hm
      obtain ⟨m, rfl⟩ := suc_of hm
      have e2 := bq_s (mI M 123) 0 i (rv (mI M 118) n)
      rw [Nat.zero_add] at e2
      have e3 := q_signAt (setA M 123 (bq (mI M 123) 0 i (rv (mI M 118) n))) h hn (k := i) (by omega)
      have e4 := bq_in (mI M 123) 0 (i + 1) (rv (mI M 118) n) (i := i) (by omega)
      rw [Nat.zero_add] at e4
      rw [fX3_tells_27, if_neg (ge9_f i (by omega))]
      simp (disch := first | omega | (simp only [HM_setA, HM_setJ, h]; done) | (simp only [lm6, lm7, lm8, lm0, lm1, lm2]; omega)) only [mo1, mo2, mo4, mo5, mo6, mo8, mo9, mo11, mog, mop, mogJ, mopJ, mok, moa, mow, moaJ, mowJ, moaZ, mowZ, Option.bind_some, mI_eq, mI_ne, mJ_eq, mJ_ne, mI_setJ, mJ_setA, setA_setA, setJ_setJ, uq_eq, uq_ne, uq_uq, nI_1, e3, e2, e4]
      have e := ih (i + 1) m (by omega) (by omega)
      by_cases hg : rv (mI M 118) n i = 0
      · rw [if_pos hg, Int32.add_zero]
        rw [show nzF (rv (mI M 118) n) (i + 1) = nzF (rv (mI M 118) n) i by simp [nzF, hg]] at e
        exact e
      · rw [if_neg hg, nI_1]
        rw [show nzF (rv (mI M 118) n) (i + 1) = nzF (rv (mI M 118) n) i + 1 by simp [nzF, hg]] at e
        exact e
  have e := go 9 0 FU rfl (fu_9 (by decide))
  rw [bq_0, setA_id] at e
  exact e
theorem q_tells (M : Mem) (h : HM M) (hs : SgV (mI M 118)) (hz : NzV (mI M 118)) {n : Nat} (hn : n < 5) {w : Nat} (hw : w < 4) : fX3_tells M (some 117) (nI n) (nI w) = some (telM M n w, tel (rv (mI M 118) n) w) := by
  unfold fX3_tells tel telM
  have ho : HM (oftM M n) := h
  have hw2 : w = 0 ∨ w = 1 ∨ w = 2 ∨ w = 3 := by omega
  rcases hw2 with rfl | rfl | rfl | rfl
  · rw [if_pos (by decide), mok _ h, Option.bind_some, q_degree _ h hn, Option.bind_some]; rfl
  · rw [if_neg (by decide), if_neg (by decide), q_tells_27 M h hn, if_pos (by decide)]; rfl
  · rw [if_neg (by decide), if_pos (by decide), mok _ h, Option.bind_some, q_often _ h hs hz hn sgn_1, Option.bind_some]; rfl
  · rw [if_neg (by decide), if_neg (by decide), q_tells_27 M h hn, if_neg (by decide), mo8 _ ho, Option.bind_some, q_form _ ho rfl, Option.bind_some, form_cg (fun i hi => rv_121 hi)]; rfl
