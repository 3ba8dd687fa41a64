/-! ===== the model's division: all rows, one after another ===== -/
def scr (M : Mem) (f g : Nat → Int32) (x : Int32) : Mem := setA (setA (setA M 123 f) 124 g) 117 (uq (mI M 117) 10 x)
theorem HM_scr (M : Mem) (f g : Nat → Int32) (x : Int32) : HM (scr M f g x) ↔ HM M := Iff.rfl
theorem scr_121 (M : Mem) (f g : Nat → Int32) (x : Int32) : mI (scr M f g x) 123 = f := by unfold scr; rw [mI_ne _ _ (by decide), mI_ne _ _ (by decide), mI_eq]
theorem scr_122 (M : Mem) (f g : Nat → Int32) (x : Int32) : mI (scr M f g x) 124 = g := by unfold scr; rw [mI_ne _ _ (by decide), mI_eq]
theorem scr_10 (M : Mem) (f g : Nat → Int32) (x : Int32) : mI (scr M f g x) 117 10 = x := by unfold scr; rw [mI_eq, uq_eq]
theorem scr_o (M : Mem) (f g : Nat → Int32) (x : Int32) {a : Nat} (h : a ≠ 117) (h1 : a ≠ 123) (h2 : a ≠ 124) : mI (scr M f g x) a = mI M a := by unfold scr; rw [mI_ne _ _ h, mI_ne _ _ h2, mI_ne _ _ h1]
theorem scr_w1 (M : Mem) (f g f2 : Nat → Int32) (x : Int32) : setA (scr M f g x) 123 f2 = scr M f2 g x := by
  unfold scr
  rw [setA_comm _ (a := 117) (b := 123) _ _ (by decide), setA_comm _ (a := 124) (b := 123) _ _ (by decide), setA_setA]
theorem scr_w2 (M : Mem) (f g g2 : Nat → Int32) (x : Int32) : setA (scr M f g x) 124 g2 = scr M f g2 x := by
  unfold scr
  rw [setA_comm _ (a := 117) (b := 124) _ _ (by decide), setA_setA]
theorem scr_wx (M : Mem) (f g : Nat → Int32) (x y : Int32) : setA (scr M f g x) 117 (uq (mI (scr M f g x) 117) 10 y) = scr M f g y := by
  unfold scr
  rw [setA_setA, mI_eq, uq_uq]
theorem scr_id (M : Mem) : scr M (mI M 123) (mI M 124) (mI M 117 10) = M := by
  unfold scr
  rw [setA_id, setA_id, uq_id, setA_id]
theorem scr_scr (M : Mem) (f g f2 g2 : Nat → Int32) (x y : Int32) : scr (scr M f g x) f2 g2 y = scr M f2 g2 y := by
  rw [scr, scr_w1, scr_w2]
  unfold scr
  rw [setA_setA, mI_eq, uq_uq]
/-- the digit at place i of k + 1 places -/
def dgf (k N : Nat) : Nat → Int32 := fun i => nI (N / 3 ^ (k - i) % 3) - 1
theorem dgf_seg (k N : Nat) : ∀ j i, i + j = k + 1 → seg (dgf k N) i j = dig j (N % 3 ^ j) := by
  intro j
  induction j with
  | zero => intro i _; rfl
  | succ j ih =>
    intro i hi
    rw [seg, dig, ih (i + 1) (by omega)]
    have e1 : N % 3 ^ (j + 1) / 3 ^ j = N / 3 ^ j % 3 := by rw [Nat.pow_succ, Nat.mod_mul_right_div_self]
    have e2 : N % 3 ^ (j + 1) % 3 ^ j = N % 3 ^ j := Nat.mod_mod_of_dvd _ (Nat.pow_dvd_pow 3 (by omega))
    rw [e1, e2, dgf, show k - i = j by omega]
def digc (g : Nat → Int32) (k N j : Nat) : Nat → Int32 := fun i => if j ≤ i ∧ i ≤ k then dgf k N i else g i
theorem dgf_sgn (k N i : Nat) : sgn (dgf k N i) := by
  unfold dgf
  have : ∀ q : Nat, q < 3 → sgn (nI q - 1) := by unfold sgn; decide
  exact this _ (Nat.mod_lt _ (by decide))
theorem p3 : ∀ k : Nat, k < 9 → 3 ^ k < 20000 := by decide
theorem q_laysRow (M : Mem) (h : HM M) {k N : Nat} (hk : k < 8) (hN : N < 20000) : fX3_laysRow M (some 117) (nI N) (nI k) = some (setA M 123 (digc (mI M 123) k N 0)) := by
  unfold fX3_laysRow
  have go : ∀ j n, j ≤ k + 1 → j < n → fX3_laysRow_5 (some 117) (nI N) (nI k) (fun M4 x5 x6 => some M4) n (setA M 123 (digc (mI M 123) k N j)) (nI (N / 3 ^ (k + 1 - j))) (nI j + (-1)) = some (setA M 123 (digc (mI M 123) k N 0)) := by
    intro j
    induction j with
    | zero =>
      intro n hj hn
      obtain ⟨n, rfl⟩ := suc_of hn
      rw [fX3_laysRow_5, if_pos (by decide)]
    | succ j ih =>
      intro n hj hn
      obtain ⟨n, rfl⟩ := suc_of hn
      have e := ih n (by omega) (by omega)
      have hlt : N / 3 ^ (k + 1 - (j + 1)) < 2 ^ 31 := Nat.lt_of_le_of_lt (Nat.div_le_self _ _) (by omega)
      have ed : nI (N / 3 ^ (k + 1 - (j + 1))) / 3 = nI (N / 3 ^ (k + 1 - j)) := by
        rw [show nI (N / 3 ^ (k + 1 - (j + 1))) / 3 = nI (N / 3 ^ (k + 1 - (j + 1)) / 3) from pk_div (d := 3) hlt (by decide) (by decide), Nat.div_div_eq_div_mul, ← Nat.pow_succ, show (k + 1 - (j + 1)).succ = k + 1 - j by omega]
      have er : nI (N / 3 ^ (k + 1 - (j + 1))) - nI (N / 3 ^ (k + 1 - (j + 1))) / 3 * 3 = nI (N / 3 ^ (k - j) % 3) := by
        rw [show nI (N / 3 ^ (k + 1 - (j + 1))) - nI (N / 3 ^ (k + 1 - (j + 1))) / 3 * 3 = nI (N / 3 ^ (k + 1 - (j + 1)) % 3) from pk_rem (d := 3) hlt (by decide) (by decide), show k + 1 - (j + 1) = k - j by omega]
      have eu : uq (digc (mI M 123) k N (j + 1)) j (nI (N / 3 ^ (k - j) % 3) - 1) = digc (mI M 123) k N j := by
        funext i
        unfold uq digc
        by_cases hi : i = j
        · subst hi; rw [if_pos rfl, if_pos (by omega)]; rfl
        · rw [if_neg hi]
          by_cases h2 : j + 1 ≤ i ∧ i ≤ k
          · rw [if_pos h2, if_pos (by omega)]
          · rw [if_neg h2, if_neg (by omega)]
      rw [pk_m1, fX3_laysRow_5, if_neg (lt0_f j (by omega)), er, ed]
      simp (disch := first | omega | (simp only [HM_setA, HM_setJ, h]; done) | (simp only [lm6, lm7, lm8, lm0, lm1, lm2]; omega)) only [mo1, mo2, mo4, mo5, mo6, mo8, mo9, mo11, mog, mop, mogJ, mopJ, mok, moa, mow, moaJ, mowJ, moaZ, mowZ, Option.bind_some, mI_eq, mI_ne, mJ_eq, mJ_ne, mI_setJ, mJ_setA, setA_setA, setJ_setJ, uq_eq, uq_ne, uq_uq, nI_1, eu]
      exact e
  have e := go (k + 1) FU (Nat.le_refl _) (fu_9 (by omega))
  rw [pk_m1, Nat.sub_self, Nat.pow_zero, Nat.div_one, show digc (mI M 123) k N (k + 1) = mI M 123 from (by funext i; unfold digc; rw [if_neg (by omega)]), setA_id] at e
  exact e
theorem ccd_cl (r : Int32) (f : Nat → Int32) (d : Nat) : ccd r f d = cl r (seg f 0 (d + 1)) := by
  unfold ccd cl
  rw [zbF_zl, Nat.zero_add]
theorem q_inSum (M : Mem) (a b c : Int32) : fX3_isInSum M a b c = some (b2 (inS a b c)) := by
  unfold fX3_isInSum inS
  by_cases h : b = 0
  · rw [if_pos h, if_pos h]
    by_cases h2 : a = c
    · rw [if_pos h2, h2]; simp [b2]
    · rw [if_neg h2]; simp [h2, b2]
  · rw [if_neg h, if_neg h]
    by_cases h2 : b = -c
    · rw [if_pos h2, if_pos h2]; rfl
    · rw [if_neg h2, if_neg h2]
      by_cases h3 : a = b
      · rw [if_pos h3, h3]; simp [b2]
      · rw [if_neg h3]; simp [h3, b2]
theorem lst_seg (f : Nat → Int32) : ∀ j i p, lst p (seg f i (j + 1)) = f (i + j) := by
  intro j
  induction j with
  | zero => intro i p; rfl
  | succ j ih =>
    intro i p
    rw [seg, lst, ih (i + 1), show i + 1 + j = i + (j + 1) by omega]
theorem q_isQuotient (M : Mem) (h : HM M) {n : Nat} (hn : n < 5) {k : Nat} (hk : k < 8) (r : Int32) : fX3_isQuotient M (some 117) (nI n) r (nI k) = some (b2 (isQ r 0 (seg (rv (mI M 118) n) 0 (k + 2)) (seg (mI M 123) 0 (k + 1)))) := by
  unfold fX3_isQuotient isQ
  rw [mo8 M h, Option.bind_some, moa M 123 k (by rw [lm1]; omega) h, Option.bind_some, lst_seg, Nat.zero_add]
  have no : ∀ m i, 0 < m → fX3_isQuotient_19 M (some 117) (nI n) r (nI k) (fun x22 x23 => chk (zb x22) <| some x22) m 0 i = some 0 := by
    intro m i hm
    obtain ⟨m, rfl⟩ := suc_of hm
    rw [fX3_isQuotient_19]
    split
    · rfl
    · rw [if_pos rfl]; rfl
  have go : ∀ j i m, i + j = k + 2 → j + 1 < m → fX3_isQuotient_19 M (some 117) (nI n) r (nI k) (fun x22 x23 => chk (zb x22) <| some x22) m 1 (nI i) = some (b2 (decide (j = 0) || qot r (if i = 0 then 0 else mI M 123 (i - 1)) (seg (rv (mI M 118) n) i j) (seg (mI M 123) i (j - 1)))) := by
    intro j
    induction j with
    | zero =>
      intro i m hi hm
      obtain ⟨m, rfl⟩ := suc_of hm
      rw [fX3_isQuotient_19, nI_1, if_pos ((nI_ltI (by omega) (by omega)).mpr (by omega))]
      rfl
    | succ j ih =>
      intro i m hi hm
      obtain ⟨m, rfl⟩ := suc_of hm
      obtain ⟨m2, rfl⟩ := suc_of (show j + 1 < m by omega)
      have e := ih (i + 1) (m2 + 1) (by omega) (by omega)
      have e3 := q_signAt M h hn (k := i) (by omega)
      have ele : (nI i ≤ nI k) ↔ i ≤ k := nI_leI (by omega) (by omega)
      have ei0 : (nI i = 0) ↔ i = 0 := nI_eq (b := 0) (by omega) (by decide)
      rw [fX3_isQuotient_19, nI_1, if_neg (fun q => by have := (nI_ltI (by omega) (by omega)).mp q; omega), if_neg (by decide), nI_1, decide_eq_false (by omega : ¬ j + 1 = 0), Bool.false_or, Nat.add_sub_cancel]
      simp only [ele, ei0, mo8 M h, mok M h, e3, Option.bind_some, q_inSum]
      rw [if_neg (by omega : ¬ i + 1 = 0), Nat.add_sub_cancel] at e
      have fin : ∀ b : Bool, ∀ c : Bool, (b = true → fX3_isQuotient_19 M (some 117) (nI n) r (nI k) (fun x22 x23 => chk (zb x22) <| some x22) (m2 + 1) 1 (nI (i + 1)) = some (b2 c)) → fX3_isQuotient_19 M (some 117) (nI n) r (nI k) (fun x22 x23 => chk (zb x22) <| some x22) (m2 + 1) (b2 b) (nI (i + 1)) = some (b2 (b && c)) := by
        intro b c hb
        cases b
        · exact no (m2 + 1) _ (by omega)
        · exact hb rfl
      by_cases hik : i ≤ k
      · obtain ⟨j, rfl⟩ : ∃ q, j = q + 1 := ⟨j - 1, by omega⟩
        rw [decide_eq_false (by omega : ¬ j + 1 = 0), Bool.false_or, Nat.add_sub_cancel] at e
        have es : seg (rv (mI M 118) n) i (j + 1 + 1) = rv (mI M 118) n i :: seg (rv (mI M 118) n) (i + 1) (j + 1) := rfl
        have es2 : seg (mI M 123) i (j + 1) = mI M 123 i :: seg (mI M 123) (i + 1) j := rfl
        rw [es, es2, qot]
        by_cases h0 : i = 0
        · rw [if_pos h0, if_pos h0, if_pos hik, moa M 123 i (by rw [lm1]; omega) h, Option.bind_some]
          exact fin _ _ (fun _ => e)
        · rw [if_neg h0, if_neg h0, pk_sub1 h0, moa M 123 (i - 1) (by rw [lm1]; omega) h, Option.bind_some, if_pos hik, moa M 123 i (by rw [lm1]; omega) h, Option.bind_some]
          exact fin _ _ (fun _ => e)
      · have hj : j = 0 := by omega
        subst hj
        have es : seg (rv (mI M 118) n) i (0 + 1) = [rv (mI M 118) n i] := rfl
        have es2 : seg (mI M 123) i 0 = [] := rfl
        rw [es, es2, qot]
        rw [decide_eq_true (by rfl : 0 = 0), Bool.true_or] at e
        by_cases h0 : i = 0
        · omega
        · rw [if_neg h0, if_neg h0, pk_sub1 h0, moa M 123 (i - 1) (by rw [lm1]; omega) h, Option.bind_some, if_neg hik]
          have e9 := fin (inS (rv (mI M 118) n i) (mI M 123 (i - 1)) 0) true (fun _ => e)
          rw [Bool.and_true] at e9
          exact e9
  by_cases h0 : mI M 123 k = 0
  · rw [if_pos h0, h0, no FU 0 (fu_9 (by decide))]
    rfl
  · rw [if_neg h0, show (mI M 123 k == 0) = false from beq_eq_false_iff_ne.mpr h0, Bool.not_false, Bool.true_and]
    have e := go (k + 2) 0 FU (by omega) (fu_9 (by omega))
    rw [decide_eq_false (by omega : ¬ k + 2 = 0), Bool.false_or, if_pos rfl, nI_0] at e
    exact e
/-- a list as a row -/
def lrow (q : List Int32) : Nat → Int32 := fun i => q.getD i 0
def cuti (g f : Nat → Int32) : Nat → Int32 := fun i => if i < 9 then f i else g i
theorem seg_getD (f : Nat → Int32) : ∀ j i t, t < j → (seg f i j).getD t 0 = f (i + t) := by
  intro j
  induction j with
  | zero => intro i t h; omega
  | succ j ih =>
    intro i t h
    rw [seg]
    cases t with
    | zero => rfl
    | succ t =>
      rw [List.getD_cons_succ, ih (i + 1) t (by omega), show i + 1 + t = i + (t + 1) by omega]
theorem lrow_seg (f : Nat → Int32) (j t : Nat) : lrow (seg f 0 j) t = if t < j then f t else 0 := by
  unfold lrow
  split
  · next h => rw [seg_getD f j 0 t h, Nat.zero_add]
  · next h => rw [List.getD_eq_getElem?_getD, List.getElem?_eq_none (by rw [seg_len]; omega)]; rfl
theorem q_notes (M : Mem) (h : HM M) {k : Nat} (hk : k < 8) {r : Int32} (hr : sgn r) (hs : ∀ i, i ≤ k → sgn (mI M 123 i)) : fX3_notes M (some 117) (nI k) r = some (if nI (cl r (seg (mI M 123) 0 (k + 1))) ≤ mI M 117 10 then M else scr M (mI M 123) (cuti (mI M 124) (lrow (seg (mI M 123) 0 (k + 1)))) (nI (cl r (seg (mI M 123) 0 (k + 1))))) := by
  unfold fX3_notes
  rw [mo8 M h, Option.bind_some, q_changes M h rfl hr hs (by omega), Option.bind_some, mog M _ h, Option.bind_some, ccd_cl]
  split
  · rfl
  · rw [mop M _ _ h, Option.bind_some]
    generalize nI (cl r (seg (mI M 123) 0 (k + 1))) = y
    have e := loopF (fX3_notes_26 (some 117) (nI k) r y) 9 (fun i => setA (setA M 117 (uq (mI M 117) 10 y)) 124 (bq (mI M 124) 0 i (lrow (seg (mI M 123) 0 (k + 1))))) (fun i hi k2 m => by
      have e2 := bq_s (mI M 124) 0 i (lrow (seg (mI M 123) 0 (k + 1)))
      rw [Nat.zero_add, lrow_seg] at e2
      have elt : (nI k < nI i) ↔ k < i := nI_ltI (by omega) (by omega)
      rw [fX3_notes_26, if_neg (ge9_f i hi)]
      simp only [elt]
      by_cases hki : k < i
      · rw [if_neg (by omega)] at e2
        simp (disch := first | omega | (simp only [HM_setA, HM_setJ, h]; done) | (simp only [lm6, lm7, lm8, lm0, lm1, lm2]; omega)) only [mo1, mo2, mo4, mo5, mo6, mo8, mo9, mo11, mog, mop, mogJ, mopJ, mok, moa, mow, moaJ, mowJ, moaZ, mowZ, Option.bind_some, mI_eq, mI_ne, mJ_eq, mJ_ne, mI_setJ, mJ_setA, setA_setA, setJ_setJ, uq_eq, uq_ne, uq_uq, nI_1, if_pos hki, e2]
      · rw [if_pos (by omega)] at e2
        simp (disch := first | omega | (simp only [HM_setA, HM_setJ, h]; done) | (simp only [lm6, lm7, lm8, lm0, lm1, lm2]; omega)) only [mo1, mo2, mo4, mo5, mo6, mo8, mo9, mo11, mog, mop, mogJ, mopJ, mok, moa, mow, moaJ, mowJ, moaZ, mowZ, Option.bind_some, mI_eq, mI_ne, mJ_eq, mJ_ne, mI_setJ, mJ_setA, setA_setA, setJ_setJ, uq_eq, uq_ne, uq_uq, nI_1, if_neg hki, e2]) (fun k2 m => by rw [fX3_notes_26, if_pos ge9_t]) 9 0 FU rfl (fu_9 (by decide))
    rw [bq_0, show setA (setA M 117 (uq (mI M 117) 10 y)) 124 (mI M 124) = setA M 117 (uq (mI M 117) 10 y) from setA_id (setA M 117 (uq (mI M 117) 10 y)) 124] at e
    rw [show fX3_notes_26 (some 117) (nI k) r y _ FU (setA M 117 (uq (mI M 117) 10 y)) 0 = _ from e _]
    unfold scr
    rw [setA_comm _ (a := 117) (b := 124) _ _ (by decide), setA_id]
    refine congrArg some (congrArg (fun z => setA (setA M 124 z) 117 (uq (mI M 117) 10 y)) (funext fun i => ?_))
    unfold bq cuti
    by_cases h9 : i < 9
    · rw [if_pos (by omega), if_pos h9]; rfl
    · rw [if_neg (by omega), if_neg h9]
/-- what is noted after some rows -/
def Ntd (r : Int32) (P : List (List Int32)) (g : Nat → Int32) (x : Int32) : Prop := x = nI (bst r P).1 - 1 - (if (bst r P).1 = 0 then 8 else 0) ∧ ((bst r P).1 ≠ 0 → ∀ i, i < 9 → g i = lrow (bst r P).2 i)
theorem zl_le : ∀ xs : List Int32, zl xs ≤ xs.length := by
  intro xs
  induction xs with
  | nil => exact Nat.le_refl _
  | cons x xs ih => unfold zl; split <;> simp <;> omega
theorem chs_le (a : Int32) : ∀ (xs : List Int32) (l : Int32), chs a l xs ≤ xs.length := by
  intro xs
  induction xs with
  | nil => intro l; exact Nat.le_refl _
  | cons x xs ih =>
    intro l
    have := ih (a * nxl l x)
    simp only [chs, List.length_cons]
    have : chg l x ≤ 1 := by unfold chg; split <;> decide
    omega
theorem cl_le (a : Int32) (xs : List Int32) : cl a xs ≤ xs.length := by
  unfold cl
  split
  · exact zl_le xs
  · exact chs_le a xs 0
theorem bst_app (r : Int32) (P : List (List Int32)) (q : List Int32) : bst r (P ++ [q]) = stp r (bst r P) q := by
  unfold bst
  rw [List.foldl_append]; rfl
theorem bst_le (r : Int32) (P : List (List Int32)) (k : Nat) (h : ∀ q ∈ P, q.length ≤ k) : (bst r P).1 ≤ k + 1 :=
  (fold_ub r (k + 1) P (0, []) (Nat.zero_le _) (fun q hq => by have := cl_le r q; have := h q hq; omega)).2.1
theorem cmpN : ∀ c : Nat, c < 10 → ∀ b : Nat, b < 11 → ((nI c ≤ nI b - 1 - (if b = 0 then 8 else 0)) ↔ c + 1 ≤ b) := by decide
theorem q_div_44 (M : Mem) (h : HM M) {n : Nat} (hn : n < 5) {k : Nat} (hk : k < 8) {r : Int32} (hr : sgn r) (P : Nat → List (List Int32)) (hP : ∀ N, P N = ((List.range N).map (dig (k + 1))).filter (isQ r 0 (seg (rv (mI M 118) n) 0 (k + 2)))) : ∀ j N m f g x, N + j = 3 ^ (k + 1) → j < m → Ntd r (P N) g x →
    ∃ f2 g2 x2, fX3_divides_44 (some 117) (nI n) r (nI k) (nI (3 ^ (k + 1))) (fun M13 x14 x15 => some (M13, x14)) m (scr M f g x) (nI (P N).length) (nI N) = some (scr M f2 g2 x2, nI (P (3 ^ (k + 1))).length) ∧ Ntd r (P (3 ^ (k + 1))) g2 x2 := by
  have h3 := p3 (k + 1) (by omega)
  intro j
  induction j with
  | zero =>
    intro N m f g x hN hm hI
    obtain ⟨m, rfl⟩ := suc_of hm
    have : N = 3 ^ (k + 1) := by omega
    subst this
    exact ⟨f, g, x, by rw [fX3_divides_44, if_pos (nI_le (Nat.le_refl _) (by omega))], hI⟩
  | succ j ih =>
    intro N m f g x hN hm hI
    obtain ⟨m, rfl⟩ := suc_of hm
    have hlay := q_laysRow (scr M f g x) h hk (N := N) (by omega)
    rw [scr_121, scr_w1] at hlay
    have eseg : seg (digc f k N 0) 0 (k + 1) = dig (k + 1) N := by
      rw [seg_cg (f := digc f k N 0) (g := dgf k N) (k + 1) 0 (fun i _ h2 => if_pos (by omega)), dgf_seg k N (k + 1) 0 (by omega), Nat.mod_eq_of_lt (by omega)]
    have hq := q_isQuotient (scr M (digc f k N 0) g x) h hn hk r
    rw [scr_121, scr_o _ _ _ _ (by decide) (by decide) (by decide), eseg] at hq
    have hsg : ∀ i, i ≤ k → sgn (mI (scr M (digc f k N 0) g x) 123 i) := fun i hi => by
      rw [scr_121, digc, if_pos (by omega)]; exact dgf_sgn k N i
    have hno := q_notes (scr M (digc f k N 0) g x) h hk hr hsg
    rw [scr_121, scr_10, scr_122, scr_scr, eseg] at hno
    have hPs : P (N + 1) = P N ++ (if isQ r 0 (seg (rv (mI M 118) n) 0 (k + 2)) (dig (k + 1) N) = true then [dig (k + 1) N] else []) := by
      rw [hP, hP, List.range_succ, List.map_append, List.filter_append]
      refine congrArg _ ?_
      simp only [List.map_cons, List.map_nil, List.filter_cons, List.filter_nil]
    rw [fX3_divides_44, if_neg (ge_f (by omega) (by omega)), if_neg (nI_pos (by omega)), mok (scr M f g x) h, Option.bind_some, hlay, Option.bind_some, mok (scr M (digc f k N 0) g x) h, Option.bind_some, hq, Option.bind_some]
    by_cases hb : isQ r 0 (seg (rv (mI M 118) n) 0 (k + 2)) (dig (k + 1) N) = true
    · rw [hb, if_neg (by decide), Option.bind_some, hno, Option.bind_some, nI_1, nI_1]
      rw [if_pos hb] at hPs
      have hlen : (P (N + 1)).length = (P N).length + 1 := by rw [hPs, List.length_append]; rfl
      have hln : ∀ q ∈ P N, q.length ≤ k + 1 := by
        intro q hq
        rw [hP] at hq
        obtain ⟨t, ht, rfl⟩ := List.mem_map.mp (List.mem_filter.mp hq).1
        have e : ∀ d N, (dig d N).length = d := by
          intro d
          induction d with
          | zero => intro N; rfl
          | succ d ih => intro N; rw [dig, List.length_cons, ih]
        rw [e]; exact Nat.le_refl _
      have hdl : (dig (k + 1) N).length = k + 1 := by
        have := seg_len (digc f k N 0) (k + 1) 0
        rw [eseg] at this
        exact this
      have hb1 := bst_le r (P N) (k + 1) hln
      have hc1 := cl_le r (dig (k + 1) N)
      have hcmp := cmpN (cl r (dig (k + 1) N)) (by omega) (bst r (P N)).1 (by omega)
      rw [← hI.1] at hcmp
      have hbs : bst r (P (N + 1)) = stp r (bst r (P N)) (dig (k + 1) N) := by rw [hPs, bst_app]
      rw [← hlen]
      by_cases hle : nI (cl r (dig (k + 1) N)) ≤ x
      · rw [if_pos hle]
        refine ih (N + 1) m _ g x (by omega) (by omega) ?_
        unfold Ntd
        rw [hbs, stp, if_pos (hcmp.mp hle)]
        exact hI
      · rw [if_neg hle]
        refine ih (N + 1) m _ _ _ (by omega) (by omega) ?_
        unfold Ntd
        rw [hbs, stp, if_neg (fun q => hle (hcmp.mpr q))]
        refine ⟨?_, fun _ i hi => if_pos hi⟩
        rw [if_neg (by simp), nI_pred]
        simp
    · rw [eq_false_of_ne_true hb, if_pos (by decide), nI_1]
      rw [if_neg hb, List.append_nil] at hPs
      rw [← hPs]
      exact ih (N + 1) m _ g x (by omega) (by omega) (by rw [hPs]; exact hI)
theorem q_div_14 (a1 a2 : Int32) {k : Nat} (hk : k < 8) (M : Mem) : ∀ kk : Mem → Int32 → Int32 → Option (Mem × Int32), fX3_divides_14 (some 117) a1 a2 (nI k) kk FU M 1 0 = kk M (nI (3 ^ (k + 1))) (nI (k + 1)) := by
  intro kk
  have go : ∀ j i m, i + j = k + 1 → j < m → fX3_divides_14 (some 117) a1 a2 (nI k) kk m M (nI (3 ^ i)) (nI i) = kk M (nI (3 ^ (k + 1))) (nI (k + 1)) := by
    intro j
    induction j with
    | zero =>
      intro i m hi hm
      obtain ⟨m, rfl⟩ := suc_of hm
      have : i = k + 1 := by omega
      subst this
      rw [fX3_divides_14, if_pos ((nI_ltI (by omega) (by omega)).mpr (by omega))]
    | succ j ih =>
      intro i m hi hm
      obtain ⟨m, rfl⟩ := suc_of hm
      rw [fX3_divides_14, if_neg (fun q => by have := (nI_ltI (by omega) (by omega)).mp q; omega), nI_1, show nI (3 ^ i) * 3 = nI (3 ^ (i + 1)) from (pk_mul (3 ^ i) 3).trans (congrArg nI (Nat.pow_succ 3 i).symm)]
      exact ih (i + 1) m (by omega) (by omega)
  exact go (k + 1) 0 FU (by omega) (fu_9 (by omega))
/-- all quotients of a row -/
def quo (g : Nat → Int32) (r : Int32) : List (List Int32) := qE r 0 (seg g 0 (deg g + 1))
theorem q_divides (M : Mem) (h : HM M) {n : Nat} (hn : n < 5) {r : Int32} (hr : sgn r) : ∃ f2 g2 x2, fX3_divides M (some 117) (nI n) r = some (scr M f2 g2 x2, nI (quo (rv (mI M 118) n) r).length) ∧ ((bst r (quo (rv (mI M 118) n) r)).1 ≠ 0 → ∀ i, i < 9 → g2 i = lrow (bst r (quo (rv (mI M 118) n) r)).2 i) := by
  unfold fX3_divides quo
  have hd := deg_lt (rv (mI M 118) n)
  rw [mok M h, Option.bind_some, q_degree M h hn, Option.bind_some]
  generalize hdd : deg (rv (mI M 118) n) = d at hd ⊢
  cases d with
  | zero =>
    rw [show nI 0 - 1 = (-1 : Int32) by decide]
    obtain ⟨m, hm⟩ := suc_of (fu_9 (n := 0) (by decide))
    have e1 : ∀ kk : Mem → Int32 → Int32 → Option (Mem × Int32), fX3_divides_14 (some 117) (nI n) r (-1) kk FU M 1 0 = kk M 1 0 := by
      intro kk; rw [hm, fX3_divides_14, if_pos (by decide)]
    have e2 : ∀ M2 (kk : Mem → Int32 → Int32 → Option (Mem × Int32)), fX3_divides_44 (some 117) (nI n) r (-1) 1 kk FU M2 0 0 = kk M2 0 0 := by
      intro M2 kk; rw [hm, fX3_divides_44, if_neg (by decide), if_pos (by decide)]
    rw [e1, mop M _ _ h, Option.bind_some, e2]
    refine ⟨mI M 123, mI M 124, -9, ?_, ?_⟩
    · unfold scr
      rw [setA_id, setA_id]
      rfl
    · intro hne
      exact absurd rfl hne
  | succ k =>
    rw [nI_pred, q_div_14 (nI n) r (by omega) M, mop M _ _ h, Option.bind_some]
    have e := q_div_44 M h hn (k := k) (by omega) hr (fun N => ((List.range N).map (dig (k + 1))).filter (isQ r 0 (seg (rv (mI M 118) n) 0 (k + 2)))) (fun _ => rfl) (3 ^ (k + 1)) 0 FU (mI M 123) (mI M 124) (-9) (by omega) (fu_9 (by have := p3 (k + 1) (by omega); omega)) ⟨(show (-9 : Int32) = nI 0 - 1 - 8 by decide), fun hne => absurd rfl hne⟩
    have e9 : ((List.range (3 ^ (k + 1))).map (dig (k + 1))).filter (isQ r 0 (seg (rv (mI M 118) n) 0 (k + 2))) = qE r 0 (seg (rv (mI M 118) n) 0 (k + 1 + 1)) := by
      rw [dig_all, show seg (rv (mI M 118) n) 0 (k + 1 + 1) = rv (mI M 118) n 0 :: seg (rv (mI M 118) n) (0 + 1) (k + 1) from rfl, qE_all, seg_len]
    obtain ⟨f2, g2, x2, e1, e2⟩ := e
    rw [e9] at e1 e2
    refine ⟨f2, g2, x2, ?_, e2.2⟩
    rw [show scr M (mI M 123) (mI M 124) (-9) = setA M 117 (uq (mI M 117) 10 (-9)) by unfold scr; rw [setA_id, setA_id]] at e1
    exact e1
