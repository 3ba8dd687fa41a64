/-! ===== shares, and the text's first error ===== -/
def zl : List Int32 → Nat
  | [] => 0
  | x :: xs => if x = 0 then zl xs + 1 else 0
theorem zbF_zl (g : Nat → Int32) : ∀ j i, zbF g i j = i + zl (seg g i j) := by
  intro j
  induction j with
  | zero => intro i; rfl
  | succ j ih =>
    intro i
    rw [zbF, seg, zl]
    by_cases hg : g i = 0
    · rw [if_pos hg, if_pos hg, ih]; omega
    · rw [if_neg hg, if_neg hg]; rfl
theorem two_le : ∀ (xs : List Int32) (l : Int32), sgns xs → (l = 1 ∨ l = -1) → (chs 1 l xs + chs (-1) (-l) xs ≤ xs.length) ∧ (chs 1 l xs + chs (-1) l xs ≤ xs.length + 1) := by
  intro xs
  induction xs with
  | nil => intro l _ _; exact ⟨Nat.le_refl _, Nat.le_succ _⟩
  | cons x xs ih =>
    intro l hx hl
    obtain ⟨h1, h2⟩ := sgns_c hx
    have i1 := ih 1 h2 (Or.inl rfl)
    have i2 := ih (-1) h2 (Or.inr rfl)
    simp only [chs, List.length_cons]
    have e0 : -(-1 : Int32) = 1 := by decide
    rw [e0] at i2
    rcases h1 with rfl | rfl | rfl <;> rcases hl with rfl | rfl <;> simp [chg, nxl] at i1 i2 ⊢ <;> omega
theorem three_le : ∀ (xs : List Int32), sgns xs → (∃ x ∈ xs, x ≠ 0) → chs 1 0 xs + chs (-1) 0 xs + zl xs + 1 ≤ xs.length := by
  intro xs
  induction xs with
  | nil => rintro _ ⟨x, h, _⟩; cases h
  | cons x xs ih =>
    intro hx hn
    obtain ⟨h1, h2⟩ := sgns_c hx
    by_cases h0 : x = 0
    · subst h0
      have hn2 : ∃ x ∈ xs, x ≠ 0 := by
        obtain ⟨y, hy, hy2⟩ := hn
        rcases List.mem_cons.mp hy with rfl | h
        · exact absurd rfl hy2
        · exact ⟨y, h, hy2⟩
      have := ih h2 hn2
      simp [chs, chg, nxl, zl]
      omega
    · have i1 := two_le xs 1 h2 (Or.inl rfl)
      have i2 := two_le xs (-1) h2 (Or.inr rfl)
      have e0 : -(-1 : Int32) = 1 := by decide
      rw [e0] at i2
      rcases h1 with rfl | rfl | rfl
      · simp [chs, chg, nxl, zl] at i1 i2 ⊢; omega
      · exact absurd rfl h0
      · simp [chs, chg, nxl, zl] at i1 i2 ⊢; omega
theorem seg_len (g : Nat → Int32) : ∀ j i, (seg g i j).length = j := by
  intro j
  induction j with
  | zero => intro i; rfl
  | succ j ih => intro i; rw [seg, List.length_cons, ih]
theorem seg_mem (g : Nat → Int32) : ∀ j i x, x ∈ seg g i j ↔ ∃ k, i ≤ k ∧ k < i + j ∧ x = g k := by
  intro j
  induction j with
  | zero =>
    intro i x
    constructor
    · intro h; cases h
    · rintro ⟨k, h1, h2, _⟩; omega
  | succ j ih =>
    intro i x
    rw [seg, List.mem_cons, ih]
    constructor
    · rintro (h | ⟨k, h1, h2, h3⟩)
      · exact ⟨i, Nat.le_refl _, by omega, h⟩
      · exact ⟨k, by omega, by omega, h3⟩
    · rintro ⟨k, h1, h2, h3⟩
      by_cases hk : k = i
      · subst hk; exact Or.inl h3
      · exact Or.inr ⟨k, by omega, by omega, h3⟩
theorem seg_sgns {g : Nat → Int32} (h : SgR g) (i j : Nat) : sgns (seg g i j) := by
  intro x hx
  obtain ⟨k, _, _, rfl⟩ := (seg_mem g j i x).mp hx
  exact h k
theorem sum_le {g : Nat → Int32} (hs : SgR g) (hz : Nz g) : cntd g 1 + cntd g (-1) + cntd g 0 ≤ deg g := by
  rw [← ccd_deg hz, ← ccd_deg hz, ← ccd_deg hz]
  have e1 : ccd 1 g (deg g) = chs 1 0 (seg g 0 (deg g + 1)) := if_neg (by decide)
  have e2 : ccd (-1) g (deg g) = chs (-1) 0 (seg g 0 (deg g + 1)) := if_neg (by decide)
  have e3 : ccd 0 g (deg g) = 0 + zl (seg g 0 (deg g + 1)) := (if_pos rfl).trans (zbF_zl g _ _)
  have e := three_le (seg g 0 (deg g + 1)) (seg_sgns hs _ _) ⟨g (deg g), (seg_mem g _ _ _).mpr ⟨deg g, by omega, by omega, rfl⟩, deg_ne hz⟩
  rw [seg_len] at e
  omega
def shV (g : Nat → Int32) : UInt64 := if deg g = 0 then FP.dconst1 else FP.ddiv (FP.i2d (nI (cntd g 1 + cntd g (-1) + cntd g 0))) (FP.i2d (nI (deg g)))
def okSh (x : UInt64) : Bool := n64b x && decide (Op.cmpValue (FP.dcmp x x) .l = 0) && decide (fX2_bitsOf M0 x = some x.toInt64)
theorem okSh_1 : okSh FP.dconst1 = true := by decide +kernel
theorem okSh_q : ∀ d : Nat, d < 9 → 0 < d → ∀ t : Nat, t < 9 → t ≤ d → okSh (FP.ddiv (FP.i2d (nI t)) (FP.i2d (nI d))) = true := by decide +kernel
theorem okSh_sh {g : Nat → Int32} (hs : SgR g) (hz : Nz g) : okSh (shV g) = true := by
  unfold shV
  split
  · exact okSh_1
  · have h1 := sum_le hs hz
    have h2 := deg_lt g
    exact okSh_q _ h2 (by omega) _ (by omega) h1
/-- the share in the model -/
def sharM (M : Mem) (n : Nat) : Mem := oftM M n
theorem oft_oft (M : Mem) (n : Nat) : oftM (oftM M n) n = oftM M n := by
  unfold oftM
  rw [setA_setA, mI_eq, mI_ne _ _ (by decide)]
  refine setA_cg _ _ (funext fun k => ?_)
  unfold bq
  split <;> rfl
theorem oft_v (M : Mem) (n : Nat) : mI (oftM M n) 118 = mI M 118 := mI_ne _ _ (by decide)
theorem q_share (M : Mem) (h : HM M) (hs : SgV (mI M 118)) (hz : NzV (mI M 118)) {n : Nat} (hn : n < 5) : fX3_share M (some 117) (nI n) = some (oftM M n, shV (rv (mI M 118) n)) := by
  have ho : HM (oftM M n) := h
  have e4 := oft_v M n
  have f1 := q_often M h hs hz hn sgn_1
  have f2 := q_often (oftM M n) ho (by rw [e4]; exact hs) (by rw [e4]; exact hz) hn (sgn_neg sgn_1)
  have f3 := q_often (oftM M n) ho (by rw [e4]; exact hs) (by rw [e4]; exact hz) hn sgn_0
  have f4 := q_degree (oftM M n) ho hn
  have hk := okSh_sh (hs.row hn) (hz n hn)
  rw [oft_oft, e4] at f2 f3
  rw [e4] at f4
  unfold fX3_share
  simp only [mok M h, mok (oftM M n) ho, f1, f2, f3, f4, Option.bind_some]
  unfold shV at hk ⊢
  have e0 : (nI (deg (rv (mI M 118) n)) = 0) ↔ deg (rv (mI M 118) n) = 0 := nI_eq (b := 0) (by have := deg_lt (rv (mI M 118) n); omega) (by decide)
  by_cases h0 : deg (rv (mI M 118) n) = 0
  · rw [if_pos (e0.mpr h0), if_pos h0]
  · rw [if_neg h0] at hk
    unfold okSh at hk
    simp only [Bool.and_eq_true] at hk
    rw [if_neg (fun q => h0 (e0.mp q)), if_neg h0, nI_add, nI_add, chk, if_pos hk.1.1]
/-! the first error of the buffer's text -/
def codeB (x : Int32) : Bool := x == 43 || x == 45 || x == 48
def badB (bf : Nat → Int32) (i : Nat) : Bool := decide (9 ≤ i) || !codeB (bf i) || (decide (i = 0) && bf i == 48)
/-- from place i on, j places at most -/
def errF (bf : Nat → Int32) (i : Nat) : Nat → Nat
  | 0 => i
  | j + 1 => if badB bf i = true then i else errF bf (i + 1) j
theorem q_error (M : Mem) (h : HM M) {l : Nat} (hl : l ≤ 60) (h7 : mI M 117 7 = nI l) : fX3_error M (some 117) = some (nI (errF (mI M 122) 0 l)) := by
  unfold fX3_error
  have stop : ∀ n i, i < l → fX3_error_4 M (some 117) (fun x18 x19 => some x18) (n + 1) (nI i) 0 = some (nI i) := by
    intro n i hi
    rw [fX3_error_4, mog M _ h, Option.bind_some, h7, if_neg (ge_f hi (by omega)), if_pos rfl]
  have go : ∀ j i n, i + j = l → j + 1 < n → fX3_error_4 M (some 117) (fun x18 x19 => some x18) n (nI i) 1 = some (nI (errF (mI M 122) i j)) := by
    intro j
    induction j with
    | zero =>
      intro i n hi hn
      obtain ⟨n, rfl⟩ := suc_of hn
      rw [fX3_error_4, mog M _ h, Option.bind_some, h7, if_pos (nI_le (by omega) (by omega))]
      rfl
    | succ j ih =>
      intro i n hi hn
      obtain ⟨n, rfl⟩ := suc_of hn
      obtain ⟨n2, rfl⟩ := suc_of (show j + 1 < n by omega)
      have e := ih (i + 1) (n2 + 1) (by omega) (by omega)
      have es := stop n2 i (by omega)
      rw [fX3_error_4, mog M _ h, Option.bind_some, h7, if_neg (ge_f (by omega) (by omega)), if_neg (by decide), errF]
      unfold badB codeB
      by_cases h9 : 9 ≤ i
      · rw [if_pos (show (9 : Int32) ≤ nI i from nI_le h9 (by omega)), Int32.add_zero, es, if_pos (by simp [h9])]
      · rw [if_neg (show ¬ (9 : Int32) ≤ nI i from ge_f (N := 9) (by omega) (by decide))]
        simp only [mo6 M h, moa M 122 i (by rw [lm0]; omega) h, Option.bind_some]
        by_cases h43 : mI M 122 i = 43
        · rw [if_pos h43, nI_1, e, if_neg (by rw [h43]; simp [h9])]
        · rw [if_neg h43]
          by_cases h45 : mI M 122 i = 45
          · rw [if_pos h45, nI_1, e, if_neg (by rw [h45]; simp [h9])]
          · rw [if_neg h45]
            by_cases h48 : mI M 122 i = 48
            · rw [if_pos h48]
              by_cases h0 : i = 0
              · rw [if_pos ((le0_iff i (by omega)).mpr h0), if_pos rfl, Int32.add_zero, es, if_pos (by rw [h48]; simp [h0])]
              · rw [if_neg (fun q => h0 ((le0_iff i (by omega)).mp q)), if_neg (by decide), nI_1, e, if_neg (by rw [h48]; simp [h9, h0])]
            · rw [if_neg h48, if_pos rfl, Int32.add_zero, es, if_pos (by simp [h43, h45, h48])]
  have e := go l 0 FU (by omega) (fu_9 (by omega))
  rw [nI_0] at e
  exact e
