def zl : List Int32 → Nat
  | [] => 0
  | x :: xs => if x = 0 then zl xs + 1 else 0
theorem zbF_zl (g : Nat → Int32) : ∀ j i, zbF g i j = i + zl (seg g i j) := by
  intro j
  induction j with
  | zero => intro i; rfl
  | succ j ih =>
    intro i
    rw [zbF, seg, zl]
    by_cases hg : g i = 0
    · rw [if_pos hg, if_pos hg, ih]; omega
    · rw [if_neg hg, if_neg hg]; rfl
theorem two_le : ∀ (xs : List Int32) (l : Int32), sgns xs → (l = 1 ∨ l = -1) → (chs 1 l xs + chs (-1) (-l) xs ≤ xs.length) ∧ (chs 1 l xs + chs (-1) l xs ≤ xs.length + 1) := by
  intro xs
  induction xs with
  | nil => intro l _ _; exact ⟨Nat.le_refl _, Nat.le_succ _⟩
  | cons x xs ih =>
    intro l hx hl
    obtain ⟨h1, h2⟩ := sgns_c hx
    have i1 := ih 1 h2 (Or.inl rfl)
    have i2 := ih (-1) h2 (Or.inr rfl)
    simp only [chs, List.length_cons]
    have e0 : -(-1 : Int32) = 1 := by decide
    rw [e0] at i2
    rcases h1 with rfl | rfl | rfl <;> rcases hl with rfl | rfl <;> simp [chg, nxl] at i1 i2 ⊢ <;> omega
theorem three_le : ∀ (xs : List Int32), sgns xs → (∃ x ∈ xs, x ≠ 0) → chs 1 0 xs + chs (-1) 0 xs + zl xs + 1 ≤ xs.length := by
  intro xs
  induction xs with
  | nil => rintro _ ⟨x, h, _⟩; cases h
  | cons x xs ih =>
    intro hx hn
    obtain ⟨h1, h2⟩ := sgns_c hx
    by_cases h0 : x = 0
    · subst h0
      have hn2 : ∃ x ∈ xs, x ≠ 0 := by
        obtain ⟨y, hy, hy2⟩ := hn
        rcases List.mem_cons.mp hy with rfl | h
        · exact absurd rfl hy2
        · exact ⟨y, h, hy2⟩
      have := ih h2 hn2
      simp [chs, chg, nxl, zl]
      omega
    · have i1 := two_le xs 1 h2 (Or.inl rfl)
      have i2 := two_le xs (-1) h2 (Or.inr rfl)
      have e0 : -(-1 : Int32) = 1 := by decide
      rw [e0] at i2
      rcases h1 with rfl | rfl | rfl
      · simp [chs, chg, nxl, zl] at i1 i2 ⊢; omega
      · exact absurd rfl h0
      · simp [chs, chg, nxl, zl] at i1 i2 ⊢; omega
theorem seg_len (g : Nat → Int32) : ∀ j i, (seg g i j).length = j := by
  intro j
  induction j with
  | zero => intro i; rfl
  | succ j ih => intro i; rw [seg, List.length_cons, ih]
theorem seg_mem (g : Nat → Int32) : ∀ j i x, x ∈ seg g i j ↔ ∃ k, i ≤ k ∧ k < i + j ∧ x = g k := by
  intro j
  induction j with
  | zero =>
    intro i x
    constructor
    · intro h; cases h
    · rintro ⟨k, h1, h2, _⟩; omega
  | succ j ih =>
    intro i x
    rw [seg, List.mem_cons, ih]
    constructor
    · rintro (h | ⟨k, h1, h2, h3⟩)
      · exact ⟨i, Nat.le_refl _, by omega, h⟩
      · exact ⟨k, by omega, by omega, h3⟩
    · rintro ⟨k, h1, h2, h3⟩
      by_cases hk : k = i
      · subst hk; exact Or.inl h3
      · exact Or.inr ⟨k, by omega, by omega, h3⟩
theorem seg_sgns {g : Nat → Int32} (h : SgR g) (i j : Nat) : sgns (seg g i j) := by
  intro x hx
  obtain ⟨k, _, _, rfl⟩ := (seg_mem g j i x).mp hx
  exact h k
theorem sum_le {g : Nat → Int32} (hs : SgR g) (hz : Nz g) : cntd g 1 + cntd g (-1) + cntd g 0 ≤ deg g := by
  rw [← ccd_deg hz, ← ccd_deg hz, ← ccd_deg hz]
  have e1 : ccd 1 g (deg g) = chs 1 0 (seg g 0 (deg g + 1)) := if_neg (by decide)
  have e2 : ccd (-1) g (deg g) = chs (-1) 0 (seg g 0 (deg g + 1)) := if_neg (by decide)
  have e3 : ccd 0 g (deg g) = 0 + zl (seg g 0 (deg g + 1)) := (if_pos rfl).trans (zbF_zl g _ _)
  have e := three_le (seg g 0 (deg g + 1)) (seg_sgns hs _ _) ⟨g (deg g), (seg_mem g _ _ _).mpr ⟨deg g, by omega, by omega, rfl⟩, deg_ne hz⟩
  rw [seg_len] at e
  omega
def shV (g : Nat → Int32) : UInt64 := if deg g = 0 then FP.dconst1 else FP.ddiv (FP.i2d (nI (cntd g 1 + cntd g (-1) + cntd g 0))) (FP.i2d (nI (deg g)))
def codeB (x : Int32) : Bool := x == 43 || x == 45 || x == 48
def badB (bf : Nat → Int32) (i : Nat) : Bool := decide (9 ≤ i) || !codeB (bf i) || (decide (i = 0) && bf i == 48)
/-- from place i on, j places at most -/
def errF (bf : Nat → Int32) (i : Nat) : Nat → Nat
  | 0 => i
  | j + 1 => if badB bf i = true then i else errF bf (i + 1) j
