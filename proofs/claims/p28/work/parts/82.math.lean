/-! ===== what the law asks, as mathematics of rows ===== -/
theorem any_iff (f : Nat → Bool) : ∀ n, anyF f n = true ↔ ∃ k, k < n ∧ f k = true := by
  intro n
  induction n with
  | zero => exact ⟨fun h => absurd h Bool.false_ne_true, fun ⟨k, hk, _⟩ => absurd hk (Nat.not_lt_zero _)⟩
  | succ n ih =>
    rw [anyF, Bool.or_eq_true, ih]
    constructor
    · rintro (⟨k, hk, h⟩ | h)
      · exact ⟨k, Nat.lt_succ_of_lt hk, h⟩
      · exact ⟨n, Nat.lt_succ_self _, h⟩
    · rintro ⟨k, hk, h⟩
      by_cases hkn : k = n
      · exact Or.inr (hkn ▸ h)
      · exact Or.inl ⟨k, by omega, h⟩
def Exs (g : Nat → Int32) (a : Int32) (i j : Nat) (s : Int32) : Prop := ∃ k, i ≤ k ∧ k < i + j ∧ tw g a k = s
theorem Exs_s {g : Nat → Int32} {a : Int32} {i j : Nat} {s : Int32} : Exs g a i (j + 1) s ↔ tw g a i = s ∨ Exs g a (i + 1) j s := by
  constructor
  · rintro ⟨k, h1, h2, h3⟩
    by_cases hk : k = i
    · exact Or.inl (hk ▸ h3)
    · exact Or.inr ⟨k, by omega, by omega, h3⟩
  · rintro (h | ⟨k, h1, h2, h3⟩)
    · exact ⟨i, Nat.le_refl _, by omega, h⟩
    · exact ⟨k, by omega, by omega, h3⟩
theorem chs_key {a p x w : Int32} (ha : a = 1 ∨ a = -1) (hp : p = 1 ∨ p = -1) (hx : sgn x) (hw : sgn w) : a * nxl (p * w) x = (a * p) * (if x * p = 0 then w else x * p) ∧ (chg (p * w) x = if x * p = 0 ∨ w = 0 ∨ x * p = w then 0 else 1) := by
  rcases ha with rfl | rfl <;> rcases hp with rfl | rfl <;> rcases hx with rfl | rfl | rfl <;> rcases hw with rfl | rfl | rfl <;> decide
theorem chs_0 {g : Nat → Int32} {a : Int32} (ha : a = 1 ∨ a = -1) (hs : SgR g) : ∀ j i w, i + j = 9 → sgn w → (chs a (pw a i * w) (seg g i j) = 0 ↔ ¬ ((w = 1 ∨ Exs g a i j 1) ∧ (w = -1 ∨ Exs g a i j (-1)))) := by
  intro j
  induction j with
  | zero =>
    intro i w _ hw
    have hn : ∀ s, ¬ Exs g a i 0 s := fun s ⟨k, h1, h2, _⟩ => by omega
    show (0 = 0 ↔ _)
    constructor
    · rintro - ⟨h1, h2⟩
      have h1 := h1.resolve_right (hn 1)
      have h2 := h2.resolve_right (hn (-1))
      rw [h1] at h2
      exact absurd h2 (by decide)
    · exact fun _ => rfl
  | succ j ih =>
    intro i w hij hw
    have hp := pw_pm ha i (by omega)
    have hps := pw_s ha i (by omega)
    have hx := hs i
    obtain ⟨k1, k2⟩ := chs_key (w := w) ha hp hx hw
    have ht : sgn (tw g a i) := sgn_mul hx (pw_sgn (ha.elim (fun e => e ▸ sgn_1) (fun e => e ▸ sgn_neg sgn_1)) i)
    rw [seg, chs, k1, k2, ← hps]
    show _ + chs a (pw a (i + 1) * (if tw g a i = 0 then w else tw g a i)) _ = 0 ↔ _
    have hw2 : sgn (if tw g a i = 0 then w else tw g a i) := by split <;> assumption
    have e := ih (i + 1) _ (by omega) hw2
    rw [Exs_s, Exs_s]
    show (if tw g a i = 0 ∨ w = 0 ∨ tw g a i = w then 0 else 1) + _ = 0 ↔ _
    generalize hc : chs a (pw a (i + 1) * (if tw g a i = 0 then w else tw g a i)) (seg g (i + 1) j) = c at e
    generalize Exs g a (i + 1) j 1 = P at e ⊢
    generalize Exs g a (i + 1) j (-1) = Q at e ⊢
    have d1 : ¬ (1 : Int32) = -1 := by decide
    have d2 : ¬ (-1 : Int32) = 1 := by decide
    have d3 : ¬ (0 : Int32) = 1 := by decide
    have d4 : ¬ (0 : Int32) = -1 := by decide
    have d5 : ¬ (1 : Int32) = 0 := by decide
    have d6 : ¬ (-1 : Int32) = 0 := by decide
    rcases ht with h | h | h <;> rw [h] at e ⊢ <;> rcases hw with rfl | rfl | rfl <;> simp only [d1, d2, d3, d4, d5, d6, if_true, if_false, true_or, or_true, false_or, or_false, true_and, and_true, false_and, and_false, not_true, not_false_eq_true, iff_true, iff_false, Nat.zero_add] at e ⊢ <;> first | exact e | omega
/-- a sign is a root just if it can be taken out -/
theorem hasR_iff {g : Nat → Int32} (hs : SgR g) (hz : Nz g) {r : Int32} (hr : sgn r) : hasR g r = true ↔ cntd g r ≠ 0 := by
  unfold hasR
  rw [beq_iff_eq, Bool.eq_iff_iff, any_iff, any_iff]
  by_cases h0 : r = 0
  · subst h0
    have e : ∀ k, k < 9 → tw g 0 k = if k = 0 then g 0 else 0 := fun k hk => by
      unfold tw
      rw [pw0 k hk]
      by_cases hk0 : k = 0
      · rw [if_pos hk0, if_pos hk0, hk0, Int32.mul_one]
      · rw [if_neg hk0, if_neg hk0, Int32.mul_zero]
    have hc : cntd g 0 ≠ 0 ↔ g 0 = 0 := by
      unfold cntd
      rw [if_pos rfl]
      show (if g 0 = 0 then zbF g (0 + 1) 8 else 0) ≠ 0 ↔ _
      have hge : ∀ j i, i ≤ zbF g i j := by
        intro j
        induction j with
        | zero => intro i; exact Nat.le_refl _
        | succ j ih =>
          intro i
          rw [zbF]
          split
          · exact Nat.le_trans (Nat.le_succ _) (ih (i + 1))
          · exact Nat.le_refl _
      by_cases h : g 0 = 0
      · rw [if_pos h]
        have := hge 8 (0 + 1)
        exact ⟨fun _ => h, fun _ => by omega⟩
      · rw [if_neg h]
        exact ⟨fun q => absurd rfl q, fun q => absurd q h⟩
    rw [hc]
    have hP : (∃ k, k < 9 ∧ isP (tw g 0 k) = true) ↔ g 0 = 1 := by
      constructor
      · rintro ⟨k, hk, h⟩
        rw [e k hk] at h
        by_cases hk0 : k = 0
        · rw [if_pos hk0] at h; exact eq_of_beq h
        · rw [if_neg hk0] at h; exact absurd h (by decide)
      · intro h
        exact ⟨0, by decide, by rw [e 0 (by decide), if_pos rfl, h]; rfl⟩
    have hM : (∃ k, k < 9 ∧ isM (tw g 0 k) = true) ↔ g 0 = -1 := by
      constructor
      · rintro ⟨k, hk, h⟩
        rw [e k hk] at h
        by_cases hk0 : k = 0
        · rw [if_pos hk0] at h; exact eq_of_beq h
        · rw [if_neg hk0] at h; exact absurd h (by decide)
      · intro h
        exact ⟨0, by decide, by rw [e 0 (by decide), if_pos rfl, h]; rfl⟩
    rw [hP, hM]
    rcases hs 0 with h | h | h <;> rw [h] <;> decide
  · have ha : r = 1 ∨ r = -1 := by rcases hr with h | h | h <;> simp_all
    have e := chs_0 ha hs 9 0 0 rfl sgn_0
    have ez : pw r 0 * 0 = 0 := by simp
    rw [ez] at e
    have hc : cntd g r = chs r 0 (seg g 0 9) := if_neg h0
    have hP : (∃ k, k < 9 ∧ isP (tw g r k) = true) ↔ Exs g r 0 9 1 := by
      constructor
      · rintro ⟨k, hk, h⟩; exact ⟨k, Nat.zero_le _, by omega, eq_of_beq h⟩
      · rintro ⟨k, _, hk, h⟩; exact ⟨k, by omega, by rw [h]; rfl⟩
    have hM : (∃ k, k < 9 ∧ isM (tw g r k) = true) ↔ Exs g r 0 9 (-1) := by
      constructor
      · rintro ⟨k, hk, h⟩; exact ⟨k, Nat.zero_le _, by omega, eq_of_beq h⟩
      · rintro ⟨k, _, hk, h⟩; exact ⟨k, by omega, by rw [h]; rfl⟩
    have hor : Exs g r 0 9 1 ∨ Exs g r 0 9 (-1) := by
      obtain ⟨k, hk, hg⟩ := hz
      have ht : sgn (tw g r k) := sgn_mul (hs k) (pw_sgn hr k)
      rcases ht with h | h | h
      · exact Or.inr ⟨k, Nat.zero_le _, by omega, h⟩
      · exfalso
        have hp := pw_pm ha k (by omega)
        have hgk := hs k
        unfold tw at h
        rcases hp with hp | hp <;> rw [hp] at h <;> rcases hgk with q | q | q <;> rw [q] at h hg <;> first | exact hg rfl | exact absurd h (by decide)
      · exact Or.inl ⟨k, Nat.zero_le _, by omega, h⟩
    rw [hP, hM, hc, Ne, e]
    have d3 : ¬ (0 : Int32) = 1 := by decide
    have d4 : ¬ (0 : Int32) = -1 := by decide
    simp only [d3, d4, false_or]
    constructor
    · intro h q
      rcases hor with h1 | h1
      · exact q ⟨h1, h.mp h1⟩
      · exact q ⟨h.mpr h1, h1⟩
    · intro h
      have h2 : Exs g r 0 9 1 ∧ Exs g r 0 9 (-1) := Classical.not_not.mp h
      exact ⟨fun _ => h2.2, fun _ => h2.1⟩
/-- there is one quotient by 0 at most -/
theorem qE0_len : ∀ (rs : List Int32) (r p : Int32), (qE 0 p (r :: rs)).length ≤ if r = p then 1 else 0 := by
  have hin : ∀ r p x : Int32, inS r p (-0 * x) = true → r = p := fun r p x h => inS_0 (r := r) (p := p) (by rw [show (-0 : Int32) * 0 = -0 * x by simp]; exact h)
  intro rs
  induction rs with
  | nil =>
    intro r p
    rw [qE]
    split
    · exact Nat.zero_le _
    · split
      · rename_i h
        rw [if_pos (hin r p 0 (by rw [show (-0 : Int32) * 0 = 0 by decide]; exact h))]
        exact Nat.le_refl _
      · exact Nat.zero_le _
  | cons r2 rs ih =>
    intro r p
    have e : qE 0 p (r :: r2 :: rs) = fl3 (fun x => if inS r p (-0 * x) = true then (qE 0 x (r2 :: rs)).map (x :: ·) else []) := rfl
    have hl : ∀ x, (if inS r p (-0 * x) = true then (qE 0 x (r2 :: rs)).map (x :: ·) else []).length ≤ if r = p ∧ r2 = x then 1 else 0 := by
      intro x
      by_cases h : inS r p (-0 * x) = true
      · rw [if_pos h, List.length_map]
        have := ih r2 x
        have hrp := hin r p x h
        by_cases h2 : r2 = x
        · rw [if_pos h2] at this; rw [if_pos ⟨hrp, h2⟩]; exact this
        · rw [if_neg h2] at this; exact Nat.le_trans this (Nat.zero_le _)
      · rw [if_neg h]; exact Nat.zero_le _
    rw [e, fl3, List.length_append, List.length_append]
    refine Nat.le_trans (Nat.add_le_add (hl (-1)) (Nat.add_le_add (hl 0) (hl 1))) ?_
    by_cases hrp : r = p
    · rw [if_pos hrp]
      have d1 : ¬ ((-1 : Int32) = 0) := by decide
      have d2 : ¬ ((-1 : Int32) = 1) := by decide
      have d3 : ¬ ((0 : Int32) = 1) := by decide
      by_cases a1 : r2 = -1
      · rw [if_pos ⟨hrp, a1⟩, if_neg (fun q => d1 (a1.symm.trans q.2)), if_neg (fun q => d2 (a1.symm.trans q.2))]
        exact Nat.le_refl _
      · rw [if_neg (fun q => a1 q.2)]
        by_cases a2 : r2 = 0
        · rw [if_pos ⟨hrp, a2⟩, if_neg (fun q => d3 (a2.symm.trans q.2))]
          exact Nat.le_refl _
        · rw [if_neg (fun q => a2 q.2)]
          split <;> omega
    · rw [if_neg hrp, if_neg (fun q => hrp q.1), if_neg (fun q => hrp q.1), if_neg (fun q => hrp q.1)]
      exact Nat.le_refl _
theorem quo0_len (g : Nat → Int32) : (quo g 0).length ≤ 1 := by
  have h := qE0_len (seg g 1 (deg g)) (g 0) 0
  have e : quo g 0 = qE 0 0 (g 0 :: seg g 1 (deg g)) := rfl
  rw [e]
  refine Nat.le_trans h ?_
  split <;> omega
/-- the best one's form isn't below 0 -/
theorem fD_lt (g : Nat → Int32) : fD g 9 0 < 19683 := by
  have e := fD_9 g
  have a0 := dg_le (g 0)
  have a1 := dg_le (g 1)
  have a2 := dg_le (g 2)
  have a3 := dg_le (g 3)
  have a4 := dg_le (g 4)
  have a5 := dg_le (g 5)
  have a6 := dg_le (g 6)
  have a7 := dg_le (g 7)
  have a8 := dg_le (g 8)
  omega
theorem bfm_neg {g : Nat → Int32} (hs : SgR g) (hz : Nz g) {r : Int32} (hr : sgn r) : bfm g r < 0 ↔ cntd g r = 0 := by
  unfold bfm
  by_cases h : cntd g r = 0
  · rw [if_pos h]; exact ⟨fun _ => h, fun _ => by decide⟩
  · rw [if_neg h]
    have h2 : SgR (lrow (bst r (quo g r)).2) := by
      obtain ⟨h1, h2, h3⟩ := quo_facts hs hz hr
      rcases fold_mem r (quo g r) (0, []) with hm | hm
      · exfalso
        have : (bst r (quo g r)).1 = 0 := by unfold bst; rw [hm]
        omega
      · exact lrow_sgn (h3 _ hm).2.1
    rw [form_N h2]
    exact ⟨fun q => absurd q (nI_pos (by have := fD_lt (lrow (bst r (quo g r)).2); omega)), fun q => absurd q h⟩
/-- changes are fewer than signs that are not 0 -/
def nzS (g : Nat → Int32) (i : Nat) : Nat → Nat
  | 0 => 0
  | j + 1 => (if g i = 0 then 0 else 1) + nzS g (i + 1) j
theorem nzF_S (g : Nat → Int32) : ∀ j i, nzF g (i + j) = nzF g i + nzS g i j := by
  intro j
  induction j with
  | zero => intro i; rfl
  | succ j ih =>
    intro i
    have := ih (i + 1)
    rw [show i + (j + 1) = i + 1 + j by omega, this, nzF, nzS]
    omega
theorem chs_nz {g : Nat → Int32} : ∀ j i l, chs 1 l (seg g i j) + (if l = 0 ∧ nzS g i j ≠ 0 then 1 else 0) ≤ nzS g i j := by
  intro j
  induction j with
  | zero => intro i l; rw [seg, chs, nzS, if_neg (fun q => q.2 rfl)]; exact Nat.le_refl _
  | succ j ih =>
    intro i l
    rw [seg, chs, nzS, Int32.one_mul]
    by_cases hx : g i = 0
    · have := ih (i + 1) l
      rw [if_pos hx, Nat.zero_add, show chg l (g i) = 0 from if_pos (Or.inl hx), show nxl l (g i) = l from if_pos hx, Nat.zero_add]
      exact this
    · have := ih (i + 1) (g i)
      rw [if_neg (fun q => hx q.1)] at this
      rw [if_neg hx, show nxl l (g i) = g i from if_neg hx]
      by_cases hl : l = 0
      · rw [show chg l (g i) = 0 from if_pos (Or.inr (Or.inl hl)), if_pos ⟨hl, by omega⟩]
        omega
      · rw [if_neg (fun q => hl q.1)]
        have hc : chg l (g i) ≤ 1 := by unfold chg; split <;> omega
        omega
theorem chs_lt {g : Nat → Int32} (hz : Nz g) : cntd g 1 < nzF g 9 := by
  have h := chs_nz (g := g) 9 0 0
  have e := nzF_S g 9 0
  have hn : nzF g 9 ≠ 0 := by
    intro q
    obtain ⟨k, hk, hg⟩ := hz
    exact hg ((nzF_0 g 9).mp q k hk)
  have hc : cntd g 1 = chs 1 0 (seg g 0 9) := if_neg (by decide)
  rw [show nzF g 0 = 0 from rfl, Nat.zero_add, Nat.zero_add] at e
  rw [← e, if_pos ⟨rfl, hn⟩] at h
  omega
/-- sums and products are the same both ways -/
theorem pr_comm (f : Int32 → Bool) (g h : Nat → Int32) (k : Nat) : anyF (fun i => f (g i * h (k - i))) (k + 1) = anyF (fun i => f (h i * g (k - i))) (k + 1) := by
  rw [Bool.eq_iff_iff, any_iff, any_iff]
  constructor
  · rintro ⟨i, hi, q⟩
    refine ⟨k - i, by omega, ?_⟩
    rw [show k - (k - i) = i by omega, Int32.mul_comm]
    exact q
  · rintro ⟨i, hi, q⟩
    refine ⟨k - i, by omega, ?_⟩
    rw [show k - (k - i) = i by omega, Int32.mul_comm]
    exact q
theorem opP_comm (w : Int32) (g h : Nat → Int32) : opP w g h = opP w h g := by
  funext k
  unfold opP sumP prP
  rw [Bool.or_comm, pr_comm isP g h k]
theorem opM_comm (w : Int32) (g h : Nat → Int32) : opM w g h = opM w h g := by
  funext k
  unfold opM sumM prM
  rw [Bool.or_comm, pr_comm isM g h k]
theorem high_comm (w : Int32) (g h : Nat → Int32) : tooHigh w g h = tooHigh w h g := by
  unfold tooHigh
  rw [Nat.add_comm]
theorem rows_comm (w : Int32) (g h : Nat → Int32) : rowsV w g h = rowsV w h g := by
  unfold rowsV
  rw [opP_comm, opM_comm, high_comm]
theorem amg_comm (w : Int32) (x g h : Nat → Int32) : amgV w x g h = amgV w x h g := by
  unfold amgV
  rw [opP_comm, opM_comm, high_comm]
theorem amg_iff (p m : Nat → Bool) (x : Nat → Int32) : ∀ j i, amg p m x i j = true ↔ ∀ k, i ≤ k → k < i + j → ((p k && m k) || (p k == isP (x k) && m k == isM (x k))) = true := by
  intro j
  induction j with
  | zero => intro i; exact ⟨fun _ k h1 h2 => by omega, fun _ => rfl⟩
  | succ j ih =>
    intro i
    rw [amg, Bool.and_eq_true, ih]
    constructor
    · rintro ⟨h, h2⟩ k h3 h4
      by_cases hk : k = i
      · rw [hk]; exact h
      · exact h2 k (by omega) (by omega)
    · intro h
      exact ⟨h i (Nat.le_refl _) (by omega), fun k h3 h4 => h k (by omega) (by omega)⟩
theorem amg_self (g : Nat → Int32) : amgV 0 g g g = true := by
  unfold amgV
  rw [show tooHigh 0 g g = false from rfl]
  show amg _ _ _ _ _ = true
  rw [amg_iff]
  intro k _ _
  have h1 : opP 0 g g k = isP (g k) := Bool.or_self _
  have h2 : opM 0 g g k = isM (g k) := Bool.or_self _
  rw [h1, h2, beq_self_eq_true, beq_self_eq_true]
  exact Bool.or_true _
theorem amg_deg {x g h : Nat → Int32} (hx : SgR x) (hg : SgR g) (hh : SgR h) (zg : Nz g) (zh : Nz h) (ha : amgV 1 x g h = true) : deg x = deg g + deg h := by
  unfold amgV at ha
  rw [Bool.and_eq_true] at ha
  obtain ⟨h1, h2⟩ := ha
  have hd : deg g + deg h ≤ 8 := by
    have : decide (8 < deg g + deg h) = false := by
      have h3 : tooHigh 1 g h = false := by simpa using h1
      exact h3
    have := of_decide_eq_false this
    omega
  rw [amg_iff] at h2
  have ng := deg_ne zg
  have nh := deg_ne zh
  have zero : ∀ k i, i < k + 1 → k < 9 → deg g + deg h < k ∨ (k = deg g + deg h ∧ i ≠ deg g) → g i * h (k - i) = 0 := by
    intro k i hi hk hc
    by_cases hi2 : deg g < i
    · rw [deg_top g hi2 (by omega), Int32.zero_mul]
    · rw [deg_top h (show deg h < k - i by omega) (by omega), Int32.mul_zero]
  refine deg_is (by omega) ?_ (fun k hk hk9 => ?_)
  · have h3 := h2 (deg g + deg h) (Nat.zero_le _) (by omega)
    have hv : ∀ f : Int32 → Bool, f 0 = false → anyF (fun i => f (g i * h (deg g + deg h - i))) (deg g + deg h + 1) = f (g (deg g) * h (deg h)) := by
      intro f hf
      rw [Bool.eq_iff_iff, any_iff]
      constructor
      · rintro ⟨i, hi, q⟩
        by_cases hi2 : i = deg g
        · rw [hi2, Nat.add_sub_cancel_left] at q; exact q
        · rw [zero _ i hi (by omega) (Or.inr ⟨rfl, hi2⟩), hf] at q; cases q
      · intro q
        exact ⟨deg g, by omega, by rw [Nat.add_sub_cancel_left]; exact q⟩
    have e1 : opP 1 g h (deg g + deg h) = isP (g (deg g) * h (deg h)) := hv isP rfl
    have e2 : opM 1 g h (deg g + deg h) = isM (g (deg g) * h (deg h)) := hv isM rfl
    rw [e1, e2] at h3
    intro hx0
    rw [hx0] at h3
    rcases hg (deg g) with q | q | q <;> rcases hh (deg h) with q2 | q2 | q2 <;> rw [q, q2] at h3 <;> first | exact ng q | exact nh q2 | exact absurd h3 (by decide)
  · have h3 := h2 k (Nat.zero_le _) (by omega)
    have hv : ∀ f : Int32 → Bool, f 0 = false → anyF (fun i => f (g i * h (k - i))) (k + 1) = false := by
      intro f hf
      rw [Bool.eq_false_iff]
      intro q
      obtain ⟨i, hi, q⟩ := (any_iff _ _).mp q
      rw [zero _ i hi hk9 (Or.inl hk), hf] at q
      cases q
    have e1 : opP 1 g h k = false := hv isP rfl
    have e2 : opM 1 g h k = false := hv isM rfl
    rw [e1, e2] at h3
    rcases hx k with q | q | q
    · rw [q] at h3; exact absurd h3 (by decide)
    · exact q
    · rw [q] at h3; exact absurd h3 (by decide)
theorem rt_sum (v : Nat → Int32) : ∀ i, rtF v 1 i + rtF v 2 i + rtF v 3 i = i := by
  intro i
  induction i with
  | zero => rfl
  | succ i ih =>
    rw [rtF, rtF, rtF]
    have h : rcl (v (46 + i)) = 1 ∨ rcl (v (46 + i)) = 2 ∨ rcl (v (46 + i)) = 3 := by
      unfold rcl
      split
      · split
        · exact Or.inr (Or.inr rfl)
        · exact Or.inr (Or.inl rfl)
      · exact Or.inl rfl
    rcases h with h | h | h <;> rw [h]
    · rw [if_pos rfl, if_neg (by decide), if_neg (by decide)]; omega
    · rw [if_neg (by decide), if_pos rfl, if_neg (by decide)]; omega
    · rw [if_neg (by decide), if_neg (by decide), if_pos rfl]; omega
