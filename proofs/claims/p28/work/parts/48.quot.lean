def fl3 {β : Type} (f : Int32 → List β) : List β := f (-1) ++ (f 0 ++ f 1)
def qE (a : Int32) : Int32 → List Int32 → List (List Int32)
  | _, [] => []
  | p, [r] => if p = 0 then [] else if inS r p 0 = true then [[]] else []
  | p, r :: rs => fl3 (fun x => if inS r p (-a * x) = true then (qE a x rs).map (x :: ·) else [])
def allS : Nat → List (List Int32)
  | 0 => [[]]
  | d + 1 => fl3 (fun x => (allS d).map (x :: ·))
/-- the last of p and a list -/
def lst : Int32 → List Int32 → Int32
  | p, [] => p
  | _, x :: xs => lst x xs
def isQ (a p : Int32) (rs qs : List Int32) : Bool := !(lst p qs == 0) && qot a p rs qs
theorem qE_all (a : Int32) : ∀ (rs : List Int32) (r p : Int32), qE a p (r :: rs) = (allS rs.length).filter (isQ a p (r :: rs)) := by
  intro rs
  induction rs with
  | nil =>
    intro r p
    simp only [qE, allS, List.length_nil, isQ, lst, List.filter, qot]
    by_cases h : p = 0
    · simp [h]
    · by_cases h2 : inS r p 0 = true
      · have h3 : (p == 0) = false := beq_eq_false_iff_ne.mpr h
        simp only [if_neg h, h2, h3, if_true, Bool.not_false, Bool.and_true]
      · simp [h, h2]
  | cons r2 rs ih =>
    intro r p
    have key : ∀ x, (if inS r p (-a * x) = true then (qE a x (r2 :: rs)).map (x :: ·) else []) = ((allS rs.length).map (x :: ·)).filter (isQ a p (r :: r2 :: rs)) := by
      intro x
      rw [ih]
      rw [List.filter_map]
      by_cases h : inS r p (-a * x) = true
      · rw [if_pos h]
        refine congrArg (List.map _) (List.filter_congr fun q _ => ?_)
        simp [isQ, lst, qot, h]
      · rw [if_neg h]
        have : List.filter (isQ a p (r :: r2 :: rs) ∘ fun q => x :: q) (allS rs.length) = [] := by
          rw [List.filter_eq_nil_iff]
          intro q _ hq
          simp [isQ, lst, qot, h] at hq
        rw [this]; rfl
    show fl3 _ = _
    simp only [fl3, key, allS, List.length_cons, List.filter_append]
theorem allS_len : ∀ d q, q ∈ allS d → q.length = d ∧ sgns q := by
  intro d
  induction d with
  | zero =>
    intro q hq
    simp only [allS, List.mem_singleton] at hq
    subst hq
    exact ⟨rfl, fun x h => by cases h⟩
  | succ d ih =>
    intro q hq
    simp only [allS, fl3, List.mem_append, List.mem_map] at hq
    rcases hq with ⟨t, ht, rfl⟩ | ⟨t, ht, rfl⟩ | ⟨t, ht, rfl⟩
    · exact ⟨by simp [(ih t ht).1], sgns_cons (Or.inl rfl) (ih t ht).2⟩
    · exact ⟨by simp [(ih t ht).1], sgns_cons sgn_0 (ih t ht).2⟩
    · exact ⟨by simp [(ih t ht).1], sgns_cons sgn_1 (ih t ht).2⟩
theorem mem_allS : ∀ (q : List Int32), sgns q → q ∈ allS q.length := by
  intro q
  induction q with
  | nil => intro _; exact List.mem_singleton.mpr rfl
  | cons x q ih =>
    intro h
    obtain ⟨h1, h2⟩ := sgns_c h
    have := ih h2
    simp only [List.length_cons, allS, fl3, List.mem_append, List.mem_map]
    rcases h1 with rfl | rfl | rfl
    · exact Or.inl ⟨q, this, rfl⟩
    · exact Or.inr (Or.inl ⟨q, this, rfl⟩)
    · exact Or.inr (Or.inr ⟨q, this, rfl⟩)
/-- counted in a list -/
def cl (r : Int32) (xs : List Int32) : Nat := if r = 0 then zl xs else chs r 0 xs
theorem lead_lst : ∀ (rs : List Int32) (r : Int32), lead (r :: rs) ↔ lst r rs ≠ 0 := by
  intro rs
  induction rs with
  | nil => intro r; exact Iff.rfl
  | cons x rs ih => intro r; exact ih x
theorem qot_len {a : Int32} : ∀ (rs qs : List Int32) (p : Int32), qot a p rs qs = true → rs.length = qs.length + 1 := by
  intro rs
  induction rs with
  | nil => intro qs p h; cases qs <;> simp [qot] at h
  | cons r rs ih =>
    intro qs p h
    cases qs with
    | nil =>
      cases rs with
      | nil => rfl
      | cons _ _ => simp [qot] at h
    | cons q qs =>
      simp only [qot, Bool.and_eq_true] at h
      simp [ih qs q h.2]
theorem qot_lst {a : Int32} : ∀ (rs qs : List Int32) (r p : Int32), qot a p (r :: rs) qs = true → lst r rs ≠ 0 → lst p qs ≠ 0 := by
  intro rs
  induction rs with
  | nil =>
    intro qs r p h hl
    have e := qot_len _ _ _ h
    cases qs with
    | nil =>
      intro h0
      simp only [lst] at h0 hl
      simp [qot, inS, h0] at h
      exact hl h
    | cons _ _ => simp at e
  | cons x rs ih =>
    intro qs r p h hl
    cases qs with
    | nil => have e := qot_len _ _ _ h; simp at e
    | cons q qs =>
      simp only [qot, Bool.and_eq_true] at h
      exact ih qs x q h.2 hl
theorem qE_mem {a p : Int32} {r : Int32} {rs q : List Int32} : q ∈ qE a p (r :: rs) ↔ q.length = rs.length ∧ sgns q ∧ lst p q ≠ 0 ∧ qot a p (r :: rs) q = true := by
  rw [qE_all, List.mem_filter]
  constructor
  · rintro ⟨h1, h2⟩
    have := allS_len _ _ h1
    simp only [isQ, Bool.and_eq_true, Bool.not_eq_true', beq_eq_false_iff_ne] at h2
    exact ⟨this.1, this.2, h2.1, h2.2⟩
  · rintro ⟨h1, h2, h3, h4⟩
    refine ⟨h1 ▸ mem_allS q h2, ?_⟩
    simp only [isQ, Bool.and_eq_true, Bool.not_eq_true', beq_eq_false_iff_ne]
    exact ⟨h3, h4⟩
theorem cl_lt {a : Int32} (ha : sgn a) {r : Int32} {rs q : List Int32} (hr : sgns (r :: rs)) (hl : lead (r :: rs)) (h : q ∈ qE a 0 (r :: rs)) : cl a q + 1 ≤ cl a (r :: rs) := by
  obtain ⟨_, h2, _, h4⟩ := qE_mem.mp h
  unfold cl
  by_cases h0 : a = 0
  · subst h0
    rw [if_pos rfl, if_pos rfl, (qot0_iff _ _ _).mp h4]
    simp [zl]
  · rw [if_neg h0, if_neg h0]
    exact qot_lt (by rcases ha with h | h | h <;> simp_all) hr h2 hl h4
theorem cl_ex {a : Int32} (ha : sgn a) {r : Int32} {rs : List Int32} (hr : sgns (r :: rs)) (hl : lead (r :: rs)) (h : 1 ≤ cl a (r :: rs)) : ∃ q ∈ qE a 0 (r :: rs), cl a q + 1 = cl a (r :: rs) := by
  have hl2 := (lead_lst rs r).mp hl
  unfold cl at h ⊢
  by_cases h0 : a = 0
  · subst h0
    rw [if_pos rfl] at h
    have hr0 : r = 0 := by
      by_cases hr0 : r = 0
      · exact hr0
      · rw [zl, if_neg hr0] at h; omega
    subst hr0
    have hq : qot 0 0 ((0 : Int32) :: rs) rs = true := (qot0_iff _ _ _).mpr rfl
    refine ⟨rs, qE_mem.mpr ⟨rfl, (sgns_c hr).2, qot_lst _ _ _ _ hq hl2, hq⟩, ?_⟩
    rw [if_pos rfl, if_pos rfl, zl, if_pos rfl]
  · rw [if_neg h0] at h
    obtain ⟨q, h1, h2, h3⟩ := qot_ex (by rcases ha with h | h | h <;> simp_all) hr hl h
    have e := qot_len _ _ _ h2
    simp only [List.length_cons] at e
    refine ⟨q, qE_mem.mpr ⟨by omega, h1, qot_lst _ _ _ _ h2 hl2, h2⟩, ?_⟩
    rw [if_neg h0, if_neg h0]
    exact h3
/-- the first one with the most counted: 1 more than its counted, and itself -/
def stp (a : Int32) (s : Nat × List Int32) (q : List Int32) : Nat × List Int32 := if cl a q + 1 ≤ s.1 then s else (cl a q + 1, q)
def bst (a : Int32) (Q : List (List Int32)) : Nat × List Int32 := Q.foldl (stp a) (0, [])
theorem fold_le (a : Int32) : ∀ (Q : List (List Int32)) (s : Nat × List Int32), (∀ q ∈ Q, cl a q + 1 ≤ s.1) → Q.foldl (stp a) s = s := by
  intro Q
  induction Q with
  | nil => intro s _; rfl
  | cons q Q ih =>
    intro s h
    rw [List.foldl_cons, stp, if_pos (h q List.mem_cons_self)]
    exact ih s (fun x hx => h x (List.mem_cons_of_mem _ hx))
theorem fold_ub (a : Int32) (k : Nat) : ∀ (Q : List (List Int32)) (s : Nat × List Int32), s.1 ≤ k → (∀ q ∈ Q, cl a q + 1 ≤ k) → s.1 ≤ (Q.foldl (stp a) s).1 ∧ (Q.foldl (stp a) s).1 ≤ k ∧ ∀ q ∈ Q, cl a q + 1 ≤ (Q.foldl (stp a) s).1 := by
  intro Q
  induction Q with
  | nil => intro s h _; exact ⟨Nat.le_refl _, h, fun q h => by cases h⟩
  | cons q Q ih =>
    intro s h h2
    rw [List.foldl_cons]
    have hs : s.1 ≤ (stp a s q).1 ∧ (stp a s q).1 ≤ k ∧ cl a q + 1 ≤ (stp a s q).1 := by
      unfold stp
      have := h2 q List.mem_cons_self
      split
      · exact ⟨Nat.le_refl _, h, by assumption⟩
      · exact ⟨by dsimp only; omega, this, Nat.le_refl _⟩
    obtain ⟨i1, i2, i3⟩ := ih (stp a s q) hs.2.1 (fun x hx => h2 x (List.mem_cons_of_mem _ hx))
    refine ⟨by omega, i2, fun x hx => ?_⟩
    rcases List.mem_cons.mp hx with rfl | hx
    · omega
    · exact i3 x hx
theorem bst_1 {a : Int32} (ha : sgn a) {r : Int32} {rs : List Int32} (hr : sgns (r :: rs)) (hl : lead (r :: rs)) : (bst a (qE a 0 (r :: rs))).1 = cl a (r :: rs) := by
  obtain ⟨i1, i2, i3⟩ := fold_ub a (cl a (r :: rs)) (qE a 0 (r :: rs)) (0, []) (Nat.zero_le _) (fun q hq => cl_lt ha hr hl hq)
  rcases Nat.eq_zero_or_pos (cl a (r :: rs)) with h | h
  · unfold bst; omega
  · obtain ⟨q, hq, hq2⟩ := cl_ex ha hr hl h
    have := i3 q hq
    unfold bst
    omega
theorem qE_nil {a : Int32} (ha : sgn a) {r : Int32} {rs : List Int32} (hr : sgns (r :: rs)) (hl : lead (r :: rs)) : qE a 0 (r :: rs) = [] ↔ cl a (r :: rs) = 0 := by
  constructor
  · intro h
    rcases Nat.eq_zero_or_pos (cl a (r :: rs)) with h1 | h1
    · exact h1
    · obtain ⟨q, hq, _⟩ := cl_ex ha hr hl h1
      rw [h] at hq
      cases hq
  · intro h
    rw [List.eq_nil_iff_forall_not_mem]
    intro q hq
    have := cl_lt ha hr hl hq
    omega
/-- a best one is one of them -/
theorem fold_mem (a : Int32) : ∀ (Q : List (List Int32)) (s : Nat × List Int32), (Q.foldl (stp a) s) = s ∨ (Q.foldl (stp a) s).2 ∈ Q := by
  intro Q
  induction Q with
  | nil => intro s; exact Or.inl rfl
  | cons q Q ih =>
    intro s
    rw [List.foldl_cons]
    rcases ih (stp a s q) with h | h
    · rw [h]
      unfold stp
      split
      · exact Or.inl rfl
      · exact Or.inr List.mem_cons_self
    · exact Or.inr (List.mem_cons_of_mem _ h)
/-- the numbers of rows: base 3, the lowest place first -/
def dig : Nat → Nat → List Int32
  | 0, _ => []
  | d + 1, N => (nI (N / 3 ^ d) - 1) :: dig d (N % 3 ^ d)
theorem dig_all : ∀ d, (List.range (3 ^ d)).map (dig d) = allS d := by
  intro d
  induction d with
  | zero => rfl
  | succ d ih =>
    have e : 3 ^ (d + 1) = 3 ^ d + (3 ^ d + 3 ^ d) := by rw [Nat.pow_succ]; omega
    have hp : 0 < 3 ^ d := Nat.pow_pos (by decide)
    rw [e, List.range_add, List.range_add, allS, ← ih]
    simp only [fl3, List.map_append, List.map_map]
    have k0 : ∀ N, N ∈ List.range (3 ^ d) → dig (d + 1) N = (-1) :: dig d N := by
      intro N hN
      have hN2 := List.mem_range.mp hN
      simp only [dig]
      rw [Nat.div_eq_of_lt hN2, Nat.mod_eq_of_lt hN2]
      rfl
    have k1 : ∀ N, N ∈ List.range (3 ^ d) → dig (d + 1) (3 ^ d + N) = 0 :: dig d N := by
      intro N hN
      have hN2 := List.mem_range.mp hN
      simp only [dig]
      rw [Nat.add_div_left _ hp, Nat.div_eq_of_lt hN2, Nat.add_mod_left, Nat.mod_eq_of_lt hN2]
      rfl
    have k2 : ∀ N, N ∈ List.range (3 ^ d) → dig (d + 1) (3 ^ d + (3 ^ d + N)) = 1 :: dig d N := by
      intro N hN
      have hN2 := List.mem_range.mp hN
      simp only [dig]
      rw [Nat.add_div_left _ hp, Nat.add_div_left _ hp, Nat.div_eq_of_lt hN2, Nat.add_mod_left, Nat.add_mod_left, Nat.mod_eq_of_lt hN2]
      rfl
    rw [List.map_congr_left k0]
    refine congrArg _ (congr (congrArg _ (List.map_congr_left fun N hN => ?_)) (List.map_congr_left fun N hN => ?_))
    · exact k1 N hN
    · exact k2 N hN
