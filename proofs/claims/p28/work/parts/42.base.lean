theorem loopF {α : Type} (F : (Mem → Int32 → Option α) → Nat → Mem → Int32 → Option α) (N : Nat) (m : Nat → Mem)
    (hs : ∀ i, i < N → ∀ k n, F k (n + 1) (m i) (nI i) = F k n (m (i + 1)) (nI (i + 1)))
    (he : ∀ k n, F k (n + 1) (m N) (nI N) = k (m N) (nI N)) : ∀ j i n, i + j = N → j < n → ∀ k, F k n (m i) (nI i) = k (m N) (nI N) := by
  intro j
  induction j with
  | zero =>
    intro i n hi hn k
    obtain ⟨n, rfl⟩ := suc_of hn
    rw [show i = N by omega, he]
  | succ j ih =>
    intro i n hi hn k
    obtain ⟨n, rfl⟩ := suc_of hn
    rw [hs i (by omega), ih (i + 1) n (by omega) (by omega)]
theorem loopA {α : Type} (F : (Int32 → Int32 → Option α) → Nat → Int32 → Int32 → Option α) (N : Nat) (m : Nat → Int32)
    (hs : ∀ i, i < N → ∀ k n, F k (n + 1) (m i) (nI i) = F k n (m (i + 1)) (nI (i + 1)))
    (he : ∀ k n, F k (n + 1) (m N) (nI N) = k (m N) (nI N)) : ∀ j i n, i + j = N → j < n → ∀ k, F k n (m i) (nI i) = k (m N) (nI N) := by
  intro j
  induction j with
  | zero =>
    intro i n hi hn k
    obtain ⟨n, rfl⟩ := suc_of hn
    rw [show i = N by omega, he]
  | succ j ih =>
    intro i n hi hn k
    obtain ⟨n, rfl⟩ := suc_of hn
    rw [hs i (by omega), ih (i + 1) n (by omega) (by omega)]
/-- downwards: from N - 1 to below 0 -/
theorem loopD {α σ : Type} (F : (σ → Int32 → Option α) → Nat → σ → Int32 → Option α) (m : Nat → σ)
    (hs : ∀ i, ∀ k n, F k (n + 1) (m (i + 1)) (nI (i + 1) + (-1)) = F k n (m i) (nI i + (-1)))
    (he : ∀ k n, F k (n + 1) (m 0) (nI 0 + (-1)) = k (m 0) (nI 0 + (-1))) : ∀ i n, i < n → ∀ k, F k n (m i) (nI i + (-1)) = k (m 0) (nI 0 + (-1)) := by
  intro i
  induction i with
  | zero =>
    intro n hn k
    obtain ⟨n, rfl⟩ := suc_of hn
    rw [he]
  | succ i ih =>
    intro n hn k
    obtain ⟨n, rfl⟩ := suc_of hn
    rw [hs i, ih n (by omega)]
def setA (M : Mem) (a : Nat) (f : Nat → Int32) : Mem := (M.1, (fun b => if b = a then f else mI M b), mJ M, mR M, mD M)
def setJ (M : Mem) (a : Nat) (f : Nat → Int64) : Mem := (M.1, mI M, (fun b => if b = a then f else mJ M b), mR M, mD M)
def uq {α : Type} (g : Nat → α) (k : Nat) (v : α) : Nat → α := fun j => if j = k then v else g j
def bq {α : Type} (g : Nat → α) (o n : Nat) (f : Nat → α) : Nat → α := fun j => if o ≤ j ∧ j < o + n then f (j - o) else g j
theorem sI_setA (M : Mem) (a k : Nat) (v : Int32) : sI M a k v = setA M a (uq (mI M a) k v) := by
  unfold sI setA
  refine Prod.ext rfl (Prod.ext ?_ rfl)
  funext b j
  show up2 (mI M) a k v b j = _
  unfold up2 uq
  by_cases h : b = a
  · subst h
    by_cases h2 : j = k <;> simp [h2]
  · simp [h]
theorem sJ_setJ (M : Mem) (a k : Nat) (v : Int64) : sJ M a k v = setJ M a (uq (mJ M a) k v) := by
  unfold sJ setJ
  refine Prod.ext rfl (Prod.ext rfl (Prod.ext ?_ rfl))
  funext b j
  show up2 (mJ M) a k v b j = _
  unfold up2 uq
  by_cases h : b = a
  · subst h
    by_cases h2 : j = k <;> simp [h2]
  · simp [h]
theorem mI_eq (M : Mem) (a : Nat) (f : Nat → Int32) : mI (setA M a f) a = f := if_pos rfl
theorem mI_ne (M : Mem) {a b : Nat} (f : Nat → Int32) (h : b ≠ a) : mI (setA M a f) b = mI M b := if_neg h
theorem mJ_eq (M : Mem) (a : Nat) (f : Nat → Int64) : mJ (setJ M a f) a = f := if_pos rfl
theorem mJ_ne (M : Mem) {a b : Nat} (f : Nat → Int64) (h : b ≠ a) : mJ (setJ M a f) b = mJ M b := if_neg h
theorem mI_setJ (M : Mem) (a : Nat) (f : Nat → Int64) : mI (setJ M a f) = mI M := rfl
theorem mJ_setA (M : Mem) (a : Nat) (f : Nat → Int32) : mJ (setA M a f) = mJ M := rfl
theorem mR_setA (M : Mem) (a : Nat) (f : Nat → Int32) : mR (setA M a f) = mR M := rfl
theorem mR_setJ (M : Mem) (a : Nat) (f : Nat → Int64) : mR (setJ M a f) = mR M := rfl
theorem mD_setA (M : Mem) (a : Nat) (f : Nat → Int32) : mD (setA M a f) = mD M := rfl
theorem mD_setJ (M : Mem) (a : Nat) (f : Nat → Int64) : mD (setJ M a f) = mD M := rfl
theorem setA_setA (M : Mem) (a : Nat) (f g : Nat → Int32) : setA (setA M a f) a g = setA M a g := by
  refine Prod.ext rfl (Prod.ext ?_ rfl)
  funext b
  show (if b = a then g else if b = a then f else mI M b) = if b = a then g else mI M b
  by_cases h : b = a <;> simp [h]
theorem setJ_setJ (M : Mem) (a : Nat) (f g : Nat → Int64) : setJ (setJ M a f) a g = setJ M a g := by
  refine Prod.ext rfl (Prod.ext rfl (Prod.ext ?_ rfl))
  funext b
  show (if b = a then g else if b = a then f else mJ M b) = if b = a then g else mJ M b
  by_cases h : b = a <;> simp [h]
theorem setA_id (M : Mem) (a : Nat) : setA M a (mI M a) = M := by
  refine Prod.ext rfl (Prod.ext ?_ rfl)
  funext b
  show (if b = a then mI M a else mI M b) = _
  by_cases h : b = a
  · subst h; simp; rfl
  · simp [h]; rfl
theorem setJ_id (M : Mem) (a : Nat) : setJ M a (mJ M a) = M := by
  refine Prod.ext rfl (Prod.ext rfl (Prod.ext ?_ rfl))
  funext b
  show (if b = a then mJ M a else mJ M b) = _
  by_cases h : b = a
  · subst h; simp; rfl
  · simp [h]; rfl
theorem bq_0 {α : Type} (g : Nat → α) (o : Nat) (f : Nat → α) : bq g o 0 f = g := by
  funext j
  unfold bq
  rw [if_neg (by omega)]
theorem bq_s {α : Type} (g : Nat → α) (o i : Nat) (f : Nat → α) : uq (bq g o i f) (o + i) (f i) = bq g o (i + 1) f := by
  funext j
  unfold uq bq
  by_cases h : j = o + i
  · subst h
    rw [if_pos rfl, if_pos (by omega), Nat.add_sub_cancel_left]
  · rw [if_neg h]
    by_cases h2 : o ≤ j ∧ j < o + i
    · rw [if_pos h2, if_pos (by omega)]
    · rw [if_neg h2, if_neg (by omega)]
theorem bq_in {α : Type} (g : Nat → α) (o n : Nat) (f : Nat → α) {i : Nat} (h : i < n) : bq g o n f (o + i) = f i := by
  unfold bq
  rw [if_pos (by omega), Nat.add_sub_cancel_left]
theorem bq_out {α : Type} (g : Nat → α) (o n : Nat) (f : Nat → α) {j : Nat} (h : j < o ∨ o + n ≤ j) : bq g o n f j = g j := by
  unfold bq
  rw [if_neg (by omega)]
theorem uq_eq {α : Type} (g : Nat → α) (k : Nat) (v : α) : uq g k v k = v := if_pos rfl
theorem uq_ne {α : Type} (g : Nat → α) {j k : Nat} (v : α) (h : j ≠ k) : uq g k v j = g j := if_neg h
theorem uq_upd {α : Type} (g : Nat → α) (k : Nat) (v w : α) : uq (uq g k v) k w = uq g k w := by
  funext j
  unfold uq
  by_cases h : j = k <;> simp [h]
theorem uq_id {α : Type} (g : Nat → α) (k : Nat) : uq g k (g k) = g := by
  funext j
  unfold uq
  by_cases h : j = k <;> simp [h]
theorem ix9 (n k : Nat) : (0 + 9 * nI n) + nI k = nI (9 * n + k) := by
  have h : (9 : Int32) * nI n = nI (9 * n) := pk_mul 9 n
  rw [h, ← nI_0, nI_add, nI_add, Nat.zero_add]
theorem ix56 (n k : Nat) : 56 * nI n + nI k = nI (56 * n + k) := by
  have h : (56 : Int32) * nI n = nI (56 * n) := pk_mul 56 n
  rw [h, nI_add]
theorem ix46 (k : Nat) : 46 + nI k = nI (46 + k) := nI_add 46 k
theorem ge_f {N i : Nat} (h : i < N) (hN : N < 2 ^ 31) : ¬ nI N ≤ nI i := nI_ge h hN
