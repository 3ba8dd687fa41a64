theorem inRb_nI {k n : Nat} (h : k < n) (hn : n < 2 ^ 31) : inRb (nI k) n = true := by
  have h1 : ¬ nI k < 0 := nI_pos (by omega)
  have h2 : (nI k).toNatClampNeg = k := nI_clamp (by omega)
  simp [inRb, h1, h2, h]
theorem aI_at {M : Mem} {a n k : Nat} (h1 : a < M.1) (h2 : kd a = 4) (h3 : ln a = n) (hk : k < n) (hn : n < 2 ^ 31) : aI M (some a) (nI k) = some (mI M a k) := by
  simp [aI, h1, h2, h3, inRb_nI hk hn, nI_clamp (show k < 2 ^ 31 by omega)]
theorem aJ_at {M : Mem} {a n k : Nat} (h1 : a < M.1) (h2 : kd a = 5) (h3 : ln a = n) (hk : k < n) (hn : n < 2 ^ 31) : aJ M (some a) (nI k) = some (mJ M a k) := by
  simp [aJ, h1, h2, h3, inRb_nI hk hn, nI_clamp (show k < 2 ^ 31 by omega)]
theorem aZ_at {M : Mem} {a n k : Nat} (h1 : a < M.1) (h2 : kd a = 6) (h3 : ln a = n) (hk : k < n) (hn : n < 2 ^ 31) : aZ M (some a) (nI k) = some (mI M a k) := by
  simp [aZ, h1, h2, h3, inRb_nI hk hn, nI_clamp (show k < 2 ^ 31 by omega)]
theorem aD_at {M : Mem} {a n k : Nat} (h1 : a < M.1) (h2 : kd a = 10) (h3 : ln a = n) (hk : k < n) (hn : n < 2 ^ 31) : aD M (some a) (nI k) = some (mD M a k) := by
  simp [aD, h1, h2, h3, inRb_nI hk hn, nI_clamp (show k < 2 ^ 31 by omega)]
theorem aR_at {M : Mem} {kk a n k : Nat} (h1 : a < M.1) (h2 : kd a = kk) (h3 : ln a = n) (hk : k < n) (hn : n < 2 ^ 31) : aR kk M (some a) (nI k) = some (mR M a k) := by
  simp [aR, h1, h2, h3, inRb_nI hk hn, nI_clamp (show k < 2 ^ 31 by omega)]
theorem wI_at {M : Mem} {a n k : Nat} {v : Int32} (h1 : a < M.1) (h2 : kd a = 4) (h3 : ln a = n) (hk : k < n) (hn : n < 2 ^ 31) : wI M (some a) (nI k) v = some (sI M a k v) := by
  simp [wI, h1, h2, h3, inRb_nI hk hn, nI_clamp (show k < 2 ^ 31 by omega)]
theorem wJ_at {M : Mem} {a n k : Nat} {v : Int64} (h1 : a < M.1) (h2 : kd a = 5) (h3 : ln a = n) (hk : k < n) (hn : n < 2 ^ 31) : wJ M (some a) (nI k) v = some (sJ M a k v) := by
  simp [wJ, h1, h2, h3, inRb_nI hk hn, nI_clamp (show k < 2 ^ 31 by omega)]
theorem wD_at {M : Mem} {a n k : Nat} {v : UInt64} (h1 : a < M.1) (h2 : kd a = 10) (h3 : ln a = n) (hk : k < n) (hn : n < 2 ^ 31) : wD M (some a) (nI k) v = some (sD M a k v) := by
  simp [wD, h1, h2, h3, inRb_nI hk hn, nI_clamp (show k < 2 ^ 31 by omega)]
theorem wZ_at {M : Mem} {a n k : Nat} (h1 : a < M.1) (h2 : kd a = 6) (h3 : ln a = n) (hk : k < n) (hn : n < 2 ^ 31) : wZ M (some a) (nI k) 1 = some (sI M a k 1) := by
  simp [wZ, h1, h2, h3, inRb_nI hk hn, nI_clamp (show k < 2 ^ 31 by omega)]
theorem wR_at {M : Mem} {kk kv a n k j : Nat} (h1 : a < M.1) (h2 : kd a = kk) (h3 : ln a = n) (hk : k < n) (hn : n < 2 ^ 31) (hj : j < M.1) (hj2 : kd j = kv) : wR kk kv M (some a) (nI k) (some j) = some (sR M a k (some j)) := by
  simp [wR, h1, h2, h3, inRb_nI hk hn, nI_clamp (show k < 2 ^ 31 by omega), hj, hj2]
theorem gI_at {M : Mem} {ci k a : Nat} (h1 : a < M.1) (h2 : kd a = ci) : gI ci k M (some a) = some (mI M a k) := by simp [gI, h1, h2]
theorem gJ_at {M : Mem} {ci k a : Nat} (h1 : a < M.1) (h2 : kd a = ci) : gJ ci k M (some a) = some (mJ M a k) := by simp [gJ, h1, h2]
theorem gR_at {M : Mem} {ci k a : Nat} (h1 : a < M.1) (h2 : kd a = ci) : gR ci k M (some a) = some (mR M a k) := by simp [gR, h1, h2]
theorem pI_at {M : Mem} {ci k a : Nat} {v : Int32} (h1 : a < M.1) (h2 : kd a = ci) : pI ci k M (some a) v = some (sI M a k v) := by simp [pI, h1, h2]
theorem pJ_at {M : Mem} {ci k a : Nat} {v : Int64} (h1 : a < M.1) (h2 : kd a = ci) : pJ ci k M (some a) v = some (sJ M a k v) := by simp [pJ, h1, h2]
theorem ck_at {M : Mem} {ci a : Nat} (h1 : a < M.1) (h2 : kd a = ci) : ck ci M (some a) = some () := by simp [ck, h1, h2]
def Row (M : Mem) (a : Nat) : Prop := a < M.1 ∧ kd a = 4 ∧ ln a = 9
def rC (M : Mem) (a : Nat) : Nat → Int32 := fun k => if k < 9 then mI M a k else 0
theorem aI_r {M : Mem} {a k : Nat} (h : Row M a) (hk : k < 9) : aI M (some a) (nI k) = some (rC M a k) := by
  rw [aI_at h.1 h.2.1 h.2.2 hk (by decide)]
  simp [rC, hk]
theorem ge9_f : ∀ k : Nat, k < 9 → ¬ (9 : Int32) ≤ nI k := by decide
theorem ge9_t : (9 : Int32) ≤ nI 9 := by decide
theorem fu_9 {n : Nat} (h : n ≤ 100000) : n < FU := Nat.lt_of_le_of_lt h (Nat.le_of_ble_eq_true rfl)
theorem suc_of {n k : Nat} (h : k < n) : ∃ q, n = q + 1 := ⟨n - 1, by omega⟩
def nzF (g : Nat → Int32) : Nat → Nat
  | 0 => 0
  | k + 1 => nzF g k + (if g k = 0 then 0 else 1)
theorem l_notZero {M : Mem} {a : Nat} (h : Row M a) (kc : Int32 → Int32 → Option Int32) : ∀ j n i : Nat, i + j = 9 → j < n → fX2_notZero_4 M (some a) kc n (nI (nzF (rC M a) i)) (nI i) = kc (nI (nzF (rC M a) 9)) (nI 9) := by
  intro j
  induction j with
  | zero =>
    intro n i hi hn
    obtain ⟨n, rfl⟩ := suc_of hn
    have : i = 9 := by omega
    subst this
    rw [fX2_notZero_4, if_pos ge9_t]
  | succ j ih =>
    intro n i hi hn
    obtain ⟨n, rfl⟩ := suc_of hn
    rw [fX2_notZero_4, if_neg (ge9_f i (by omega)), aI_r h (by omega), Option.bind_some, nI_1]
    have e := ih n (i + 1) (by omega) (by omega)
    by_cases hg : rC M a i = 0
    · rw [if_pos hg]; simpa [nzF, hg] using e
    · rw [if_neg hg, nI_1]; simpa [nzF, hg] using e
theorem s_notZero {M : Mem} {a : Nat} (h : Row M a) : fX2_notZero M (some a) = some (nI (nzF (rC M a) 9)) := l_notZero h _ 9 FU 0 rfl (fu_9 (by decide))
def degF (g : Nat → Int32) : Nat → Nat
  | 0 => 0
  | k + 1 => if g k = 0 then degF g k else k
def deg (g : Nat → Int32) : Nat := degF g 9
theorem le0_f : ∀ k : Nat, k < 9 → 0 < k → ¬ nI k ≤ 0 := by decide
theorem l_degreeOf {M : Mem} {a : Nat} (h : Row M a) : ∀ j n : Nat, j < 9 → j < n → fX2_degreeOf_3 M (some a) (fun x => some x) (fun _ => some 0) n (nI j) = some (nI (degF (rC M a) (j + 1))) := by
  intro j
  induction j with
  | zero =>
    intro n _ hn
    obtain ⟨n, rfl⟩ := suc_of hn
    rw [fX2_degreeOf_3, if_pos (by decide)]
    simp [degF, nI_0]
  | succ j ih =>
    intro n hj hn
    obtain ⟨n, rfl⟩ := suc_of hn
    rw [fX2_degreeOf_3, if_neg (le0_f _ hj (by omega)), aI_r h hj, Option.bind_some, pk_m1]
    have e := ih n (by omega) (by omega)
    by_cases hg : rC M a (j + 1) = 0
    · rw [if_pos hg, e, show degF (rC M a) (j + 1 + 1) = degF (rC M a) (j + 1) from if_pos hg]
    · rw [if_neg hg, show degF (rC M a) (j + 1 + 1) = j + 1 from if_neg hg]
theorem s_degreeOf {M : Mem} {a : Nat} (h : Row M a) : fX2_degreeOf M (some a) = some (nI (deg (rC M a))) := l_degreeOf h 8 FU (by decide) (fu_9 (by decide))
theorem degF_lt (g : Nat → Int32) : ∀ n, 0 < n → degF g n < n := by
  intro n
  induction n with
  | zero => intro h; omega
  | succ n ih =>
    intro _
    unfold degF
    split
    · rcases Nat.eq_zero_or_pos n with h0 | h0
      · subst h0; exact Nat.zero_lt_one
      · have := ih h0; omega
    · omega
theorem deg_lt (g : Nat → Int32) : deg g < 9 := degF_lt g 9 (by decide)
theorem degF_top (g : Nat → Int32) : ∀ n k, degF g n < k → k < n → g k = 0 := by
  intro n
  induction n with
  | zero => intro k _ h; omega
  | succ n ih =>
    intro k h1 h2
    unfold degF at h1
    split at h1
    · next h0 =>
      rcases Nat.lt_or_ge k n with h3 | h3
      · exact ih k h1 h3
      · rw [show k = n by omega]; exact h0
    · omega
theorem degF_ne (g : Nat → Int32) : ∀ n, (∃ k, k < n ∧ g k ≠ 0) → g (degF g n) ≠ 0 := by
  intro n
  induction n with
  | zero => rintro ⟨k, h, _⟩; omega
  | succ n ih =>
    rintro ⟨k, h1, h2⟩
    unfold degF
    split
    · next h0 =>
      refine ih ⟨k, ?_, h2⟩
      rcases Nat.lt_or_ge k n with h3 | h3
      · exact h3
      · exact absurd (by rw [show k = n by omega]; exact h0) h2
    · next h0 => exact h0
theorem s_isAlone {M : Mem} {a k : Nat} (h : Row M a) (hk : k < 9) : fX2_isAloneNotZero M (some a) (nI k) = some (if rC M a k = 0 then 0 else if nzF (rC M a) 9 = 1 then 1 else 0) := by
  unfold fX2_isAloneNotZero
  rw [aI_r h hk, Option.bind_some, s_notZero h]
  split
  · rfl
  · rw [Option.bind_some]
    have hb : ∀ g : Nat → Int32, ∀ n, nzF g n ≤ n := by
      intro g n
      induction n with
      | zero => exact Nat.le_refl _
      | succ n ih => unfold nzF; split <;> omega
    have : (nI (nzF (rC M a) 9) = 1) ↔ nzF (rC M a) 9 = 1 := nI_eq (a := nzF (rC M a) 9) (b := 1) (by have := hb (rC M a) 9; omega) (by decide)
    simp only [this]
/-- the zeros ahead -/
def zbF (g : Nat → Int32) (i : Nat) : Nat → Nat
  | 0 => i
  | j + 1 => if g i = 0 then zbF g (i + 1) j else i
theorem l_zerosBelow {M : Mem} {a : Nat} (h : Row M a) : ∀ j n i : Nat, i + j = 9 → j < n → fX2_zerosBelow_4 M (some a) (fun x _ => some x) n (nI i) (nI i) = some (nI (zbF (rC M a) i j)) := by
  intro j
  induction j with
  | zero =>
    intro n i hi hn
    obtain ⟨n, rfl⟩ := suc_of hn
    have : i = 9 := by omega
    subst this
    rw [fX2_zerosBelow_4, if_pos ge9_t]
    rfl
  | succ j ih =>
    intro n i hi hn
    obtain ⟨n, rfl⟩ := suc_of hn
    rw [fX2_zerosBelow_4, if_neg (ge9_f i (by omega)), aI_r h (by omega), Option.bind_some, nI_1]
    have e := ih n (i + 1) (by omega) (by omega)
    by_cases hg : rC M a i = 0
    · rw [if_pos hg, e]; simp [zbF, hg]
    · rw [if_neg hg]; simp [zbF, hg]
theorem s_zerosBelow {M : Mem} {a : Nat} (h : Row M a) : fX2_zerosBelow M (some a) = some (nI (zbF (rC M a) 0 9)) := l_zerosBelow h 9 FU 0 rfl (fu_9 (by decide))
/-- a to the power k -/
def pw (a : Int32) (k : Nat) : Int32 := if k = 0 then 1 else if k % 2 = 0 then a * a else a
theorem s_powerOf (M : Mem) (a : Int32) : ∀ k : Nat, k < 9 → fX2_powerOf M a (nI k) = some (pw a k) := by
  intro k hk
  unfold fX2_powerOf pw
  have h1 : (nI k = 0) ↔ k = 0 := nI_eq (b := 0) (by omega) (by decide)
  have h2 : ∀ k : Nat, k < 9 → ((nI k - nI k / 2 * 2 = 0) ↔ k % 2 = 0) := by decide
  simp only [h1, h2 k hk]
  split <;> rfl
def seg (g : Nat → Int32) (i : Nat) : Nat → List Int32
  | 0 => []
  | j + 1 => g i :: seg g (i + 1) j
theorem pw_s {a : Int32} (ha : a = 1 ∨ a = -1) : ∀ i : Nat, i < 9 → pw a (i + 1) = a * pw a i := by
  rcases ha with rfl | rfl <;> decide
theorem pw_pm {a : Int32} (ha : a = 1 ∨ a = -1) : ∀ i : Nat, i < 10 → pw a i = 1 ∨ pw a i = -1 := by
  rcases ha with rfl | rfl <;> decide
def SgR (g : Nat → Int32) : Prop := ∀ k, sgn (g k)
theorem l_changesOf {M : Mem} {a : Nat} (h : Row M a) {r : Int32} (hr : r = 1 ∨ r = -1) (hs : SgR (rC M a)) : ∀ (j n i c : Nat) (l : Int32), i + j = 9 → j < n → sgn l → fX2_changesOf_7 M (some a) r (fun x _ _ => some x) n (nI c) l (nI i) = some (nI (c + chs r (pw r i * l) (seg (rC M a) i j))) := by
  intro j
  induction j with
  | zero =>
    intro n i c l hi hn hl
    obtain ⟨n, rfl⟩ := suc_of hn
    have : i = 9 := by omega
    subst this
    rw [fX2_changesOf_7, if_pos ge9_t]
    simp [seg, chs]
  | succ j ih =>
    intro n i c l hi hn hl
    obtain ⟨n, rfl⟩ := suc_of hn
    rw [fX2_changesOf_7, if_neg (ge9_f i (by omega)), aI_r h (by omega), Option.bind_some, s_powerOf M r i (by omega), Option.bind_some, nI_1, show seg (rC M a) i (j + 1) = rC M a i :: seg (rC M a) (i + 1) j from rfl]
    have hg := hs i
    generalize rC M a i = x at hg ⊢
    have hw := pw_pm hr i (by omega)
    have hw2 := pw_s hr i (by omega)
    have key : ∀ c2 l2, sgn l2 → c + chs r (pw r i * l) (x :: seg (rC M a) (i + 1) j) = c2 + chs r (pw r (i + 1) * l2) (seg (rC M a) (i + 1) j) → fX2_changesOf_7 M (some a) r (fun x _ _ => some x) n (nI c2) l2 (nI (i + 1)) = some (nI (c + chs r (pw r i * l) (x :: seg (rC M a) (i + 1) j))) := fun c2 l2 h2 e => by
      rw [ih n (i + 1) c2 l2 (by omega) (by omega) h2, e]
    rw [hw2] at key
    generalize pw r i = w at hw key ⊢
    simp only [chs] at key ⊢
    rcases hr with rfl | rfl <;> rcases hw with rfl | rfl <;> rcases hg with rfl | rfl | rfl <;> rcases hl with rfl | rfl | rfl <;> simp [chg, nxl] at key ⊢ <;> first | exact key _ _ (by simp [sgn]) rfl | (rw [nI_1]; exact key _ _ (by simp [sgn]) (by omega)) | (rw [nI_1]; exact key _ _ (by simp [sgn]) (by simp; omega))
/-- how often r can be counted out of the row g -/
def cntd (g : Nat → Int32) (r : Int32) : Nat := if r = 0 then zbF g 0 9 else chs r 0 (seg g 0 9)
theorem s_counted {M : Mem} {a : Nat} (h : Row M a) {r : Int32} (hr : sgn r) (hs : SgR (rC M a)) : fX2_countedTimes M (some a) r = some (nI (cntd (rC M a) r)) := by
  unfold fX2_countedTimes cntd
  by_cases h0 : r = 0
  · rw [if_pos h0, if_pos h0, s_zerosBelow h, Option.bind_some]
  · have hr2 : r = 1 ∨ r = -1 := by rcases hr with h1 | h1 | h1 <;> simp_all
    rw [if_neg h0, if_neg h0]
    unfold fX2_changesOf
    have e := l_changesOf h hr2 hs 9 FU 0 0 0 rfl (fu_9 (by decide)) sgn_0
    have e2 : fX2_changesOf_7 M (some a) r (fun x7 x8 x9 => some x7) FU 0 0 0 = some (nI (0 + chs r (pw r 0 * 0) (seg (rC M a) 0 9))) := e
    rw [e2, Option.bind_some, show pw r 0 * 0 = 0 by simp, Nat.zero_add]
theorem s_changes1 {M : Mem} {a : Nat} (h : Row M a) (hs : SgR (rC M a)) : fX2_changesOf M (some a) 1 = some (nI (cntd (rC M a) 1)) := by
  have e := s_counted h sgn_1 hs
  unfold fX2_countedTimes at e
  rw [if_neg (by decide)] at e
  obtain ⟨v, h1, h2⟩ := bnd e
  rw [h1]; exact h2
/-- the form as one number -/
def formD (g : Nat → Int32) : Nat → Int32 → Int32
  | 0, x => x
  | k + 1, x => formD g k (3 * x + g k + 1)
def form (g : Nat → Int32) : Int32 := formD g 9 0
theorem lt0_f : ∀ k : Nat, k < 9 → ¬ nI k < 0 := by decide
theorem l_formOf {M : Mem} {a : Nat} (h : Row M a) : ∀ (j n : Nat) (x : Int32), j ≤ 9 → j < n → fX2_formOf_5 M (some a) (fun x _ => some x) n x (nI j + (-1)) = some (formD (rC M a) j x) := by
  intro j
  induction j with
  | zero =>
    intro n x _ hn
    obtain ⟨n, rfl⟩ := suc_of hn
    rw [fX2_formOf_5, if_pos (by decide)]
    rfl
  | succ j ih =>
    intro n x hj hn
    obtain ⟨n, rfl⟩ := suc_of hn
    rw [pk_m1, fX2_formOf_5, if_neg (lt0_f j (by omega)), aI_r h (by omega), Option.bind_some]
    exact ih n _ (by omega) (by omega)
theorem s_formOf {M : Mem} {a : Nat} (h : Row M a) : fX2_formOf M (some a) = some (form (rC M a)) := l_formOf h 9 FU 0 (by decide) (fu_9 (by decide))
/-- the marks of signs: some are above 0, some below -/
def mk (p m : Bool) : Int32 := (if p then 1 else 0) ||| (if m then 2 else 0)
def isP (x : Int32) : Bool := x == 1
def isM (x : Int32) : Bool := x == -1
theorem s_markOf (M : Mem) {x : Int32} (h : sgn x) : fX2_markOf M x = some (mk (isP x) (isM x)) := by
  rcases h with rfl | rfl | rfl <;> rfl
theorem mk_or (p m p2 m2 : Bool) : mk p m ||| mk p2 m2 = mk (p || p2) (m || m2) := by
  cases p <;> cases m <;> cases p2 <;> cases m2 <;> rfl
theorem s_holds (M : Mem) (p m : Bool) {x : Int32} (h : sgn x) : fX2_holds M (mk p m) x = some (if (p && m) || (p == isP x && m == isM x) then 1 else 0) := by
  rcases h with rfl | rfl | rfl <;> cases p <;> cases m <;> rfl
theorem mk_3 (p m : Bool) : mk p m = 3 ↔ (p && m) = true := by cases p <;> cases m <;> decide
/-- some of the signs f 0 .. f (n - 1) are x -/
def anyF (f : Nat → Bool) : Nat → Bool
  | 0 => false
  | n + 1 => anyF f n || f n
def tw (g : Nat → Int32) (r : Int32) (k : Nat) : Int32 := g k * pw r k
theorem pw_sgn {r : Int32} (hr : sgn r) (k : Nat) : sgn (pw r k) := by
  unfold pw
  split
  · exact sgn_1
  · split
    · exact sgn_mul hr hr
    · exact hr
theorem l_hasRoot {M : Mem} {a : Nat} (h : Row M a) {r : Int32} (hr : sgn r) (hs : SgR (rC M a)) (kc : Int32 → Int32 → Option Int32) : ∀ j n i : Nat, i + j = 9 → j < n →
    fX2_hasRoot_4 M (some a) r kc n (mk (anyF (fun k => isP (tw (rC M a) r k)) i) (anyF (fun k => isM (tw (rC M a) r k)) i)) (nI i) = kc (mk (anyF (fun k => isP (tw (rC M a) r k)) 9) (anyF (fun k => isM (tw (rC M a) r k)) 9)) (nI 9) := by
  intro j
  induction j with
  | zero =>
    intro n i hi hn
    obtain ⟨n, rfl⟩ := suc_of hn
    have : i = 9 := by omega
    subst this
    rw [fX2_hasRoot_4, if_pos ge9_t]
  | succ j ih =>
    intro n i hi hn
    obtain ⟨n, rfl⟩ := suc_of hn
    rw [fX2_hasRoot_4, if_neg (ge9_f i (by omega)), aI_r h (by omega), Option.bind_some, s_powerOf M r i (by omega), Option.bind_some, s_markOf M (sgn_mul (hs i) (pw_sgn hr i)), Option.bind_some, mk_or, nI_1]
    exact ih n (i + 1) (by omega) (by omega)
def hasR (g : Nat → Int32) (r : Int32) : Bool := anyF (fun k => isP (tw g r k)) 9 == anyF (fun k => isM (tw g r k)) 9
theorem s_hasRoot {M : Mem} {a : Nat} (h : Row M a) {r : Int32} (hr : sgn r) (hs : SgR (rC M a)) : fX2_hasRoot M (some a) r = some (if hasR (rC M a) r then 1 else 0) := by
  unfold fX2_hasRoot hasR
  have e := l_hasRoot h hr hs (fun x5 x6 => (fX2_holds M x5 0).bind fun w7 => chk (zb w7) <| some w7) 9 FU 0 rfl (fu_9 (by decide))
  rw [show mk (anyF (fun k => isP (tw (rC M a) r k)) 0) (anyF (fun k => isM (tw (rC M a) r k)) 0) = 0 from (by simp only [anyF]; decide), nI_0] at e
  rw [e, s_holds M _ _ sgn_0, Option.bind_some]
  generalize anyF (fun k => isP (tw (rC M a) r k)) 9 = p
  generalize anyF (fun k => isM (tw (rC M a) r k)) 9 = m
  cases p <;> cases m <;> rfl
def sumP (g h : Nat → Int32) (k : Nat) : Bool := isP (g k) || isP (h k)
def sumM (g h : Nat → Int32) (k : Nat) : Bool := isM (g k) || isM (h k)
def prP (g h : Nat → Int32) (k : Nat) : Bool := anyF (fun i => isP (g i * h (k - i))) (k + 1)
def prM (g h : Nat → Int32) (k : Nat) : Bool := anyF (fun i => isM (g i * h (k - i))) (k + 1)
def opP (w : Int32) (g h : Nat → Int32) (k : Nat) : Bool := if w = 0 then sumP g h k else prP g h k
def opM (w : Int32) (g h : Nat → Int32) (k : Nat) : Bool := if w = 0 then sumM g h k else prM g h k
theorem s_sumMarks {M : Mem} {a b k : Nat} (h : Row M a) (h2 : Row M b) (hs : SgR (rC M a)) (hs2 : SgR (rC M b)) (hk : k < 9) : fX2_sumMarks M (some a) (some b) (nI k) = some (mk (sumP (rC M a) (rC M b) k) (sumM (rC M a) (rC M b) k)) := by
  unfold fX2_sumMarks
  rw [aI_r h hk, Option.bind_some, s_markOf M (hs k), Option.bind_some, aI_r h2 hk, Option.bind_some, s_markOf M (hs2 k), Option.bind_some, mk_or]
  rfl
theorem l_productMarks {M : Mem} {a b k : Nat} (h : Row M a) (h2 : Row M b) (hs : SgR (rC M a)) (hs2 : SgR (rC M b)) (hk : k < 9) : ∀ j n i : Nat, i + j = k + 1 → j < n →
    fX2_productMarks_5 M (some a) (some b) (nI k) (fun x _ => some x) n (mk (anyF (fun i => isP (rC M a i * rC M b (k - i))) i) (anyF (fun i => isM (rC M a i * rC M b (k - i))) i)) (nI i) = some (mk (prP (rC M a) (rC M b) k) (prM (rC M a) (rC M b) k)) := by
  intro j
  induction j with
  | zero =>
    intro n i hi hn
    obtain ⟨n, rfl⟩ := suc_of hn
    have : i = k + 1 := by omega
    subst this
    rw [fX2_productMarks_5, if_pos ((nI_ltI (by omega) (by omega)).mpr (by omega))]
    rfl
  | succ j ih =>
    intro n i hi hn
    obtain ⟨n, rfl⟩ := suc_of hn
    rw [fX2_productMarks_5, if_neg (fun q => by have := (nI_ltI (by omega) (by omega)).mp q; omega), aI_r h (by omega), Option.bind_some, pk_sub (by omega), aI_r h2 (by omega), Option.bind_some, s_markOf M (sgn_mul (hs i) (hs2 _)), Option.bind_some, mk_or, nI_1]
    exact ih n (i + 1) (by omega) (by omega)
theorem s_productMarks {M : Mem} {a b k : Nat} (h : Row M a) (h2 : Row M b) (hs : SgR (rC M a)) (hs2 : SgR (rC M b)) (hk : k < 9) : fX2_productMarks M (some a) (some b) (nI k) = some (mk (prP (rC M a) (rC M b) k) (prM (rC M a) (rC M b) k)) := by
  unfold fX2_productMarks
  have e := l_productMarks h h2 hs hs2 hk (k + 1) FU 0 (by omega) (fu_9 (by omega))
  rw [show mk (anyF (fun i => isP (rC M a i * rC M b (k - i))) 0) (anyF (fun i => isM (rC M a i * rC M b (k - i))) 0) = 0 from (by simp only [anyF]; decide), nI_0] at e
  exact e
theorem s_marksAt {M : Mem} {a b k : Nat} (h : Row M a) (h2 : Row M b) (hs : SgR (rC M a)) (hs2 : SgR (rC M b)) (hk : k < 9) (w : Int32) : fX2_marksAt M (some a) (some b) w (nI k) = some (mk (opP w (rC M a) (rC M b) k) (opM w (rC M a) (rC M b) k)) := by
  unfold fX2_marksAt opP opM
  split
  · rw [s_sumMarks h h2 hs hs2 hk, Option.bind_some]
  · rw [s_productMarks h h2 hs hs2 hk, Option.bind_some]
def tooHigh (w : Int32) (g h : Nat → Int32) : Bool := w == 1 && decide (8 < deg g + deg h)
theorem s_isTooHigh {M : Mem} {a b : Nat} (h : Row M a) (h2 : Row M b) (w : Int32) : fX2_isTooHigh M (some a) (some b) w = some (if tooHigh w (rC M a) (rC M b) then 1 else 0) := by
  unfold fX2_isTooHigh tooHigh
  by_cases hw : w = 1
  · rw [if_pos hw, s_degreeOf h, Option.bind_some, s_degreeOf h2, Option.bind_some, nI_add]
    have h3 := deg_lt (rC M a)
    have h4 := deg_lt (rC M b)
    have e : (nI (deg (rC M a) + deg (rC M b)) ≤ 8) ↔ deg (rC M a) + deg (rC M b) ≤ 8 := nI_leI (b := 8) (by omega) (by decide)
    simp only [e, hw, beq_self_eq_true, Bool.true_and, decide_eq_true_eq]
    by_cases h5 : deg (rC M a) + deg (rC M b) ≤ 8
    · rw [if_pos h5, if_neg (by omega)]
    · rw [if_neg h5, if_pos (by omega)]
  · rw [if_neg hw]
    simp [hw]
/-- how many rows: a factor 3 for each place with all signs -/
def rowsF (p m : Nat → Bool) : Nat → Int32
  | 0 => 1
  | k + 1 => if (p k && m k) = true then rowsF p m k * 3 else rowsF p m k
theorem l_rowsOf {M : Mem} {a b : Nat} (h : Row M a) (h2 : Row M b) (hs : SgR (rC M a)) (hs2 : SgR (rC M b)) (w : Int32) : ∀ j n i : Nat, i + j = 9 → j < n →
    fX2_rowsOf_17 M (some a) (some b) w (fun x _ => some x) n (rowsF (opP w (rC M a) (rC M b)) (opM w (rC M a) (rC M b)) i) (nI i) = some (rowsF (opP w (rC M a) (rC M b)) (opM w (rC M a) (rC M b)) 9) := by
  intro j
  induction j with
  | zero =>
    intro n i hi hn
    obtain ⟨n, rfl⟩ := suc_of hn
    have : i = 9 := by omega
    subst this
    rw [fX2_rowsOf_17, if_pos ge9_t]
  | succ j ih =>
    intro n i hi hn
    obtain ⟨n, rfl⟩ := suc_of hn
    rw [fX2_rowsOf_17, if_neg (ge9_f i (by omega)), s_marksAt h h2 hs hs2 (by omega), Option.bind_some, nI_1]
    simp only [mk_3]
    exact ih n (i + 1) (by omega) (by omega)
def rowsV (w : Int32) (g h : Nat → Int32) : Int32 := if tooHigh w g h then -9 else rowsF (opP w g h) (opM w g h) 9
theorem s_rowsOf {M : Mem} {a b : Nat} (h : Row M a) (h2 : Row M b) (hs : SgR (rC M a)) (hs2 : SgR (rC M b)) (w : Int32) : fX2_rowsOf M (some a) (some b) w = some (rowsV w (rC M a) (rC M b)) := by
  unfold fX2_rowsOf rowsV
  rw [s_isTooHigh h h2, Option.bind_some]
  have e := l_rowsOf h h2 hs hs2 w 9 FU 0 rfl (fu_9 (by decide))
  rw [nI_0, show rowsF (opP w (rC M a) (rC M b)) (opM w (rC M a) (rC M b)) 0 = 1 from rfl] at e
  by_cases ht : tooHigh w (rC M a) (rC M b) = true
  · rw [if_pos ht, if_neg (by decide), if_pos ht]
  · rw [if_neg ht, if_pos rfl, if_neg ht, e]
/-- the row x has, at each place, a sign of those that the marks tell -/
def amg (p m : Nat → Bool) (x : Nat → Int32) (i : Nat) : Nat → Bool
  | 0 => true
  | j + 1 => ((p i && m i) || (p i == isP (x i) && m i == isM (x i))) && amg p m x (i + 1) j
theorem l_isAmong {M : Mem} {c a b : Nat} (hc : Row M c) (h : Row M a) (h2 : Row M b) (hs0 : SgR (rC M c)) (hs : SgR (rC M a)) (hs2 : SgR (rC M b)) (w : Int32) : ∀ j n i : Nat, i + j = 9 → j < n →
    fX2_isAmong_14 M (some c) (some a) (some b) w (fun _ => some 0) (fun _ => some 1) n (nI i) = some (if amg (opP w (rC M a) (rC M b)) (opM w (rC M a) (rC M b)) (rC M c) i j then 1 else 0) := by
  intro j
  induction j with
  | zero =>
    intro n i hi hn
    obtain ⟨n, rfl⟩ := suc_of hn
    have : i = 9 := by omega
    subst this
    rw [fX2_isAmong_14, if_pos ge9_t]
    rfl
  | succ j ih =>
    intro n i hi hn
    obtain ⟨n, rfl⟩ := suc_of hn
    rw [fX2_isAmong_14, if_neg (ge9_f i (by omega)), s_marksAt h h2 hs hs2 (by omega), Option.bind_some, aI_r hc (by omega), Option.bind_some, s_holds M _ _ (hs0 i), Option.bind_some, nI_1, ih n (i + 1) (by omega) (by omega)]
    rw [show amg (opP w (rC M a) (rC M b)) (opM w (rC M a) (rC M b)) (rC M c) i (j + 1) = (((opP w (rC M a) (rC M b) i && opM w (rC M a) (rC M b) i) || (opP w (rC M a) (rC M b) i == isP (rC M c i) && opM w (rC M a) (rC M b) i == isM (rC M c i))) && amg (opP w (rC M a) (rC M b)) (opM w (rC M a) (rC M b)) (rC M c) (i + 1) j) from rfl]
    by_cases hq : ((opP w (rC M a) (rC M b) i && opM w (rC M a) (rC M b) i) || (opP w (rC M a) (rC M b) i == isP (rC M c i) && opM w (rC M a) (rC M b) i == isM (rC M c i))) = true
    · rw [if_pos hq, if_neg (by decide)]
      by_cases h9 : amg (opP w (rC M a) (rC M b)) (opM w (rC M a) (rC M b)) (rC M c) (i + 1) j = true
      · rw [if_pos h9, if_pos (by rw [hq, h9]; rfl)]
      · rw [if_neg h9, if_neg (by rw [hq, Bool.true_and]; exact h9)]
    · rw [if_neg hq, if_pos rfl, if_neg (by rw [eq_false_of_ne_true hq]; exact Bool.false_ne_true)]
def amgV (w : Int32) (x g h : Nat → Int32) : Bool := !tooHigh w g h && amg (opP w g h) (opM w g h) x 0 9
theorem s_isAmong {M : Mem} {c a b : Nat} (hc : Row M c) (h : Row M a) (h2 : Row M b) (hs0 : SgR (rC M c)) (hs : SgR (rC M a)) (hs2 : SgR (rC M b)) (w : Int32) : fX2_isAmong M (some c) (some a) (some b) w = some (if amgV w (rC M c) (rC M a) (rC M b) then 1 else 0) := by
  unfold fX2_isAmong amgV
  rw [s_isTooHigh h h2, Option.bind_some]
  have e := l_isAmong hc h h2 hs0 hs hs2 w 9 FU 0 rfl (fu_9 (by decide))
  rw [nI_0] at e
  by_cases ht : tooHigh w (rC M a) (rC M b) = true
  · rw [if_pos ht, if_neg (by decide), ht]; rfl
  · rw [if_neg ht, if_pos rfl, e, eq_false_of_ne_true ht, Bool.not_false, Bool.true_and]
