/-! ===== the model's queries ===== -/
/-- the row n of a view -/
def rv (v : Nat → Int32) (n : Nat) : Nat → Int32 := fun k => if k < 9 then v (9 * n + k) else 0
theorem rv_lt (v : Nat → Int32) (n : Nat) {k : Nat} (h : k < 9) : rv v n k = v (9 * n + k) := if_pos h
def SgV (v : Nat → Int32) : Prop := ∀ i, i < 45 → sgn (v i)
theorem SgV.row {v : Nat → Int32} (h : SgV v) {n : Nat} (hn : n < 5) : SgR (rv v n) := by
  intro k
  unfold rv
  split
  · exact h _ (by omega)
  · exact sgn_0
theorem HM_setA (M : Mem) (a : Nat) (f : Nat → Int32) : HM (setA M a f) ↔ HM M := Iff.rfl
theorem HM_setJ (M : Mem) (a : Nat) (f : Nat → Int64) : HM (setJ M a f) ↔ HM M := Iff.rfl
theorem q_in (M : Mem) (x lo hi : Int32) : fX3_in M x lo hi = some (if x < lo then 0 else if hi < x then 0 else 1) := rfl
theorem lm6 : lm 118 = 56 := rfl
theorem lm7 : lm 119 = 336 := rfl
theorem lm8 : lm 120 = 112 := rfl
theorem lm0 : lm 122 = 60 := rfl
theorem lm1 : lm 123 = 9 := rfl
theorem lm2 : lm 124 = 9 := rfl
theorem nI_lt9 {k : Nat} (hk : k < 2 ^ 31) : nI k < 9 ↔ k < 9 := nI_ltI (b := 9) hk (by decide)
theorem q_signAt (M : Mem) (h : HM M) {n : Nat} (hn : n < 5) {k : Nat} (hk : k < 2 ^ 31) : fX3_signAt M (some 117) (nI n) (nI k) = some (rv (mI M 118) n k) := by
  unfold fX3_signAt rv
  rw [if_neg (nI_pos hk)]
  simp only [nI_lt9 hk]
  split
  · next h9 => rw [mo1 M h, Option.bind_some, ix9, moa M 118 _ (by rw [lm6]; omega) h, Option.bind_some]
  · rfl
theorem q_degree (M : Mem) (h : HM M) {n : Nat} (hn : n < 5) : fX3_degree M (some 117) (nI n) = some (nI (deg (rv (mI M 118) n))) := by
  unfold fX3_degree
  have e := loopA (fX3_degree_4 M (some 117) (nI n)) 9 (fun i => nI (degF (rv (mI M 118) n) i)) (fun i hi k m => by
    rw [fX3_degree_4, if_neg (ge9_f i hi), mok M h, Option.bind_some, q_signAt M h hn (by omega), Option.bind_some, nI_1]
    by_cases hg : rv (mI M 118) n i = 0
    · rw [if_pos hg, show degF (rv (mI M 118) n) (i + 1) = degF (rv (mI M 118) n) i from if_pos hg]
    · rw [if_neg hg, show degF (rv (mI M 118) n) (i + 1) = i from if_neg hg]) (fun k m => by rw [fX3_degree_4, if_pos ge9_t]) 9 0 FU rfl (fu_9 (by decide))
  exact e _
/-- what saving makes of the model's saved texts -/
def shf (g : Nat → Int32) : Nat → Int32 := bq g 0 280 (fun i => g (i + 56))
theorem uq_uq {α : Type} (g : Nat → α) (k : Nat) (v w : α) : uq (uq g k v) k w = uq g k w := uq_upd g k v w
theorem q_saves_51 (M : Mem) (h : HM M) {c : Nat} (hc : c < 6) (h3 : mI M 117 3 = nI c) : ∀ k, fX3_saves_51 (some 117) k FU M 0 = k (setA M 119 (bq (mI M 119) (56 * c) 56 (mI M 118))) (nI 56) := by
  have e := loopF (fX3_saves_51 (some 117)) 56 (fun i => setA M 119 (bq (mI M 119) (56 * c) i (mI M 118))) (fun i hi k m => by
    rw [fX3_saves_51, if_neg (show ¬ (56 : Int32) ≤ nI i from ge_f hi (by decide))]
    simp (disch := first | omega | (simp only [HM_setA, HM_setJ, h]; done) | (simp only [lm6, lm7, lm8, lm0, lm1, lm2]; omega)) only [mo1, mo2, mo4, mo5, mo6, mo8, mo9, mo11, mog, mop, mogJ, mopJ, mok, moa, mow, moaJ, mowJ, moaZ, mowZ, Option.bind_some, mI_eq, mI_ne, mJ_eq, mJ_ne, mI_setJ, mJ_setA, setA_setA, setJ_setJ, uq_eq, uq_ne, uq_uq, nI_1, h3, ix56, bq_s]) (fun k m => by rw [fX3_saves_51, if_pos (by decide)]) 56 0 FU rfl (fu_9 (by decide))
  rw [bq_0, setA_id] at e
  exact e
theorem q_saves_11 (M : Mem) (h : HM M) : ∀ k, fX3_saves_11 (some 117) k FU M 0 = k (setA M 119 (shf (mI M 119))) (nI 280) := by
  have e := loopF (fX3_saves_11 (some 117)) 280 (fun i => setA M 119 (bq (mI M 119) 0 i (fun i => mI M 119 (i + 56)))) (fun i hi k m => by
    have e2 := bq_s (mI M 119) 0 i (fun i => mI M 119 (i + 56))
    rw [Nat.zero_add] at e2
    have e3 : bq (mI M 119) 0 i (fun i => mI M 119 (i + 56)) (i + 56) = mI M 119 (i + 56) := bq_out _ _ _ _ (by omega)
    rw [fX3_saves_11, if_neg (show ¬ (280 : Int32) ≤ nI i from ge_f hi (by decide)), show nI i + 56 = nI (i + 56) from nI_add i 56]
    simp (disch := first | omega | (simp only [HM_setA, HM_setJ, h]; done) | (simp only [lm6, lm7, lm8, lm0, lm1, lm2]; omega)) only [mo1, mo2, mo4, mo5, mo6, mo8, mo9, mo11, mog, mop, mogJ, mopJ, mok, moa, mow, moaJ, mowJ, moaZ, mowZ, Option.bind_some, mI_eq, mI_ne, mJ_eq, mJ_ne, mI_setJ, mJ_setA, setA_setA, setJ_setJ, uq_eq, uq_ne, uq_uq, nI_1, e3, e2]) (fun k m => by rw [fX3_saves_11, if_pos (by decide)]) 280 0 FU rfl (fu_9 (by decide))
  rw [bq_0, setA_id] at e
  exact e
def savM (M : Mem) (c : Nat) : Mem := setA (setA M 119 (bq (if c = 6 then shf (mI M 119) else mI M 119) (56 * (min c 5)) 56 (mI M 118))) 117 (uq (mI M 117) 3 (nI (min c 5 + 1)))
theorem setA_comm (M : Mem) {a b : Nat} (f g : Nat → Int32) (h : a ≠ b) : setA (setA M a f) b g = setA (setA M b g) a f := by
  refine Prod.ext rfl (Prod.ext ?_ rfl)
  funext c
  show (if c = b then g else if c = a then f else mI M c) = (if c = a then f else if c = b then g else mI M c)
  by_cases h1 : c = a
  · subst h1; simp [h]
  · simp [h1]
theorem q_saves (M : Mem) (h : HM M) {c : Nat} (hc : c ≤ 6) (h3 : mI M 117 3 = nI c) : fX3_saves M (some 117) = some (savM M c) := by
  unfold fX3_saves savM
  by_cases h6 : c = 6
  · subst h6
    simp (disch := first | omega | (simp only [HM_setA, HM_setJ, h]; done) | (simp only [lm6, lm7, lm8, lm0, lm1, lm2]; omega)) only [mo1, mo2, mo4, mo5, mo6, mo8, mo9, mo11, mog, mop, mogJ, mopJ, mok, moa, mow, moaJ, mowJ, moaZ, mowZ, Option.bind_some, mI_eq, mI_ne, mJ_eq, mJ_ne, mI_setJ, mJ_setA, setA_setA, setJ_setJ, uq_eq, uq_ne, uq_uq, nI_1, h3]
    rw [if_pos (by decide), q_saves_11 M h]
    simp (disch := first | omega | (simp only [HM_setA, HM_setJ, h]; done) | (simp only [lm6, lm7, lm8, lm0, lm1, lm2]; omega)) only [mo1, mo2, mo4, mo5, mo6, mo8, mo9, mo11, mog, mop, mogJ, mopJ, mok, moa, mow, moaJ, mowJ, moaZ, mowZ, Option.bind_some, mI_eq, mI_ne, mJ_eq, mJ_ne, mI_setJ, mJ_setA, setA_setA, setJ_setJ, uq_eq, uq_ne, uq_uq, nI_1, h3]
    rw [q_saves_51 (c := 5) (setA (setA M 119 (shf (mI M 119))) 117 (uq (mI M 117) 3 (nI 6 - 1))) h (by decide) (by rw [mI_eq, uq_eq]; decide)]
    simp (disch := first | omega | (simp only [HM_setA, HM_setJ, h]; done) | (simp only [lm6, lm7, lm8, lm0, lm1, lm2]; omega)) only [mo1, mo2, mo4, mo5, mo6, mo8, mo9, mo11, mog, mop, mogJ, mopJ, mok, moa, mow, moaJ, mowJ, moaZ, mowZ, Option.bind_some, mI_eq, mI_ne, mJ_eq, mJ_ne, mI_setJ, mJ_setA, setA_setA, setJ_setJ, uq_eq, uq_ne, uq_uq, nI_1, h3]
    rw [if_pos trivial, setA_comm _ (a := 117) (b := 119) _ _ (by decide), setA_setA, setA_setA]
    rfl
  · have e2 : min c 5 = c := by omega
    simp (disch := first | omega | (simp only [HM_setA, HM_setJ, h]; done) | (simp only [lm6, lm7, lm8, lm0, lm1, lm2]; omega)) only [mo1, mo2, mo4, mo5, mo6, mo8, mo9, mo11, mog, mop, mogJ, mopJ, mok, moa, mow, moaJ, mowJ, moaZ, mowZ, Option.bind_some, mI_eq, mI_ne, mJ_eq, mJ_ne, mI_setJ, mJ_setA, setA_setA, setJ_setJ, uq_eq, uq_ne, uq_uq, nI_1, h3]
    rw [if_neg (show ¬ nI c = 6 from fun q => h6 ((nI_eq (b := 6) (by omega) (by decide)).mp q)), if_neg h6, e2, q_saves_51 M h (by omega) h3]
    simp (disch := first | omega | (simp only [HM_setA, HM_setJ, h]; done) | (simp only [lm6, lm7, lm8, lm0, lm1, lm2]; omega)) only [mo1, mo2, mo4, mo5, mo6, mo8, mo9, mo11, mog, mop, mogJ, mopJ, mok, moa, mow, moaJ, mowJ, moaZ, mowZ, Option.bind_some, mI_eq, mI_ne, mJ_eq, mJ_ne, mI_setJ, mJ_setA, setA_setA, setJ_setJ, uq_eq, uq_ne, uq_uq, nI_1, h3]
theorem q_refuses (M : Mem) (h : HM M) (a1 : Int32) : fX3_refuses M (some 117) a1 = some (setA M 118 (uq (mI M 118) 55 (mI M 118 55 + 1)), a1) := by
  unfold fX3_refuses
  rw [mo1 _ h, Option.bind_some, show (55 : Int32) = nI 55 from rfl, moa _ 118 _ (by decide) h, Option.bind_some, mow _ 118 _ _ (by decide) h, Option.bind_some]
theorem q_fails (M : Mem) (h : HM M) (a1 : Int32) : fX3_fails M (some 117) a1 = some (setA M 117 (uq (mI M 117) 0 a1), 0) := by
  unfold fX3_fails
  rw [mop _ _ _ h, Option.bind_some]
/-- the counted of a row's first d + 1 places -/
def ccd (r : Int32) (g : Nat → Int32) (d : Nat) : Nat := if r = 0 then zbF g 0 (d + 1) else chs r 0 (seg g 0 (d + 1))
theorem q_changes (M : Mem) (h : HM M) {a : Nat} (ha : lm a = 9) {r : Int32} (hr : sgn r) {d : Nat} (hs : ∀ i, i ≤ d → sgn (mI M a i)) (hd : d < 9) : fX3_changes M (some a) (nI d) r = some (nI (ccd r (mI M a) d)) := by
  unfold fX3_changes ccd
  by_cases h0 : r = 0
  · subst h0
    rw [if_pos rfl]
    -- behind the first sign that isn't 0 nothing counts
    have stop : ∀ j n i (c : Int32) (l : Int32), i + j = d + 1 → j < n → l ≠ 0 → fX3_changes_8 M (some a) (nI d) 0 (fun x _ _ => some x) n c l (nI i) = some c := by
      intro j
      induction j with
      | zero =>
        intro n i c l hi hn hl
        obtain ⟨n, rfl⟩ := suc_of hn
        rw [fX3_changes_8, if_pos ((nI_ltI (by omega) (by omega)).mpr (by omega))]
      | succ j ih =>
        intro n i c l hi hn hl
        obtain ⟨n, rfl⟩ := suc_of hn
        rw [fX3_changes_8, if_neg (fun q => by have := (nI_ltI (by omega) (by omega)).mp q; omega), if_pos (by decide), moa _ a _ (by omega) h, Option.bind_some, nI_1]
        simp only [if_true, if_neg hl, ite_self, Int32.add_zero]
        refine ih n (i + 1) c _ (by omega) (by omega) ?_
        split <;> assumption
    have go : ∀ j n i, i + j = d + 1 → j < n → fX3_changes_8 M (some a) (nI d) 0 (fun x _ _ => some x) n (nI i) 0 (nI i) = some (nI (zbF (mI M a) i j)) := by
      intro j
      induction j with
      | zero =>
        intro n i hi hn
        obtain ⟨n, rfl⟩ := suc_of hn
        rw [fX3_changes_8, if_pos ((nI_ltI (by omega) (by omega)).mpr (by omega))]
        rfl
      | succ j ih =>
        intro n i hi hn
        obtain ⟨n, rfl⟩ := suc_of hn
        rw [fX3_changes_8, if_neg (fun q => by have := (nI_ltI (by omega) (by omega)).mp q; omega), if_pos (by decide), moa _ a _ (by omega) h, Option.bind_some, nI_1]
        by_cases hg : mI M a i = 0
        · simp only [if_true, hg, Int32.add_zero, nI_1]
          rw [ih n (i + 1) (by omega) (by omega), zbF, if_pos hg]
        · simp only [if_true, if_neg hg, Int32.add_zero]
          rw [stop j n (i + 1) (nI i) _ (by omega) (by omega) hg, zbF, if_neg hg]
    exact go (d + 1) FU 0 (by omega) (fu_9 (by omega))
  · rw [if_neg h0]
    have hr2 : r = 1 ∨ r = -1 := by rcases hr with h1 | h1 | h1 <;> simp_all
    have go : ∀ j n i (c : Nat) (l : Int32), i + j = d + 1 → j < n → sgn l → fX3_changes_8 M (some a) (nI d) r (fun x _ _ => some x) n (nI c) l (nI i) = some (nI (c + chs r (pw r i * l) (seg (mI M a) i j))) := by
      intro j
      induction j with
      | zero =>
        intro n i c l hi hn hl
        obtain ⟨n, rfl⟩ := suc_of hn
        rw [fX3_changes_8, if_pos ((nI_ltI (by omega) (by omega)).mpr (by omega))]
        rfl
      | succ j ih =>
        intro n i c l hi hn hl
        obtain ⟨n, rfl⟩ := suc_of hn
        rw [fX3_changes_8, if_neg (fun q => by have := (nI_ltI (by omega) (by omega)).mp q; omega), moa _ a _ (by omega) h, nI_1]
        simp only [Option.bind_some]
        rw [show seg (mI M a) i (j + 1) = mI M a i :: seg (mI M a) (i + 1) j from rfl]
        have hg := hs i (by omega)
        generalize mI M a i = x at hg ⊢
        have ht : ∀ k : Nat, k < 9 → ((nI k - nI k / 2 * 2 = 1) ↔ k % 2 = 1) := by decide
        have hp : pw r i = if i % 2 = 1 then r else 1 := by
          have : ∀ r : Int32, (r = 1 ∨ r = -1) → ∀ i : Nat, i < 9 → pw r i = if i % 2 = 1 then r else 1 := by
            rintro r (rfl | rfl) <;> decide
          exact this r hr2 i (by omega)
        have hw2 := pw_s hr2 i (by omega)
        have key : ∀ c2 l2, sgn l2 → c + chs r (pw r i * l) (x :: seg (mI M a) (i + 1) j) = c2 + chs r (pw r (i + 1) * l2) (seg (mI M a) (i + 1) j) → fX3_changes_8 M (some a) (nI d) r (fun x _ _ => some x) n (nI c2) l2 (nI (i + 1)) = some (nI (c + chs r (pw r i * l) (x :: seg (mI M a) (i + 1) j))) := fun c2 l2 h2 e => by
          rw [ih n (i + 1) c2 l2 (by omega) (by omega) h2, e]
        rw [hw2] at key
        simp only [ht i (by omega)]
        rw [hp] at key ⊢
        simp only [chs] at key ⊢
        by_cases ho : i % 2 = 1
        · simp only [ho, if_true] at key ⊢
          rcases hr2 with rfl | rfl <;> rcases hg with rfl | rfl | rfl <;> rcases hl with rfl | rfl | rfl <;> simp [chg, nxl] at key ⊢ <;> first | exact key _ _ (by simp [sgn]) rfl | (rw [nI_1]; exact key _ _ (by simp [sgn]) (by omega)) | (rw [nI_1]; exact key _ _ (by simp [sgn]) (by simp; omega))
        · simp only [ho, if_false] at key ⊢
          rcases hr2 with rfl | rfl <;> rcases hg with rfl | rfl | rfl <;> rcases hl with rfl | rfl | rfl <;> simp [chg, nxl] at key ⊢ <;> first | exact key _ _ (by simp [sgn]) rfl | (rw [nI_1]; exact key _ _ (by simp [sgn]) (by omega)) | (rw [nI_1]; exact key _ _ (by simp [sgn]) (by simp; omega))
    have e := go (d + 1) FU 0 0 0 (by omega) (fu_9 (by omega)) sgn_0
    rw [Int32.mul_zero, Nat.zero_add, nI_0] at e
    exact e
