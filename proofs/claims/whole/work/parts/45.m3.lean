/-! ===== the model's queries on two rows ===== -/
theorem pw0 : ∀ k : Nat, k < 9 → pw 0 k = if k = 0 then 1 else 0 := by decide
theorem le0_iff : ∀ k : Nat, k < 9 → ((nI k ≤ 0) ↔ k = 0) := by decide
theorem odd_iff : ∀ k : Nat, k < 9 → ((nI k - nI k / 2 * 2 = 1) ↔ k % 2 = 1) := by decide
theorem pw_o {r : Int32} (h : r = 1 ∨ r = -1) : ∀ i : Nat, i < 9 → pw r i = if i % 2 = 1 then r else 1 := by
  rcases h with rfl | rfl <;> decide
def b2 (b : Bool) : Int32 := if b then 1 else 0
theorem has_st (p : Bool) {x : Int32} (hx : sgn x) : (if b2 p = 0 then (if x ≤ 0 then 0 else 1) else (1 : Int32)) = b2 (p || isP x) := by
  rcases hx with rfl | rfl | rfl <;> cases p <;> decide
theorem has_st2 (p : Bool) {x : Int32} (hx : sgn x) : (if b2 p = 0 then (if 0 ≤ x then 0 else 1) else (1 : Int32)) = b2 (p || isM x) := by
  rcases hx with rfl | rfl | rfl <;> cases p <;> decide
theorem has_st3 (p : Bool) : (if b2 p = 0 then 0 else (1 : Int32)) = b2 p := by cases p <;> decide
theorem q_has (M : Mem) (h : HM M) (hs : SgV (mI M 118)) {n : Nat} (hn : n < 5) {r : Int32} (hr : sgn r) : fX3_has M (some 117) (nI n) r = some (b2 (hasR (rv (mI M 118) n) r)) := by
  unfold fX3_has
  have go : ∀ j i m, i + j = 9 → j < m → fX3_has_8 M (some 117) (nI n) r (fun x54 x55 x56 => some (if x54 = x55 then 1 else 0)) m (b2 (anyF (fun k => isP (tw (rv (mI M 118) n) r k)) i)) (b2 (anyF (fun k => isM (tw (rv (mI M 118) n) r k)) i)) (nI i) = some (b2 (hasR (rv (mI M 118) n) r)) := by
    intro j
    induction j with
    | zero =>
      intro i m hi hm
      obtain ⟨m, rfl⟩ := suc_of hm
      have : i = 9 := by omega
      subst this
      rw [fX3_has_8, if_pos ge9_t]
      unfold hasR
      cases anyF (fun k => isP (tw (rv (mI M 118) n) r k)) 9 <;> cases anyF (fun k => isM (tw (rv (mI M 118) n) r k)) 9 <;> rfl
    | succ j ih =>
      intro i m hi hm
      obtain ⟨m, rfl⟩ := suc_of hm
      have e := ih (i + 1) m (by omega) (by omega)
      have hx := hs.row hn i
      have e3 := q_signAt M h hn (k := i) (by omega)
      have et : tw (rv (mI M 118) n) r i = rv (mI M 118) n i * pw r i := rfl
      rw [fX3_has_8, if_neg (ge9_f i (by omega)), nI_1, mok M h]
      simp only [Option.bind_some, e3, odd_iff i (by omega), le0_iff i (by omega), anyF] at e ⊢
      rw [et] at e
      generalize rv (mI M 118) n i = x at hx e ⊢
      rcases hr with rfl | rfl | rfl
      · rw [if_neg (by decide), if_neg (by decide), pw_o (Or.inr rfl) i (by omega)] at *
        by_cases ho : i % 2 = 1
        · rw [if_pos ho] at e ⊢
          rw [has_st _ (sgn_neg hx), has_st2 _ (sgn_neg hx)]
          rw [Int32.mul_neg, Int32.mul_one] at e
          exact e
        · rw [if_neg ho] at e ⊢
          rw [has_st _ hx, has_st2 _ hx]
          rw [Int32.mul_one] at e
          exact e
      · rw [if_pos rfl]
        rw [pw0 i (by omega)] at e
        by_cases ho : i = 0
        · rw [if_pos ho] at e ⊢
          rw [if_pos (by decide), has_st _ hx, has_st2 _ hx]
          rw [Int32.mul_one] at e
          exact e
        · rw [if_neg ho] at e ⊢
          rw [has_st3, has_st3]
          rw [Int32.mul_zero, show isP 0 = false from rfl, show isM 0 = false from rfl, Bool.or_false, Bool.or_false] at e
          exact e
      · rw [if_neg (by decide), if_pos (by decide), has_st _ hx, has_st2 _ hx]
        rw [pw_o (Or.inl rfl) i (by omega), ite_self, Int32.mul_one] at e
        exact e
  exact go 9 0 FU rfl (fu_9 (by decide))
theorem q_hasProduct (M : Mem) (h : HM M) {n m k : Nat} (hn : n < 5) (hm : m < 5) (hk : k < 9) (y : Int32) : fX3_hasProduct M (some 117) (nI n) (nI m) (nI k) y = some (b2 (anyF (fun i => rv (mI M 118) n i * rv (mI M 118) m (k - i) == y) (k + 1))) := by
  unfold fX3_hasProduct
  have go : ∀ j i q, i + j = k + 1 → j < q → fX3_hasProduct_6 M (some 117) (nI n) (nI m) (nI k) y (fun x7 x8 => chk (zb x7) <| some x7) q (b2 (anyF (fun i => rv (mI M 118) n i * rv (mI M 118) m (k - i) == y) i)) (nI i) = some (b2 (anyF (fun i => rv (mI M 118) n i * rv (mI M 118) m (k - i) == y) (k + 1))) := by
    intro j
    induction j with
    | zero =>
      intro i q hi hq
      obtain ⟨q, rfl⟩ := suc_of hq
      have : i = k + 1 := by omega
      subst this
      rw [fX3_hasProduct_6, if_pos ((nI_ltI (by omega) (by omega)).mpr (by omega))]
      cases anyF (fun i => rv (mI M 118) n i * rv (mI M 118) m (k - i) == y) (k + 1) <;> rfl
    | succ j ih =>
      intro i q hi hq
      obtain ⟨q, rfl⟩ := suc_of hq
      have e := ih (i + 1) q (by omega) (by omega)
      have e3 := q_signAt M h hn (k := i) (by omega)
      have e4 := q_signAt M h hm (k := k - i) (by omega)
      rw [fX3_hasProduct_6, if_neg (fun q => by have := (nI_ltI (by omega) (by omega)).mp q; omega), nI_1, mok M h, pk_sub (by omega)]
      simp only [Option.bind_some, e3, e4, anyF] at e ⊢
      by_cases hb : anyF (fun i => rv (mI M 118) n i * rv (mI M 118) m (k - i) == y) i = true
      · rw [hb, Bool.true_or] at e
        rw [hb, if_neg (by decide)]
        exact e
      · rw [eq_false_of_ne_true hb, Bool.false_or] at e
        rw [eq_false_of_ne_true hb, if_pos (by decide)]
        by_cases hy : rv (mI M 118) n i * rv (mI M 118) m (k - i) = y
        · rw [if_pos hy]
          rw [show (rv (mI M 118) n i * rv (mI M 118) m (k - i) == y) = true from beq_iff_eq.mpr hy] at e
          exact e
        · rw [if_neg hy]
          rw [show (rv (mI M 118) n i * rv (mI M 118) m (k - i) == y) = false from beq_eq_false_iff_ne.mpr hy] at e
          exact e
  exact go (k + 1) 0 FU (by omega) (fu_9 (by omega))
theorem q_isThree (M : Mem) (h : HM M) (hs : SgV (mI M 118)) {n m k : Nat} (hn : n < 5) (hm : m < 5) (hk : k < 9) (w : Int32) : fX3_isThree M (some 117) (nI n) (nI m) (nI k) w = some (b2 (opP w (rv (mI M 118) n) (rv (mI M 118) m) k && opM w (rv (mI M 118) n) (rv (mI M 118) m) k)) := by
  unfold fX3_isThree opP opM
  by_cases hw : w = 0
  · rw [if_pos hw, if_pos hw, if_pos hw, mok M h, Option.bind_some, q_signAt M h hn (by omega), Option.bind_some, Option.bind_some, q_signAt M h hm (by omega), Option.bind_some]
    unfold sumP sumM
    have h1 := hs.row hn k
    have h2 := hs.row hm k
    generalize rv (mI M 118) n k = x at h1 ⊢
    generalize rv (mI M 118) m k = y at h2 ⊢
    rcases h1 with rfl | rfl | rfl <;> rcases h2 with rfl | rfl | rfl <;> rfl
  · rw [if_neg hw, if_neg hw, if_neg hw, mok M h, Option.bind_some, q_hasProduct M h hn hm hk 1, Option.bind_some]
    unfold prP prM isP isM
    by_cases hb : anyF (fun i => rv (mI M 118) n i * rv (mI M 118) m (k - i) == 1) (k + 1) = true
    · rw [hb, if_neg (by decide), Option.bind_some, q_hasProduct M h hn hm hk (-1), Option.bind_some, Bool.true_and]
      generalize anyF (fun i => rv (mI M 118) n i * rv (mI M 118) m (k - i) == -1) (k + 1) = b
      cases b <;> rfl
    · rw [eq_false_of_ne_true hb, if_pos (by decide), Bool.false_and]; rfl
def onl (p m : Bool) : Int32 := if p then 1 else if m then -1 else 0
theorem q_only (M : Mem) (h : HM M) (hs : SgV (mI M 118)) {n m k : Nat} (hn : n < 5) (hm : m < 5) (hk : k < 9) (w : Int32) (h3 : (opP w (rv (mI M 118) n) (rv (mI M 118) m) k && opM w (rv (mI M 118) n) (rv (mI M 118) m) k) = false) : fX3_only M (some 117) (nI n) (nI m) (nI k) w = some (onl (opP w (rv (mI M 118) n) (rv (mI M 118) m) k) (opM w (rv (mI M 118) n) (rv (mI M 118) m) k)) := by
  unfold opP opM at h3
  unfold fX3_only opP opM
  by_cases hw : w = 0
  · rw [if_pos hw, if_pos hw] at h3
    rw [if_pos hw, if_pos hw, if_pos hw, mok M h, Option.bind_some, q_signAt M h hn (by omega), Option.bind_some, Option.bind_some, q_signAt M h hm (by omega), Option.bind_some, Option.bind_some]
    unfold sumP sumM at h3 ⊢
    have h1 := hs.row hn k
    have h2 := hs.row hm k
    generalize rv (mI M 118) n k = x at h1 h3 ⊢
    generalize rv (mI M 118) m k = y at h2 h3 ⊢
    rcases h1 with rfl | rfl | rfl <;> rcases h2 with rfl | rfl | rfl <;> first | rfl | exact absurd h3 (by decide)
  · rw [if_neg hw, if_neg hw, if_neg hw, mok M h, Option.bind_some, q_hasProduct M h hn hm hk 1, Option.bind_some]
    unfold prP prM isP isM
    by_cases hb : anyF (fun i => rv (mI M 118) n i * rv (mI M 118) m (k - i) == 1) (k + 1) = true
    · rw [hb, if_neg (by decide)]; rfl
    · rw [eq_false_of_ne_true hb, if_pos (by decide), Option.bind_some, q_hasProduct M h hn hm hk (-1), Option.bind_some]
      generalize anyF (fun i => rv (mI M 118) n i * rv (mI M 118) m (k - i) == -1) (k + 1) = b
      cases b <;> rfl
theorem q_isTooHigh (M : Mem) (h : HM M) {n m : Nat} (hn : n < 5) (hm : m < 5) (w : Int32) : fX3_isTooHigh M (some 117) (nI n) (nI m) w = some (b2 (tooHigh w (rv (mI M 118) n) (rv (mI M 118) m))) := by
  unfold fX3_isTooHigh tooHigh
  by_cases hw : w = 1
  · rw [if_pos hw, mok M h, Option.bind_some, q_degree M h hn, Option.bind_some, Option.bind_some, q_degree M h hm, Option.bind_some, nI_add]
    have h3 := deg_lt (rv (mI M 118) n)
    have h4 := deg_lt (rv (mI M 118) m)
    have e : (nI (deg (rv (mI M 118) n) + deg (rv (mI M 118) m)) ≤ 8) ↔ deg (rv (mI M 118) n) + deg (rv (mI M 118) m) ≤ 8 := nI_leI (b := 8) (by omega) (by decide)
    simp only [e, hw, beq_self_eq_true, Bool.true_and]
    by_cases h5 : deg (rv (mI M 118) n) + deg (rv (mI M 118) m) ≤ 8
    · rw [if_pos h5, decide_eq_false (by omega)]; rfl
    · rw [if_neg h5, decide_eq_true (by omega)]; rfl
  · rw [if_neg hw]
    simp [hw, b2]
theorem q_rows (M : Mem) (h : HM M) (hs : SgV (mI M 118)) {n m : Nat} (hn : n < 5) (hm : m < 5) (w : Int32) : fX3_rows M (some 117) (nI n) (nI m) w = some (rowsV w (rv (mI M 118) n) (rv (mI M 118) m)) := by
  unfold fX3_rows rowsV
  rw [mok M h, Option.bind_some, q_isTooHigh M h hn hm, Option.bind_some]
  have e := loopA (fX3_rows_19 M (some 117) (nI n) (nI m) w) 9 (fun i => rowsF (opP w (rv (mI M 118) n) (rv (mI M 118) m)) (opM w (rv (mI M 118) n) (rv (mI M 118) m)) i) (fun i hi k q => by
    rw [fX3_rows_19, if_neg (ge9_f i hi), mok M h, Option.bind_some, q_isThree M h hs hn hm hi, Option.bind_some, nI_1]
    by_cases hb : (opP w (rv (mI M 118) n) (rv (mI M 118) m) i && opM w (rv (mI M 118) n) (rv (mI M 118) m) i) = true
    · rw [hb, if_neg (by decide), show rowsF (opP w (rv (mI M 118) n) (rv (mI M 118) m)) (opM w (rv (mI M 118) n) (rv (mI M 118) m)) (i + 1) = rowsF (opP w (rv (mI M 118) n) (rv (mI M 118) m)) (opM w (rv (mI M 118) n) (rv (mI M 118) m)) i * 3 from if_pos hb]
    · rw [eq_false_of_ne_true hb, if_pos (by decide), Int32.mul_one, show rowsF (opP w (rv (mI M 118) n) (rv (mI M 118) m)) (opM w (rv (mI M 118) n) (rv (mI M 118) m)) (i + 1) = rowsF (opP w (rv (mI M 118) n) (rv (mI M 118) m)) (opM w (rv (mI M 118) n) (rv (mI M 118) m)) i from if_neg hb]) (fun k q => by rw [fX3_rows_19, if_pos ge9_t]) 9 0 FU rfl (fu_9 (by decide))
  rw [nI_0, show rowsF (opP w (rv (mI M 118) n) (rv (mI M 118) m)) (opM w (rv (mI M 118) n) (rv (mI M 118) m)) 0 = 1 from rfl] at e
  by_cases ht : tooHigh w (rv (mI M 118) n) (rv (mI M 118) m) = true
  · rw [ht, if_neg (by decide), if_pos rfl]
  · rw [eq_false_of_ne_true ht, if_pos (by decide), e, if_neg (by decide)]
theorem q_isAmong (M : Mem) (h : HM M) (hs : SgV (mI M 118)) {c n m : Nat} (hc : c < 5) (hn : n < 5) (hm : m < 5) (w : Int32) : fX3_isAmong M (some 117) (nI c) (nI n) (nI m) w = some (b2 (amgV w (rv (mI M 118) c) (rv (mI M 118) n) (rv (mI M 118) m))) := by
  unfold fX3_isAmong amgV
  rw [mok M h, Option.bind_some, q_isTooHigh M h hn hm, Option.bind_some]
  have no : ∀ j i q, i + j = 9 → j < q → fX3_isAmong_21 M (some 117) (nI c) (nI n) (nI m) w (fun x10 x11 => chk (zb x10) <| some x10) q 0 (nI i) = some 0 := by
    intro j
    induction j with
    | zero =>
      intro i q hi hq
      obtain ⟨q, rfl⟩ := suc_of hq
      have : i = 9 := by omega
      subst this
      rw [fX3_isAmong_21, if_pos ge9_t]
      rfl
    | succ j ih =>
      intro i q hi hq
      obtain ⟨q, rfl⟩ := suc_of hq
      rw [fX3_isAmong_21, if_neg (ge9_f i (by omega)), if_pos rfl, nI_1, ih (i + 1) q (by omega) (by omega)]
  have go : ∀ j i q, i + j = 9 → j < q → fX3_isAmong_21 M (some 117) (nI c) (nI n) (nI m) w (fun x10 x11 => chk (zb x10) <| some x10) q 1 (nI i) = some (b2 (amg (opP w (rv (mI M 118) n) (rv (mI M 118) m)) (opM w (rv (mI M 118) n) (rv (mI M 118) m)) (rv (mI M 118) c) i j)) := by
    intro j
    induction j with
    | zero =>
      intro i q hi hq
      obtain ⟨q, rfl⟩ := suc_of hq
      have : i = 9 := by omega
      subst this
      rw [fX3_isAmong_21, if_pos ge9_t]
      rfl
    | succ j ih =>
      intro i q hi hq
      obtain ⟨q, rfl⟩ := suc_of hq
      have e := ih (i + 1) q (by omega) (by omega)
      have e0 := no j (i + 1) q (by omega) (by omega)
      rw [fX3_isAmong_21, if_neg (ge9_f i (by omega)), if_neg (by decide), mok M h, Option.bind_some, q_isThree M h hs hn hm (by omega), Option.bind_some, nI_1, amg]
      by_cases hb : (opP w (rv (mI M 118) n) (rv (mI M 118) m) i && opM w (rv (mI M 118) n) (rv (mI M 118) m) i) = true
      · rw [hb, if_neg (by decide), e, Bool.true_or, Bool.true_and]
      · have hb2 := eq_false_of_ne_true hb
        rw [hb2, if_pos (by decide), Option.bind_some, q_signAt M h hc (by omega), Option.bind_some, Option.bind_some, q_only M h hs hn hm (by omega) w hb2, Option.bind_some, Bool.false_or]
        have key : (rv (mI M 118) c i = onl (opP w (rv (mI M 118) n) (rv (mI M 118) m) i) (opM w (rv (mI M 118) n) (rv (mI M 118) m) i)) ↔ (opP w (rv (mI M 118) n) (rv (mI M 118) m) i == isP (rv (mI M 118) c i) && opM w (rv (mI M 118) n) (rv (mI M 118) m) i == isM (rv (mI M 118) c i)) = true := by
          have h1 := hs.row hc i
          generalize rv (mI M 118) c i = x at h1 ⊢
          generalize opP w (rv (mI M 118) n) (rv (mI M 118) m) i = p at hb2 ⊢
          generalize opM w (rv (mI M 118) n) (rv (mI M 118) m) i = m at hb2 ⊢
          rcases h1 with rfl | rfl | rfl <;> cases p <;> cases m <;> first | decide | exact absurd hb2 (by decide)
        by_cases hx : rv (mI M 118) c i = onl (opP w (rv (mI M 118) n) (rv (mI M 118) m) i) (opM w (rv (mI M 118) n) (rv (mI M 118) m) i)
        · rw [if_pos hx, e, key.mp hx, Bool.true_and]
        · rw [if_neg hx, e0, eq_false_of_ne_true (fun q => hx (key.mpr q)), Bool.false_and]; rfl
  by_cases ht : tooHigh w (rv (mI M 118) n) (rv (mI M 118) m) = true
  · have e := no 9 0 FU rfl (fu_9 (by decide))
    rw [nI_0] at e
    rw [ht, if_neg (by decide), e]; rfl
  · have e := go 9 0 FU rfl (fu_9 (by decide))
    rw [nI_0] at e
    rw [eq_false_of_ne_true ht, if_pos (by decide), e, Bool.not_false, Bool.true_and]
