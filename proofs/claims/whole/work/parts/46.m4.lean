/-! ===== the model's roots, whole numbers, shares, texts ===== -/
/-- how many roots -/
def cnt (v : Nat → Int32) : Nat := (v 45).toNatClampNeg
def OkC (v : Nat → Int32) : Prop := cnt v ≤ 8 ∧ v 45 = nI (cnt v)
/-- the sign class of a root: 1 above, 2 below, 3 none -/
def rcl (x : Int32) : Int32 := if x ≤ 0 then (if 0 ≤ x then 3 else 2) else 1
def rtF (v : Nat → Int32) (w : Int32) : Nat → Nat
  | 0 => 0
  | i + 1 => rtF v w i + (if rcl (v (46 + i)) = w then 1 else 0)
theorem q_rootsOf (M : Mem) (h : HM M) (hc : OkC (mI M 118)) (w : Int32) : fX3_rootsOf M (some 117) w = some (nI (rtF (mI M 118) w (cnt (mI M 118)))) := by
  unfold fX3_rootsOf
  have hc1 := hc.1
  have e45 : aI M (some 118) 45 = some (nI (cnt (mI M 118))) := by
    rw [show (45 : Int32) = nI 45 from rfl, moa M 118 45 (by decide) h, hc.2]
  have e := loopA (fX3_rootsOf_4 M (some 117) w) (cnt (mI M 118)) (fun i => nI (rtF (mI M 118) w i)) (fun i hi k m => by
    rw [fX3_rootsOf_4, mo1 M h, Option.bind_some, e45, Option.bind_some, if_neg (ge_f hi (by omega)), Option.bind_some, ix46, moa M 118 _ (by rw [lm6]; omega) h, Option.bind_some, nI_1]
    show fX3_rootsOf_4 M (some 117) w k m (nI (rtF (mI M 118) w i) + (if rcl (mI M 118 (46 + i)) = w then 1 else 0)) _ = _
    by_cases hr : rcl (mI M 118 (46 + i)) = w
    · rw [if_pos hr, nI_1, show rtF (mI M 118) w (i + 1) = rtF (mI M 118) w i + 1 by simp [rtF, hr]]
    · rw [if_neg hr, Int32.add_zero, show rtF (mI M 118) w (i + 1) = rtF (mI M 118) w i by simp [rtF, hr]]) (fun k m => by
    rw [fX3_rootsOf_4, mo1 M h, Option.bind_some, e45, Option.bind_some, if_pos (nI_le (Nat.le_refl _) (by omega))]) (cnt (mI M 118)) 0 FU (by omega) (fu_9 (by omega))
  exact e _
def w1F (v : Nat → Int32) : Nat → Nat
  | 0 => 0
  | i + 1 => w1F v i + (if hasR (rv v i) 1 then 1 else 0)
theorem lt5_f : ∀ k : Nat, k < 5 → ¬ (5 : Int32) ≤ nI k := by decide
/-- what is told by count -/
def tcV (v : Nat → Int32) (c : Nat) (w : Nat) : Int32 := if w = 0 then nI (cnt v) else if w = 1 then nI (rtF v 1 (cnt v)) else if w = 2 then nI (rtF v 2 (cnt v)) else if w = 3 then nI (rtF v 3 (cnt v)) else if w = 4 then v 54 else if w = 5 then v 55 else if w = 6 then nI (w1F v 5) else nI c
theorem q_tellsCount (M : Mem) (h : HM M) (hs : SgV (mI M 118)) (hc : OkC (mI M 118)) {c : Nat} (h3 : mI M 117 3 = nI c) {w : Nat} (hw : w < 8) : fX3_tellsCount M (some 117) (nI w) = some (tcV (mI M 118) c w) := by
  unfold fX3_tellsCount tcV
  have hw2 : w = 0 ∨ w = 1 ∨ w = 2 ∨ w = 3 ∨ w = 4 ∨ w = 5 ∨ w = 6 ∨ w = 7 := by omega
  rcases hw2 with rfl | rfl | rfl | rfl | rfl | rfl | rfl | rfl
  · rw [if_pos (by decide), mo1 M h, Option.bind_some, show (45 : Int32) = nI 45 from rfl, moa M 118 45 (by decide) h, Option.bind_some, hc.2]; rfl
  · rw [if_neg (by decide), if_pos (by decide), mok M h, Option.bind_some, q_rootsOf M h hc, Option.bind_some]; rfl
  · rw [if_neg (by decide), if_neg (by decide), if_pos (by decide), mok M h, Option.bind_some, q_rootsOf M h hc, Option.bind_some]; rfl
  · rw [if_neg (by decide), if_neg (by decide), if_neg (by decide), if_pos (by decide), mok M h, Option.bind_some, q_rootsOf M h hc, Option.bind_some]; rfl
  · rw [if_neg (by decide), if_neg (by decide), if_neg (by decide), if_neg (by decide), if_pos (by decide), mo1 M h, Option.bind_some, show (54 : Int32) = nI 54 from rfl, moa M 118 54 (by decide) h, Option.bind_some]; rfl
  · rw [if_neg (by decide), if_neg (by decide), if_neg (by decide), if_neg (by decide), if_neg (by decide), if_pos (by decide), mo1 M h, Option.bind_some, show (55 : Int32) = nI 55 from rfl, moa M 118 55 (by decide) h, Option.bind_some]; rfl
  · rw [if_neg (by decide), if_neg (by decide), if_neg (by decide), if_neg (by decide), if_neg (by decide), if_neg (by decide), if_pos (by decide)]
    have e := loopA (fX3_tellsCount_78 M (some 117) (nI 6)) 5 (fun i => nI (w1F (mI M 118) i)) (fun i hi k m => by
      rw [fX3_tellsCount_78, if_neg (lt5_f i hi), mok M h, Option.bind_some, show (1 : Int32) = nI 1 from rfl]
      have e2 := q_has M h hs hi sgn_1
      rw [show nI 1 = 1 from rfl, e2, Option.bind_some, nI_1]
      by_cases hb : hasR (rv (mI M 118) i) 1 = true
      · rw [hb, if_neg (by decide), nI_1, show w1F (mI M 118) (i + 1) = w1F (mI M 118) i + 1 by simp [w1F, hb]]
      · rw [eq_false_of_ne_true hb, if_pos (by decide), Int32.add_zero, show w1F (mI M 118) (i + 1) = w1F (mI M 118) i by simp [w1F, hb]]) (fun k m => by rw [fX3_tellsCount_78, if_pos (by decide)]) 5 0 FU rfl (fu_9 (by decide))
    exact e _
  · rw [if_neg (by decide), if_neg (by decide), if_neg (by decide), if_neg (by decide), if_neg (by decide), if_neg (by decide), if_neg (by decide), mog M _ h, Option.bind_some, h3]; rfl
/-- the whole numbers: a row times a root's factor -/
def mulW (x : Int32) (f : Nat → Int64) : Nat → Int64 := fun k => if k = 0 then 0 - x.toInt64 * f 0 else f (k - 1) - x.toInt64 * f k
def oneW : Nat → Int64 := fun k => if k = 0 then 1 else 0
def whW (v : Nat → Int32) : Nat → Nat → Int64
  | 0 => oneW
  | i + 1 => mulW (v (46 + i)) (whW v i)
/-- cut to the nine places, the rest as it lies -/
def cutW (g f : Nat → Int64) : Nat → Int64 := fun k => if k < 9 then f k else g k
/-- a row whose places from i on are multiplied already -/
def parW (x : Int32) (f : Nat → Int64) (i : Nat) : Nat → Int64 := fun k => if i ≤ k then mulW x f k else f k
theorem pk_sub1 {j : Nat} (h : j ≠ 0) : nI j - 1 = nI (j - 1) := by
  obtain ⟨q, rfl⟩ : ∃ q, j = q + 1 := ⟨j - 1, by omega⟩
  exact nI_pred q
theorem eq0_iff : ∀ k : Nat, k < 9 → ((nI k = 0) ↔ k = 0) := by decide
theorem cut_cg (g : Nat → Int64) {f f2 : Nat → Int64} (h : ∀ k, k < 9 → f k = f2 k) : cutW g f = cutW g f2 := by
  funext k
  unfold cutW
  split
  · next hk => exact h k hk
  · rfl
theorem cut_lt (g f : Nat → Int64) {k : Nat} (h : k < 9) : cutW g f k = f k := if_pos h
theorem q_mul_44 (M : Mem) (h : HM M) {i : Nat} (hi : i < 8) (f : Nat → Int64) : ∀ k, fX3_multiplies_44 (some 117) (nI i) k FU (setJ M 125 (cutW (mJ M 125) f)) 8 = k (setJ M 125 (cutW (mJ M 125) (mulW (mI M 118 (46 + i)) f))) (-1) := by
  have go : ∀ j n, j ≤ 9 → j < n → ∀ k, fX3_multiplies_44 (some 117) (nI i) k n (setJ M 125 (cutW (mJ M 125) (parW (mI M 118 (46 + i)) f j))) (nI j + (-1)) = k (setJ M 125 (cutW (mJ M 125) (mulW (mI M 118 (46 + i)) f))) (-1) := by
    intro j
    induction j with
    | zero =>
      intro n hj hn k
      obtain ⟨n, rfl⟩ := suc_of hn
      rw [fX3_multiplies_44, if_pos (by decide)]
      rfl
    | succ j ih =>
      intro n hj hn k
      obtain ⟨n, rfl⟩ := suc_of hn
      rw [pk_m1, fX3_multiplies_44, if_neg (lt0_f j (by omega))]
      simp only [eq0_iff j (by omega)]
      have eu : uq (cutW (mJ M 125) (parW (mI M 118 (46 + i)) f (j + 1))) j (mulW (mI M 118 (46 + i)) f j) = cutW (mJ M 125) (parW (mI M 118 (46 + i)) f j) := by
        funext k
        unfold uq cutW parW
        by_cases hk : k = j
        · subst hk; rw [if_pos rfl, if_pos (by omega), if_pos (Nat.le_refl _)]
        · rw [if_neg hk]
          by_cases h9 : k < 9
          · rw [if_pos h9, if_pos h9]
            by_cases h2 : j ≤ k
            · rw [if_pos h2, if_pos (by omega)]
            · rw [if_neg h2, if_neg (by omega)]
          · rw [if_neg h9, if_neg h9]
      have ev : ∀ q, q ≤ j → cutW (mJ M 125) (parW (mI M 118 (46 + i)) f (j + 1)) q = f q := by
        intro q hq
        rw [cut_lt _ _ (by omega), parW, if_neg (by omega)]
      by_cases h0 : j = 0
      · subst h0
        simp (disch := first | omega | (simp only [HM_setA, HM_setJ, h]; done) | (simp only [lm6, lm7, lm8, lm0, lm1, lm2]; omega)) only [mo1, mo2, mo4, mo5, mo6, mo8, mo9, mo11, mog, mop, mogJ, mopJ, mok, moa, mow, moaJ, mowJ, moaZ, mowZ, Option.bind_some, mI_eq, mI_ne, mJ_eq, mJ_ne, mI_setJ, mJ_setA, setA_setA, setJ_setJ, uq_eq, uq_ne, uq_uq, nI_1, if_true, ix46, ev]
        rw [show (0 : Int64) - (mI M 118 (46 + i)).toInt64 * f 0 = mulW (mI M 118 (46 + i)) f 0 from rfl, eu]
        exact ih n (by omega) (by omega) k
      · rw [pk_sub1 h0]
        simp (disch := first | omega | (simp only [HM_setA, HM_setJ, h]; done) | (simp only [lm6, lm7, lm8, lm0, lm1, lm2]; omega)) only [mo1, mo2, mo4, mo5, mo6, mo8, mo9, mo11, mog, mop, mogJ, mopJ, mok, moa, mow, moaJ, mowJ, moaZ, mowZ, Option.bind_some, mI_eq, mI_ne, mJ_eq, mJ_ne, mI_setJ, mJ_setA, setA_setA, setJ_setJ, uq_eq, uq_ne, uq_uq, nI_1, if_neg h0, ix46, ev]
        rw [show f (j - 1) - (mI M 118 (46 + i)).toInt64 * f j = mulW (mI M 118 (46 + i)) f j from (if_neg h0).symm, eu]
        exact ih n (by omega) (by omega) k
  intro k
  have e := go 9 FU (by decide) (fu_9 (by decide)) k
  rw [show cutW (mJ M 125) (parW (mI M 118 (46 + i)) f 9) = cutW (mJ M 125) f from cut_cg _ (fun q hq => if_neg (by omega)), show nI 9 + (-1) = (8 : Int32) by decide] at e
  exact e
theorem q_multiplies (M : Mem) (h : HM M) (hc : OkC (mI M 118)) : fX3_multiplies M (some 117) = some (setJ M 125 (cutW (mJ M 125) (whW (mI M 118) (cnt (mI M 118))))) := by
  unfold fX3_multiplies
  have hc1 := hc.1
  have ez := loopF (fX3_multiplies_2 (some 117)) 9 (fun i => setJ M 125 (bq (mJ M 125) 0 i (fun _ => 0))) (fun i hi k m => by
    have e2 := bq_s (mJ M 125) 0 i (fun _ => (0 : Int64))
    rw [Nat.zero_add] at e2
    rw [fX3_multiplies_2, if_neg (ge9_f i hi)]
    simp (disch := first | omega | (simp only [HM_setA, HM_setJ, h]; done) | (simp only [lm6, lm7, lm8, lm0, lm1, lm2]; omega)) only [mo1, mo2, mo4, mo5, mo6, mo8, mo9, mo11, mog, mop, mogJ, mopJ, mok, moa, mow, moaJ, mowJ, moaZ, mowZ, Option.bind_some, mI_eq, mI_ne, mJ_eq, mJ_ne, mI_setJ, mJ_setA, setA_setA, setJ_setJ, uq_eq, uq_ne, uq_uq, nI_1, e2]) (fun k m => by rw [fX3_multiplies_2, if_pos ge9_t]) 9 0 FU rfl (fu_9 (by decide))
  rw [bq_0, setJ_id] at ez
  rw [show fX3_multiplies_2 (some 117) _ FU M 0 = _ from ez _]
  have eo : uq (bq (mJ M 125) 0 9 (fun _ => (0 : Int64))) 0 1 = cutW (mJ M 125) oneW := by
    funext k
    unfold uq bq cutW oneW
    by_cases h0 : k = 0
    · subst h0; rfl
    · rw [if_neg h0]
      by_cases h9 : k < 9
      · rw [if_pos (by omega), if_pos h9, if_neg h0]
      · rw [if_neg (by omega), if_neg h9]
  have e0 := mowJ (setJ M 125 (bq (mJ M 125) 0 9 (fun _ => (0 : Int64)))) 0 1 (by decide) h
  rw [nI_0, mJ_eq, setJ_setJ, eo] at e0
  rw [mo11 (setJ M 125 (bq (mJ M 125) 0 9 (fun _ => (0 : Int64)))) h, Option.bind_some, e0, Option.bind_some]
  have e45 : ∀ f, aI (setJ M 125 f) (some 118) 45 = some (nI (cnt (mI M 118))) := by
    intro f
    rw [show (45 : Int32) = nI 45 from rfl, moa (setJ M 125 f) 118 45 (by decide) h, mI_setJ, ← hc.2]
  have e := loopF (fX3_multiplies_30 (some 117)) (cnt (mI M 118)) (fun i => setJ M 125 (cutW (mJ M 125) (whW (mI M 118) i))) (fun i hi k m => by
    rw [fX3_multiplies_30, mo1 (setJ M 125 (cutW (mJ M 125) (whW (mI M 118) i))) h, Option.bind_some, e45, Option.bind_some, if_neg (ge_f hi (by omega)), q_mul_44 M h (by omega), nI_1]
    rfl) (fun k m => by
    rw [fX3_multiplies_30, mo1 (setJ M 125 (cutW (mJ M 125) (whW (mI M 118) (cnt (mI M 118))))) h, Option.bind_some, e45, Option.bind_some, if_pos (nI_le (Nat.le_refl _) (by omega))]) (cnt (mI M 118)) 0 FU (by omega) (fu_9 (by omega))
  exact e _
