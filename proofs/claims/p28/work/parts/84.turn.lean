/-! ===== one turn of the law ===== -/
def tl (f : Nat → Int64) : Nat → Int64 → Int64
  | 0, h => h
  | i + 1, h => 31 * tl f i h + f i
theorem tl_0 (f : Nat → Int64) (h : Int64) : tl f 0 h = h := rfl
def toldF (v : Nat → Int32) : Int64 := tl (fun k => whW v (cnt v) k) 9 (tl (fun k => (form (rv v k)).toInt64) 5 (tl (fun w => (tcV v 0 w).toInt64) 7 3))
theorem tcV_c (v : Nat → Int32) (c : Nat) {w : Nat} (hw : w < 7) : tcV v c w = tcV v 0 w := by
  have h : w = 0 ∨ w = 1 ∨ w = 2 ∨ w = 3 ∨ w = 4 ∨ w = 5 ∨ w = 6 := by omega
  rcases h with rfl | rfl | rfl | rfl | rfl | rfl | rfl <;> rfl
theorem told_1 {M : Mem} {v : Nat → Int32} {B : BS} (h : Sx M v B) (x : Int64) : ∀ j i q, i + j = 7 → j < q → ∀ k, fL_told_6 (some 0) k q M (tl (fun w => (tcV v 0 w).toInt64) i x) (nI i) = k M (tl (fun w => (tcV v 0 w).toInt64) 7 x) (nI 7) := by
  intro j
  induction j with
  | zero =>
    intro i q hi hq k
    obtain ⟨q, rfl⟩ := suc_of hq
    have : i = 7 := by omega
    subst this
    rw [fL_told_6, if_pos (by decide)]
  | succ j ih =>
    intro i q hi hq k
    obtain ⟨q, rfl⟩ := suc_of hq
    rw [fL_told_6, if_neg (show ¬ (7 : Int32) ≤ nI i from ge_f (N := 7) (by omega) (by decide)), kk M h.hc, Option.bind_some, g_count h (show i < 8 by omega), Option.bind_some, tcV_c v B.1 (by omega), nI_1]
    exact ih (i + 1) q (by omega) (by omega) k
theorem told_2 {M : Mem} {v : Nat → Int32} {B : BS} (h : Sx M v B) (x : Int64) : ∀ j i q, i + j = 5 → j < q → ∀ k, fL_told_33 (some 0) k q M (tl (fun k => (form (rv v k)).toInt64) i x) (nI i) = k M (tl (fun k => (form (rv v k)).toInt64) 5 x) (nI 5) := by
  intro j
  induction j with
  | zero =>
    intro i q hi hq k
    obtain ⟨q, rfl⟩ := suc_of hq
    have : i = 5 := by omega
    subst this
    rw [fL_told_33, if_pos (by decide)]
  | succ j ih =>
    intro i q hi hq k
    obtain ⟨q, rfl⟩ := suc_of hq
    have e : fX2_of M (some 0) (nI i) 3 = some (form (rv v i)) := g_of h (w := 3) (show i < 5 by omega) (by decide)
    rw [fL_told_33, if_neg (lt5_f i (by omega)), kk M h.hc, Option.bind_some, e, Option.bind_some, nI_1]
    exact ih (i + 1) q (by omega) (by omega) k
theorem told_3 {v : Nat → Int32} {B : BS} (x : Int64) : ∀ j i q, i + j = 9 → j < q → ∀ M, Sx M v B → ∃ M2, Sx M2 v B ∧ ∀ k, fL_told_60 (some 0) k q M (tl (fun k => whW v (cnt v) k) i x) (nI i) = k M2 (tl (fun k => whW v (cnt v) k) 9 x) (nI 9) := by
  intro j
  induction j with
  | zero =>
    intro i q hi hq M h
    obtain ⟨q, rfl⟩ := suc_of hq
    have : i = 9 := by omega
    subst this
    exact ⟨M, h, fun k => by rw [fL_told_60, if_pos (by decide)]⟩
  | succ j ih =>
    intro i q hi hq M h
    obtain ⟨q, rfl⟩ := suc_of hq
    obtain ⟨M1, e1, s1⟩ := g_coef h (show i < 9 by omega)
    obtain ⟨M2, s2, e2⟩ := ih (i + 1) q (by omega) (by omega) M1 s1
    refine ⟨M2, s2, fun k => ?_⟩
    rw [fL_told_60, if_neg (ge9_f i (by omega)), kk M h.hc, Option.bind_some, e1, Option.bind_some, nI_1]
    exact e2 k
theorem g_told {M : Mem} {v : Nat → Int32} {B : BS} (h : Sx M v B) : ∃ M2, fL_told M (some 0) = some (M2, toldF v) ∧ Sx M2 v B := by
  obtain ⟨M2, s2, e3⟩ := told_3 (v := v) (B := B) (tl (fun k => (form (rv v k)).toInt64) 5 (tl (fun w => (tcV v 0 w).toInt64) 7 3)) 9 0 FU rfl (fu_9 (by decide)) M h
  refine ⟨M2, ?_, s2⟩
  have a1 := told_1 h 3 7 0 FU rfl (fu_9 (by decide))
  have a2 := told_2 h (tl (fun w => (tcV v 0 w).toInt64) 7 3) 5 0 FU rfl (fu_9 (by decide))
  rw [nI_0, tl_0] at a1 a2 e3
  unfold fL_told toldF
  rw [a1, a2, e3]
/-- what a turn does, of the state alone; w: the snapshot -/
def actR (v w : Nat → Int32) (a b : Int32) : (Nat → Int32) × Int32 :=
  if (a &&& 15) = 0 then putR v (lw (a >>> ((4 : Int32) &&& 31)) 5) (lw b 9) (nI (lw (b >>> ((4 : Int32) &&& 31)) 3) - 1) else if (a &&& 15) = 1 then putR v (lw (a >>> ((4 : Int32) &&& 31)) 5) (lw b 9) (nI (lw (b >>> ((4 : Int32) &&& 31)) 3) - 1) else if (a &&& 15) = 2 then putR v (lw (a >>> ((4 : Int32) &&& 31)) 5) (lw b 9) (nI (lw (b >>> ((4 : Int32) &&& 31)) 3) - 1) else if (a &&& 15) = 3 then putR v (lw (a >>> ((4 : Int32) &&& 31)) 5) (lw b 9) (nI (lw (b >>> ((4 : Int32) &&& 31)) 3) - 1) else if (a &&& 15) = 4 then putR v (lw (a >>> ((4 : Int32) &&& 31)) 5) (lw b 9) (nI (lw (b >>> ((4 : Int32) &&& 31)) 3) - 1) else if (a &&& 15) = 5 then putR v (lw (a >>> ((4 : Int32) &&& 31)) 5) (lw b 9) (nI (lw (b >>> ((4 : Int32) &&& 31)) 3) - 1) else if (a &&& 15) = 6 then copyR v (lw (a >>> ((4 : Int32) &&& 31)) 5) (lw b 5) else if (a &&& 15) = 7 then divR v (lw (a >>> ((4 : Int32) &&& 31)) 5) (nI (lw b 3) - 1) else if (a &&& 15) = 8 then divR v (lw (a >>> ((4 : Int32) &&& 31)) 5) (nI (lw b 3) - 1) else if (a &&& 15) = 9 then divR v (lw (a >>> ((4 : Int32) &&& 31)) 5) (nI (lw b 3) - 1) else if (a &&& 15) = 10 then rootR v (nI (lw b 19) - 9) else if (a &&& 15) = 11 then rootR v (nI (lw b 19) - 9) else if (a &&& 15) = 12 then rootR v (nI (lw b 19) - 9) else if (a &&& 15) = 13 then (if (b &&& 1) = 0 then unrR v else backR w) else lowR v (lw (a >>> ((4 : Int32) &&& 31)) 5)
theorem sg3 : ∀ k : Nat, k < 3 → nI k - 1 = -1 ∨ nI k - 1 = 0 ∨ nI k - 1 = 1 := by decide
theorem rt19 : ∀ k : Nat, k < 19 → ¬ nI k - 9 < -9 ∧ nI k - 9 ≤ 9 := by decide
theorem act_fin {B : BS} {v : Nat → Int32} {r : (Nat → Int32) × Int32} {o : Option (Mem × Int32)} (h : Act B v r o) : Act B v r (o.bind fun w => some (w.1, w.2)) := by
  obtain ⟨M2, e, s⟩ := h
  exact ⟨M2, by rw [e, Option.bind_some], s⟩
theorem a15 (a : Int32) : ∃ j : Nat, j < 16 ∧ a &&& 15 = nI j := pk_andE a 4 rfl
theorem actR_0 (v w : Nat → Int32) {a b : Int32} (h : a &&& 15 = 0) : actR v w a b = putR v (lw (a >>> ((4 : Int32) &&& 31)) 5) (lw b 9) (nI (lw (b >>> ((4 : Int32) &&& 31)) 3) - 1) := by
  unfold actR
  rw [h, if_pos rfl]
theorem actR_1 (v w : Nat → Int32) {a b : Int32} (h : a &&& 15 = 1) : actR v w a b = putR v (lw (a >>> ((4 : Int32) &&& 31)) 5) (lw b 9) (nI (lw (b >>> ((4 : Int32) &&& 31)) 3) - 1) := by
  unfold actR
  rw [h, if_neg (by decide), if_pos rfl]
theorem actR_2 (v w : Nat → Int32) {a b : Int32} (h : a &&& 15 = 2) : actR v w a b = putR v (lw (a >>> ((4 : Int32) &&& 31)) 5) (lw b 9) (nI (lw (b >>> ((4 : Int32) &&& 31)) 3) - 1) := by
  unfold actR
  rw [h, if_neg (by decide), if_neg (by decide), if_pos rfl]
theorem actR_3 (v w : Nat → Int32) {a b : Int32} (h : a &&& 15 = 3) : actR v w a b = putR v (lw (a >>> ((4 : Int32) &&& 31)) 5) (lw b 9) (nI (lw (b >>> ((4 : Int32) &&& 31)) 3) - 1) := by
  unfold actR
  rw [h, if_neg (by decide), if_neg (by decide), if_neg (by decide), if_pos rfl]
theorem actR_4 (v w : Nat → Int32) {a b : Int32} (h : a &&& 15 = 4) : actR v w a b = putR v (lw (a >>> ((4 : Int32) &&& 31)) 5) (lw b 9) (nI (lw (b >>> ((4 : Int32) &&& 31)) 3) - 1) := by
  unfold actR
  rw [h, if_neg (by decide), if_neg (by decide), if_neg (by decide), if_neg (by decide), if_pos rfl]
theorem actR_5 (v w : Nat → Int32) {a b : Int32} (h : a &&& 15 = 5) : actR v w a b = putR v (lw (a >>> ((4 : Int32) &&& 31)) 5) (lw b 9) (nI (lw (b >>> ((4 : Int32) &&& 31)) 3) - 1) := by
  unfold actR
  rw [h, if_neg (by decide), if_neg (by decide), if_neg (by decide), if_neg (by decide), if_neg (by decide), if_pos rfl]
theorem actR_6 (v w : Nat → Int32) {a b : Int32} (h : a &&& 15 = 6) : actR v w a b = copyR v (lw (a >>> ((4 : Int32) &&& 31)) 5) (lw b 5) := by
  unfold actR
  rw [h, if_neg (by decide), if_neg (by decide), if_neg (by decide), if_neg (by decide), if_neg (by decide), if_neg (by decide), if_pos rfl]
theorem actR_7 (v w : Nat → Int32) {a b : Int32} (h : a &&& 15 = 7) : actR v w a b = divR v (lw (a >>> ((4 : Int32) &&& 31)) 5) (nI (lw b 3) - 1) := by
  unfold actR
  rw [h, if_neg (by decide), if_neg (by decide), if_neg (by decide), if_neg (by decide), if_neg (by decide), if_neg (by decide), if_neg (by decide), if_pos rfl]
theorem actR_8 (v w : Nat → Int32) {a b : Int32} (h : a &&& 15 = 8) : actR v w a b = divR v (lw (a >>> ((4 : Int32) &&& 31)) 5) (nI (lw b 3) - 1) := by
  unfold actR
  rw [h, if_neg (by decide), if_neg (by decide), if_neg (by decide), if_neg (by decide), if_neg (by decide), if_neg (by decide), if_neg (by decide), if_neg (by decide), if_pos rfl]
theorem actR_9 (v w : Nat → Int32) {a b : Int32} (h : a &&& 15 = 9) : actR v w a b = divR v (lw (a >>> ((4 : Int32) &&& 31)) 5) (nI (lw b 3) - 1) := by
  unfold actR
  rw [h, if_neg (by decide), if_neg (by decide), if_neg (by decide), if_neg (by decide), if_neg (by decide), if_neg (by decide), if_neg (by decide), if_neg (by decide), if_neg (by decide), if_pos rfl]
theorem actR_10 (v w : Nat → Int32) {a b : Int32} (h : a &&& 15 = 10) : actR v w a b = rootR v (nI (lw b 19) - 9) := by
  unfold actR
  rw [h, if_neg (by decide), if_neg (by decide), if_neg (by decide), if_neg (by decide), if_neg (by decide), if_neg (by decide), if_neg (by decide), if_neg (by decide), if_neg (by decide), if_neg (by decide), if_pos rfl]
theorem actR_11 (v w : Nat → Int32) {a b : Int32} (h : a &&& 15 = 11) : actR v w a b = rootR v (nI (lw b 19) - 9) := by
  unfold actR
  rw [h, if_neg (by decide), if_neg (by decide), if_neg (by decide), if_neg (by decide), if_neg (by decide), if_neg (by decide), if_neg (by decide), if_neg (by decide), if_neg (by decide), if_neg (by decide), if_neg (by decide), if_pos rfl]
theorem actR_12 (v w : Nat → Int32) {a b : Int32} (h : a &&& 15 = 12) : actR v w a b = rootR v (nI (lw b 19) - 9) := by
  unfold actR
  rw [h, if_neg (by decide), if_neg (by decide), if_neg (by decide), if_neg (by decide), if_neg (by decide), if_neg (by decide), if_neg (by decide), if_neg (by decide), if_neg (by decide), if_neg (by decide), if_neg (by decide), if_neg (by decide), if_pos rfl]
theorem actR_13 (v w : Nat → Int32) {a b : Int32} (h : a &&& 15 = 13) : actR v w a b = (if (b &&& 1) = 0 then unrR v else backR w) := by
  unfold actR
  rw [h, if_neg (by decide), if_neg (by decide), if_neg (by decide), if_neg (by decide), if_neg (by decide), if_neg (by decide), if_neg (by decide), if_neg (by decide), if_neg (by decide), if_neg (by decide), if_neg (by decide), if_neg (by decide), if_neg (by decide), if_pos rfl]
theorem actR_14 (v w : Nat → Int32) {a b : Int32} (h : a &&& 15 = 14) : actR v w a b = lowR v (lw (a >>> ((4 : Int32) &&& 31)) 5) := by
  unfold actR
  rw [h, if_neg (by decide), if_neg (by decide), if_neg (by decide), if_neg (by decide), if_neg (by decide), if_neg (by decide), if_neg (by decide), if_neg (by decide), if_neg (by decide), if_neg (by decide), if_neg (by decide), if_neg (by decide), if_neg (by decide), if_neg (by decide)]
theorem actR_15 (v w : Nat → Int32) {a b : Int32} (h : a &&& 15 = 15) : actR v w a b = lowR v (lw (a >>> ((4 : Int32) &&& 31)) 5) := by
  unfold actR
  rw [h, if_neg (by decide), if_neg (by decide), if_neg (by decide), if_neg (by decide), if_neg (by decide), if_neg (by decide), if_neg (by decide), if_neg (by decide), if_neg (by decide), if_neg (by decide), if_neg (by decide), if_neg (by decide), if_neg (by decide), if_neg (by decide)]
theorem g_act {M : Mem} {v : Nat → Int32} {B : BS} (h : Sx M v B) (hk : B.2.2.1 0 ≠ 0) (a b : Int32) : Act B v (actR v (B.2.2.2.1 0) a b) (fL_act M (some 0) a b) := by
  have l5 : fL_low M (a >>> ((4 : Int32) &&& 31)) 5 = some (nI (lw (a >>> ((4 : Int32) &&& 31)) 5)) := g_low M _ (N := 5) (by decide) (by decide)
  have b9 : fL_low M b 9 = some (nI (lw b 9)) := g_low M _ (N := 9) (by decide) (by decide)
  have b3 : fL_low M b 3 = some (nI (lw b 3)) := g_low M _ (N := 3) (by decide) (by decide)
  have b5 : fL_low M b 5 = some (nI (lw b 5)) := g_low M _ (N := 5) (by decide) (by decide)
  have b19 : fL_low M b 19 = some (nI (lw b 19)) := g_low M _ (N := 19) (by decide) (by decide)
  have c3 : fL_low M (b >>> ((4 : Int32) &&& 31)) 3 = some (nI (lw (b >>> ((4 : Int32) &&& 31)) 3)) := g_low M _ (N := 3) (by decide) (by decide)
  have n5 := lw_lt (a >>> ((4 : Int32) &&& 31)) (N := 5) (by decide)
  have m5 := lw_lt b (N := 5) (by decide)
  have m9 := lw_lt b (N := 9) (by decide)
  have s3 := sg3 _ (lw_lt b (N := 3) (by decide))
  have t3 := sg3 _ (lw_lt (b >>> ((4 : Int32) &&& 31)) (N := 3) (by decide))
  have r9 := rt19 _ (lw_lt b (N := 19) (by decide))
  obtain ⟨j, hj, hj2⟩ := a15 a
  have hjj : j = 0 ∨ j = 1 ∨ j = 2 ∨ j = 3 ∨ j = 4 ∨ j = 5 ∨ j = 6 ∨ j = 7 ∨ j = 8 ∨ j = 9 ∨ j = 10 ∨ j = 11 ∨ j = 12 ∨ j = 13 ∨ j = 14 ∨ j = 15 := by omega
  rcases hjj with rfl | rfl | rfl | rfl | rfl | rfl | rfl | rfl | rfl | rfl | rfl | rfl | rfl | rfl | rfl | rfl
  · have e : a &&& 15 = 0 := hj2
    rw [actR_0 v _ e, fL_act, l5, Option.bind_some, e, if_pos rfl, b9, Option.bind_some, c3, Option.bind_some, kk M h.hc, Option.bind_some]
    exact act_fin (o_put h n5 m9 t3)
  · have e : a &&& 15 = 1 := hj2
    rw [actR_1 v _ e, fL_act, l5, Option.bind_some, e, if_neg (by decide), if_pos rfl, b9, Option.bind_some, c3, Option.bind_some, kk M h.hc, Option.bind_some]
    exact act_fin (o_put h n5 m9 t3)
  · have e : a &&& 15 = 2 := hj2
    rw [actR_2 v _ e, fL_act, l5, Option.bind_some, e, if_neg (by decide), if_neg (by decide), if_pos rfl, b9, Option.bind_some, c3, Option.bind_some, kk M h.hc, Option.bind_some]
    exact act_fin (o_put h n5 m9 t3)
  · have e : a &&& 15 = 3 := hj2
    rw [actR_3 v _ e, fL_act, l5, Option.bind_some, e, if_neg (by decide), if_neg (by decide), if_neg (by decide), if_pos rfl, b9, Option.bind_some, c3, Option.bind_some, kk M h.hc, Option.bind_some]
    exact act_fin (o_put h n5 m9 t3)
  · have e : a &&& 15 = 4 := hj2
    rw [actR_4 v _ e, fL_act, l5, Option.bind_some, e, if_neg (by decide), if_neg (by decide), if_neg (by decide), if_neg (by decide), if_pos rfl, b9, Option.bind_some, c3, Option.bind_some, kk M h.hc, Option.bind_some]
    exact act_fin (o_put h n5 m9 t3)
  · have e : a &&& 15 = 5 := hj2
    rw [actR_5 v _ e, fL_act, l5, Option.bind_some, e, if_neg (by decide), if_neg (by decide), if_neg (by decide), if_neg (by decide), if_neg (by decide), if_pos rfl, b9, Option.bind_some, c3, Option.bind_some, kk M h.hc, Option.bind_some]
    exact act_fin (o_put h n5 m9 t3)
  · have e : a &&& 15 = 6 := hj2
    rw [actR_6 v _ e, fL_act, l5, Option.bind_some, e, if_neg (by decide), if_neg (by decide), if_neg (by decide), if_neg (by decide), if_neg (by decide), if_neg (by decide), if_pos rfl, b5, Option.bind_some, kk M h.hc, Option.bind_some]
    exact act_fin (o_copy h n5 m5)
  · have e : a &&& 15 = 7 := hj2
    rw [actR_7 v _ e, fL_act, l5, Option.bind_some, e, if_neg (by decide), if_neg (by decide), if_neg (by decide), if_neg (by decide), if_neg (by decide), if_neg (by decide), if_neg (by decide), if_pos rfl, b3, Option.bind_some, kk M h.hc, Option.bind_some]
    exact act_fin (o_div h n5 s3)
  · have e : a &&& 15 = 8 := hj2
    rw [actR_8 v _ e, fL_act, l5, Option.bind_some, e, if_neg (by decide), if_neg (by decide), if_neg (by decide), if_neg (by decide), if_neg (by decide), if_neg (by decide), if_neg (by decide), if_neg (by decide), if_pos rfl, b3, Option.bind_some, kk M h.hc, Option.bind_some]
    exact act_fin (o_div h n5 s3)
  · have e : a &&& 15 = 9 := hj2
    rw [actR_9 v _ e, fL_act, l5, Option.bind_some, e, if_neg (by decide), if_neg (by decide), if_neg (by decide), if_neg (by decide), if_neg (by decide), if_neg (by decide), if_neg (by decide), if_neg (by decide), if_neg (by decide), if_pos rfl, b3, Option.bind_some, kk M h.hc, Option.bind_some]
    exact act_fin (o_div h n5 s3)
  · have e : a &&& 15 = 10 := hj2
    rw [actR_10 v _ e, fL_act, l5, Option.bind_some, e, if_neg (by decide), if_neg (by decide), if_neg (by decide), if_neg (by decide), if_neg (by decide), if_neg (by decide), if_neg (by decide), if_neg (by decide), if_neg (by decide), if_neg (by decide), if_pos rfl, b19, Option.bind_some, kk M h.hc, Option.bind_some]
    exact act_fin (o_root h r9.1 r9.2)
  · have e : a &&& 15 = 11 := hj2
    rw [actR_11 v _ e, fL_act, l5, Option.bind_some, e, if_neg (by decide), if_neg (by decide), if_neg (by decide), if_neg (by decide), if_neg (by decide), if_neg (by decide), if_neg (by decide), if_neg (by decide), if_neg (by decide), if_neg (by decide), if_neg (by decide), if_pos rfl, b19, Option.bind_some, kk M h.hc, Option.bind_some]
    exact act_fin (o_root h r9.1 r9.2)
  · have e : a &&& 15 = 12 := hj2
    rw [actR_12 v _ e, fL_act, l5, Option.bind_some, e, if_neg (by decide), if_neg (by decide), if_neg (by decide), if_neg (by decide), if_neg (by decide), if_neg (by decide), if_neg (by decide), if_neg (by decide), if_neg (by decide), if_neg (by decide), if_neg (by decide), if_neg (by decide), if_pos rfl, b19, Option.bind_some, kk M h.hc, Option.bind_some]
    exact act_fin (o_root h r9.1 r9.2)
  · have e : a &&& 15 = 13 := hj2
    by_cases hb : (b &&& 1) = 0
    · rw [actR_13 v _ e, if_pos hb, fL_act, l5, Option.bind_some, e, if_neg (by decide), if_neg (by decide), if_neg (by decide), if_neg (by decide), if_neg (by decide), if_neg (by decide), if_neg (by decide), if_neg (by decide), if_neg (by decide), if_neg (by decide), if_neg (by decide), if_neg (by decide), if_neg (by decide), if_pos rfl, if_pos hb, kk M h.hc, Option.bind_some]
      exact act_fin (o_unr h)
    · rw [actR_13 v _ e, if_neg hb, fL_act, l5, Option.bind_some, e, if_neg (by decide), if_neg (by decide), if_neg (by decide), if_neg (by decide), if_neg (by decide), if_neg (by decide), if_neg (by decide), if_neg (by decide), if_neg (by decide), if_neg (by decide), if_neg (by decide), if_neg (by decide), if_neg (by decide), if_pos rfl, if_neg hb, kk M h.hc, Option.bind_some]
      exact act_fin (o_back h hk)
  · have e : a &&& 15 = 14 := hj2
    rw [actR_14 v _ e, fL_act, l5, Option.bind_some, e, if_neg (by decide), if_neg (by decide), if_neg (by decide), if_neg (by decide), if_neg (by decide), if_neg (by decide), if_neg (by decide), if_neg (by decide), if_neg (by decide), if_neg (by decide), if_neg (by decide), if_neg (by decide), if_neg (by decide), if_neg (by decide), kk M h.hc, Option.bind_some]
    exact act_fin (o_low h n5)
  · have e : a &&& 15 = 15 := hj2
    rw [actR_15 v _ e, fL_act, l5, Option.bind_some, e, if_neg (by decide), if_neg (by decide), if_neg (by decide), if_neg (by decide), if_neg (by decide), if_neg (by decide), if_neg (by decide), if_neg (by decide), if_neg (by decide), if_neg (by decide), if_neg (by decide), if_neg (by decide), if_neg (by decide), if_neg (by decide), kk M h.hc, Option.bind_some]
    exact act_fin (o_low h n5)
/-- how a division counts -/
theorem div_54 {v : Nat → Int32} {n : Nat} (hn : n < 5) (r : Int32) : (divR v n r).1 54 = v 54 + (if (divR v n r).2 = -9 then 0 else 1) := by
  unfold divR
  by_cases h : cntd (rv v n) r = 0
  · rw [if_pos h]
    show uq v 55 (v 55 + 1) 54 = v 54 + (if (-9 : Int32) = -9 then 0 else 1)
    rw [if_pos rfl, uq_ne _ _ (by decide), Int32.add_zero]
  · rw [if_neg h]
    show divV v n r 54 = v 54 + (if nI (deg (rv (divV v n r) n)) = -9 then 0 else 1)
    have : ¬ nI (deg (rv (divV v n r) n)) = -9 := by
      intro q
      have h2 := nI_pos (n := deg (rv (divV v n r) n)) (by have := deg_lt (rv (divV v n r) n); omega)
      rw [q] at h2
      exact h2 (by decide)
    rw [if_neg this]
    exact uq_eq _ _ _
theorem act_54 (v w : Nat → Int32) (a b : Int32) (h1 : ¬ a &&& 15 ≤ 6) (h2 : ¬ 10 ≤ a &&& 15) : (actR v w a b).1 54 = v 54 + (if (actR v w a b).2 = -9 then 0 else 1) := by
  have n5 := lw_lt (a >>> ((4 : Int32) &&& 31)) (N := 5) (by decide)
  obtain ⟨j, hj, hj2⟩ := a15 a
  have a1 : ¬ j ≤ 6 := fun q => h1 (by rw [hj2]; exact nI_le (b := 6) q (by decide))
  have a2 : ¬ 10 ≤ j := fun q => h2 (by rw [hj2]; exact nI_le (a := 10) q (by omega))
  have h3 : j = 7 ∨ j = 8 ∨ j = 9 := by omega
  rcases h3 with rfl | rfl | rfl
  · rw [actR_7 v w hj2]; exact div_54 n5 _
  · rw [actR_8 v w hj2]; exact div_54 n5 _
  · rw [actR_9 v w hj2]; exact div_54 n5 _
/-! the pieces of a turn -/
theorem cell_ok (xs : Nat → Int32) {L : Nat} (hL : L ≤ 260) {z : Nat} (hz : z < 100) : ∃ c, ∀ M, fL_cell xs L M (nI z) = some c := by
  by_cases h : nI L ≤ nI z
  · exact ⟨_, fun M => by rw [fL_cell, if_pos (show Int32.ofNat L ≤ nI z from h)]⟩
  · have hz2 : z < L := by
      rcases Nat.lt_or_ge z L with q | q
      · exact q
      · exact absurd (nI_le q (by omega)) h
    refine ⟨xs z, fun M => ?_⟩
    rw [fL_cell, if_neg (show ¬ Int32.ofNat L ≤ nI z from h), sc, if_pos (inRb_nI hz2 (by omega)), nI_clamp (by omega), Option.bind_some]
theorem p_A (xs : Nat → Int32) {L : Nat} (hL : L ≤ 260) {i : Nat} (hi : i < 40) {M : Mem} {v : Nat → Int32} {B : BS} (h : Sx M v B) : ∃ M1 v1 B1 a b, Sx M1 v1 B1 ∧ B1.1 < 6 ∧ B1.2.2 = B.2.2 ∧ ∀ kn, fL_A xs L (some 0) (nI i) kn M = kn M1 a b := by
  obtain ⟨c1, e1⟩ := cell_ok xs hL (z := 2 * i) (by omega)
  obtain ⟨c2, e2⟩ := cell_ok xs hL (z := 2 * i + 1) (by omega)
  have z1 : 2 * nI i = nI (2 * i) := pk_mul 2 i
  have g7 : fX2_count M (some 0) 7 = some (nI B.1) := g_count h (w := 7) (by decide)
  have h6 : B.1 ≤ 6 := h.2.2.1
  have hA : ∀ kn, fL_A xs L (some 0) (nI i) kn M = (if nI B.1 = 6 then (ck 2 M (some 0)).bind fun _ => (fX2_undo M (some 0)).bind fun w6 => (ck 2 w6.1 (some 0)).bind fun _ => (fX2_undo w6.1 (some 0)).bind fun w7 => kn w7.1 c1 c2 else kn M c1 c2) := by
    intro kn
    rw [fL_A, if_neg (show ¬ (40 : Int32) ≤ nI i from ge_f (N := 40) hi (by decide)), z1, nI_1, e1 M, Option.bind_some, e2 M, Option.bind_some]
    show ((ck 2 M (some 0)).bind fun _ => (fX2_count M (some 0) 7).bind _) = _
    rw [kk M h.hc, Option.bind_some, g7, Option.bind_some]
  by_cases hb : B.1 = 6
  · obtain ⟨M1, u1, s1⟩ := o_undo h (q := 5) hb
    obtain ⟨M2, u2, s2⟩ := o_undo s1 (q := 4) rfl
    refine ⟨M2, _, _, c1, c2, s2, (by decide : 4 < 6), rfl, fun kn => ?_⟩
    rw [hA, if_pos (by rw [hb]; rfl), kk M h.hc, Option.bind_some, u1, Option.bind_some, kk M1 s1.hc, Option.bind_some, u2, Option.bind_some]
  · refine ⟨M, v, B, c1, c2, h, by omega, rfl, fun kn => ?_⟩
    rw [hA, if_neg (show ¬ nI B.1 = 6 from fun q => hb ((nI_eq (b := 6) (by omega) (by decide)).mp q))]
theorem sav_1 {B : BS} (h : B.1 < 6) (v : Nat → Int32) : (savB B v).1 = B.1 + 1 := by
  show min B.1 5 + 1 = B.1 + 1
  omega
theorem p_B {M : Mem} {v : Nat → Int32} {B : BS} (h : Sx M v B) (h6 : B.1 < 6) (hk : B.2.2.1 0 ≠ 0) (x2 a b : Int32) : ∃ M2, Sx M2 (actR v (B.2.2.2.1 0) a b).1 (savB B v) ∧ ∀ kn, fL_B (some 0) x2 a b kn M = kn M2 (nI B.1) (toldF v) (actR v (B.2.2.2.1 0) a b).2 (toldF (actR v (B.2.2.2.1 0) a b).1) := by
  have g7 : fX2_count M (some 0) 7 = some (nI B.1) := g_count h (w := 7) (by decide)
  have g4 : fX2_count M (some 0) 4 = some (v 54) := g_count h (w := 4) (by decide)
  obtain ⟨M1, e1, s1⟩ := g_told h
  obtain ⟨M2, e2, s2⟩ := g_act s1 hk a b
  obtain ⟨M3, e3, s3⟩ := g_told s2
  have g7' : fX2_count M3 (some 0) 7 = some (nI (B.1 + 1)) := by
    have := g_count s3 (w := 7) (by decide)
    rw [← sav_1 h6 v]
    exact this
  have g4' : fX2_count M3 (some 0) 4 = some ((actR v (B.2.2.2.1 0) a b).1 54) := g_count s3 (w := 4) (by decide)
  refine ⟨M3, s3, fun kn => ?_⟩
  rw [fL_B, kk M h.hc, Option.bind_some, g7, Option.bind_some, Option.bind_some, g4, Option.bind_some, e1, Option.bind_some, e2, Option.bind_some, e3, Option.bind_some, kk M3 s3.hc, Option.bind_some, g7', Option.bind_some, if_pos (nI_1 B.1).symm]
  by_cases h1 : a &&& 15 ≤ 6
  · rw [if_pos h1]
  · rw [if_neg h1]
    by_cases h2 : 10 ≤ a &&& 15
    · rw [if_pos h2]
    · rw [if_neg h2, Option.bind_some, g4', Option.bind_some, if_pos (act_54 v (B.2.2.2.1 0) a b h1 h2)]
theorem p_C {M : Mem} {v : Nat → Int32} {B : BS} (h6 : B.1 < 6) (hk : B.2.2.1 0 ≠ 0) (x2 a b : Int32) (h : Sx M (actR v (B.2.2.2.1 0) a b).1 (savB B v)) : ∃ M2 B2, Sx M2 (actR v (B.2.2.2.1 0) a b).1 B2 ∧ B2.2.2 = B.2.2 ∧ ∀ kn, fL_C (some 0) x2 a b (nI B.1) (toldF v) (actR v (B.2.2.2.1 0) a b).2 (toldF (actR v (B.2.2.2.1 0) a b).1) kn M = kn M2 := by
  by_cases hc : ((a >>> ((10 : Int32) &&& 31)) &&& 1) = 0
  · obtain ⟨M1, e1, s1⟩ := o_undo h (sav_1 h6 v)
    have hv : (savB B v).2.1 B.1 = v := by
      show (if B.1 = min B.1 5 then v else _) = v
      rw [if_pos (by omega)]
    rw [hv] at s1
    obtain ⟨M2, e2, s2⟩ := g_told s1
    obtain ⟨M3, e3, s3⟩ : ∃ M3, fL_act M2 (some 0) a b = some (M3, (actR v (B.2.2.2.1 0) a b).2) ∧ Sx M3 (actR v (B.2.2.2.1 0) a b).1 (savB (B.1, (savB B v).2) v) := g_act s2 hk a b
    obtain ⟨M4, e4, s4⟩ := g_told s3
    refine ⟨M4, _, s4, rfl, fun kn => ?_⟩
    rw [fL_C, if_pos hc, kk M h.hc, Option.bind_some, e1, Option.bind_some, if_pos rfl, e2, Option.bind_some, if_pos ((lg_cmp_eq _ _).mpr rfl), e3, Option.bind_some, if_pos rfl, e4, Option.bind_some, if_pos ((lg_cmp_eq _ _).mpr rfl)]
  · exact ⟨M, _, h, rfl, fun kn => by rw [fL_C, if_neg hc]⟩
theorem p_D {M : Mem} {v : Nat → Int32} {B : BS} (h : Sx M v B) (x2 a b : Int32) : ∃ M2, Sx M2 v B ∧ ∀ kn, fL_D (some 0) x2 a b kn M = kn M2 (x2 + 1) := by
  have l5 : fL_low M (a >>> ((4 : Int32) &&& 31)) 5 = some (nI (lw (a >>> ((4 : Int32) &&& 31)) 5)) := g_low M _ (N := 5) (by decide) (by decide)
  have b5 : fL_low M (b >>> ((5 : Int32) &&& 31)) 5 = some (nI (lw (b >>> ((5 : Int32) &&& 31)) 5)) := g_low M _ (N := 5) (by decide) (by decide)
  obtain ⟨M2, e, s⟩ := g_holds h (lw_lt (a >>> ((4 : Int32) &&& 31)) (N := 5) (by decide)) (lw_lt (b >>> ((5 : Int32) &&& 31)) (N := 5) (by decide))
  refine ⟨M2, s, fun kn => ?_⟩
  rw [fL_D, l5, Option.bind_some, b5, Option.bind_some, e, Option.bind_some, if_neg (by decide : ¬ (1 : Int32) = 0)]
theorem loop_true (xs : Nat → Int32) {L : Nat} (hL : L ≤ 260) : ∀ j i n, i + j = 40 → j < n → ∀ M v B, Sx M v B → B.2.2.1 0 ≠ 0 → ∃ M1, fL_loop xs L (some 0) n M (nI i) = some (M1, 1) := by
  intro j
  induction j with
  | zero =>
    intro i n hi hn M v B h hk
    obtain ⟨n, rfl⟩ := suc_of hn
    have : i = 40 := by omega
    subst this
    exact ⟨M, by rw [fL_loop, fL_A, if_pos (by decide)]⟩
  | succ j ih =>
    intro i n hi hn M v B h hk
    obtain ⟨n, rfl⟩ := suc_of hn
    obtain ⟨M1, v1, B1, a, b, s1, h6, hB, e1⟩ := p_A xs hL (show i < 40 by omega) h
    have hk1 : B1.2.2.1 0 ≠ 0 := by rw [hB]; exact hk
    obtain ⟨M2, s2, e2⟩ := p_B s1 h6 hk1 (nI i) a b
    obtain ⟨M3, B3, s3, hB3, e3⟩ := p_C h6 hk1 (nI i) a b s2
    obtain ⟨M4, s4, e4⟩ := p_D s3 (nI i) a b
    have hk3 : B3.2.2.1 0 ≠ 0 := by rw [hB3]; exact hk1
    obtain ⟨M5, e5⟩ := ih (i + 1) n (by omega) (by omega) M4 _ _ s4 hk3
    refine ⟨M5, ?_⟩
    rw [fL_loop, e1, e2, e3, e4, nI_1, e5]
