theorem aw (M : Mem) {k : Nat} (hk : k < 9) (h : HC0 M) : aJ M (some 13) (nI k) = some (mJ M 13 k) := aJ_at (h.lt (by decide)) rfl rfl hk (by decide)
theorem ww (M : Mem) {k : Nat} (v : Int64) (hk : k < 9) (h : HC0 M) : wJ M (some 13) (nI k) v = some (setJ M 13 (uq (mJ M 13) k v)) := (wJ_at (h.lt (by decide)) rfl rfl hk (by decide)).trans (congrArg some (sJ_setJ _ _ _ _))
theorem neg64 {x : Int32} (h : rtok x) (y : Int64) : (-x).toInt64 * y = 0 - x.toInt64 * y := by
  have h0 : ∀ n : Nat, n < 19 → (-(nI n - 9)).toInt64 = -((nI n - 9).toInt64) := by decide
  have h1 := le_i.mp h.1
  have h2 := le_i.mp h.2
  rw [show (-9 : Int32).toInt = -9 by decide] at h1
  rw [show (9 : Int32).toInt = 9 by decide] at h2
  obtain ⟨n, hn⟩ : ∃ n : Nat, x.toInt + 9 = n := ⟨(x.toInt + 9).toNat, by omega⟩
  have hx : x = nI n - 9 := by
    rw [← Int32.toInt_inj]
    have := pk_sub_toInt (a := n) (b := 9) (by omega) (by decide)
    rw [show nI n - 9 = nI n - nI 9 from rfl, this]
    omega
  rw [hx, h0 n (by omega), Int64.neg_mul, Int64.zero_sub]
theorem whW_0 (v : Nat → Int32) : ∀ i k, i < k → whW v i k = 0 := by
  intro i
  induction i with
  | zero => intro k hk; exact if_neg (by omega)
  | succ i ih =>
    intro k hk
    show mulW (v (46 + i)) (whW v i) k = 0
    unfold mulW
    rw [if_neg (by omega), ih (k - 1) (by omega), ih k (by omega), Int64.mul_zero, Int64.sub_zero]
theorem cut_uq (g : Nat → Int64) (x : Int32) (f : Nat → Int64) {j : Nat} (hj : j < 9) : uq (cutW g (parW x f (j + 1))) j (mulW x f j) = cutW g (parW x f j) := by
  funext k
  unfold uq cutW parW
  by_cases hk : k = j
  · subst hk; rw [if_pos rfl, if_pos (by omega), if_pos (Nat.le_refl _)]
  · rw [if_neg hk]
    by_cases h9 : k < 9
    · rw [if_pos h9, if_pos h9]
      by_cases h2 : j ≤ k
      · rw [if_pos h2, if_pos (by omega)]
      · rw [if_neg h2, if_neg (by omega)]
    · rw [if_neg h9, if_neg h9]
theorem cut_par (g : Nat → Int64) (x : Int32) (f : Nat → Int64) {j k : Nat} (hk : k < 9) (h : k < j) : cutW g (parW x f j) k = f k := by
  rw [cut_lt _ _ hk, parW, if_neg (by omega)]
theorem s_exp_51 (M : Mem) (h : HC0 M) {v : Nat → Int32} (hr : Rep M 1 v) {i : Nat} (hi : i < cnt v) (h8 : cnt v ≤ 8) (f : Nat → Int64) (hz : ∀ k, i < k → f k = 0) : ∀ k, fX2_expandWhole_51 (some 0) (nI i) k FU (setJ M 13 (cutW (mJ M 13) f)) (nI (i + 1)) = k (setJ M 13 (cutW (mJ M 13) (parW (v (46 + i)) f 1))) 0 := by
  have go : ∀ j n, j ≤ i + 1 → j < n → ∀ k, fX2_expandWhole_51 (some 0) (nI i) k n (setJ M 13 (cutW (mJ M 13) (parW (v (46 + i)) f (j + 1)))) (nI j) = k (setJ M 13 (cutW (mJ M 13) (parW (v (46 + i)) f 1))) 0 := by
    intro j
    induction j with
    | zero =>
      intro n hj hn k
      obtain ⟨n, rfl⟩ := suc_of hn
      rw [fX2_expandWhole_51, if_pos (by decide)]
      rfl
    | succ j ih =>
      intro n hj hn k
      obtain ⟨n, rfl⟩ := suc_of hn
      have hC : HC0 (setJ M 13 (cutW (mJ M 13) (parW (v (46 + i)) f (j + 1 + 1)))) := h
      rw [fX2_expandWhole_51, if_neg (nI_nle (by omega) (by omega)), k7 _ hC, Option.bind_some, Option.bind_some, nI_pred, aw _ (by omega) hC, Option.bind_some, k0 _ hC, Option.bind_some, bk1 _ 1 blk_1 hC, Option.bind_some, ba7 _ 1 i (by omega) blk_1 hC, Option.bind_some, Option.bind_some, aw _ (by omega) hC, Option.bind_some, ww _ _ (by omega) hC, Option.bind_some, setJ_setJ, mJ_eq, pk_m1, mI_setJ, hr.2.2.1 i hi, cut_par _ _ _ (by omega) (by omega), cut_par _ _ _ (by omega) (by omega)]
      rw [show f j - (v (46 + i)).toInt64 * f (j + 1) = mulW (v (46 + i)) f (j + 1) by unfold mulW; rw [if_neg (by omega), Nat.add_sub_cancel], cut_uq _ _ _ (by omega)]
      exact ih n (by omega) (by omega) k
  have ef : parW (v (46 + i)) f (i + 1 + 1) = f := by
    funext k
    unfold parW mulW
    by_cases hk : i + 1 + 1 ≤ k
    · rw [if_pos hk, if_neg (by omega), hz (k - 1) (by omega), hz k (by omega), Int64.mul_zero, Int64.sub_zero]
    · rw [if_neg hk]
  intro k
  have e := go (i + 1) FU (Nat.le_refl _) (fu_9 (by omega)) k
  rw [ef] at e
  exact e
theorem s_expand (M : Mem) (h : HC0 M) {v : Nat → Int32} (hr : Rep M 1 v) (hc : OkC v) (hk : ∀ i, i < cnt v → rtok (v (46 + i))) : fX2_expandWhole M (some 0) = some (setJ M 13 (cutW (mJ M 13) (whW v (cnt v)))) := by
  have hc1 := hc.1
  have e2 : mI M 1 2 = nI (cnt v) := by rw [hr.2.1, ← hc.2]
  unfold fX2_expandWhole
  have ez := loopF (fX2_expandWhole_2 (some 0)) 9 (fun i => setJ M 13 (bq (mJ M 13) 0 i (fun _ => 0))) (fun i hi k m => by
    have e2 := bq_s (mJ M 13) 0 i (fun _ => (0 : Int64))
    rw [Nat.zero_add] at e2
    have hC : HC0 (setJ M 13 (bq (mJ M 13) 0 i (fun _ => 0))) := h
    rw [fX2_expandWhole_2, if_neg (ge9_f i hi), k7 _ hC, Option.bind_some, ww _ _ hi hC, Option.bind_some, mJ_eq, setJ_setJ, e2, nI_1]) (fun k m => by rw [fX2_expandWhole_2, if_pos ge9_t]) 9 0 FU rfl (fu_9 (by decide))
  rw [bq_0, setJ_id, nI_0] at ez
  have eo : uq (bq (mJ M 13) 0 9 (fun _ => (0 : Int64))) 0 1 = cutW (mJ M 13) oneW := by
    funext k
    unfold uq bq cutW oneW
    by_cases h0 : k = 0
    · subst h0; rfl
    · rw [if_neg h0]
      by_cases h9 : k < 9
      · rw [if_pos (by omega), if_pos h9, if_neg h0]
      · rw [if_neg (by omega), if_neg h9]
  have hC : HC0 (setJ M 13 (bq (mJ M 13) 0 9 (fun _ => (0 : Int64)))) := h
  have e0 := ww (setJ M 13 (bq (mJ M 13) 0 9 (fun _ => (0 : Int64)))) (k := 0) 1 (by decide) h
  rw [nI_0, mJ_eq, setJ_setJ, eo] at e0
  rw [ez, k7 _ hC, Option.bind_some, e0, Option.bind_some]
  have e := loopF (fX2_expandWhole_30 (some 0)) (cnt v) (fun i => setJ M 13 (cutW (mJ M 13) (whW v i))) (fun i hi k m => by
    have hC : HC0 (setJ M 13 (cutW (mJ M 13) (whW v i))) := h
    have hC2 : HC0 (setJ M 13 (cutW (mJ M 13) (parW (v (46 + i)) (whW v i) 1))) := h
    have hw0 := ww (setJ M 13 (cutW (mJ M 13) (parW (v (46 + i)) (whW v i) 1))) (k := 0) ((-(v (46 + i))).toInt64 * whW v i 0) (by decide) h
    have ha0 := aw (setJ M 13 (cutW (mJ M 13) (parW (v (46 + i)) (whW v i) 1))) (k := 0) (by decide) h
    rw [nI_0, mJ_eq, cut_par _ _ _ (by decide) (by decide)] at ha0
    rw [nI_0, mJ_eq, setJ_setJ, neg64 (hk i hi), show (0 : Int64) - (v (46 + i)).toInt64 * whW v i 0 = mulW (v (46 + i)) (whW v i) 0 from rfl, cut_uq _ _ _ (by decide)] at hw0
    rw [fX2_expandWhole_30, k0 _ hC, Option.bind_some, bg _ 1 2 blk_1 hC, Option.bind_some, mI_setJ, e2, if_neg (ge_f hi (by omega)), if_neg (show ¬ (8 : Int32) ≤ nI i from ge_f (N := 8) (by omega) (by decide)), nI_1, s_exp_51 M h hr hi hc1 _ (whW_0 v i), k7 _ hC2, Option.bind_some, k0 _ hC2, Option.bind_some, bk1 _ 1 blk_1 hC2, Option.bind_some, ba7 _ 1 i (by omega) blk_1 hC2, Option.bind_some, Option.bind_some, ha0, Option.bind_some, mI_setJ, hr.2.2.1 i hi, neg64 (hk i hi), show (0 : Int64) - (v (46 + i)).toInt64 * whW v i 0 = mulW (v (46 + i)) (whW v i) 0 from rfl, hw0, Option.bind_some]
    rfl) (fun k m => by
    have hC : HC0 (setJ M 13 (cutW (mJ M 13) (whW v (cnt v)))) := h
    rw [fX2_expandWhole_30, k0 _ hC, Option.bind_some, bg _ 1 2 blk_1 hC, Option.bind_some, mI_setJ, e2, if_pos (nI_le (Nat.le_refl _) (by omega))]) (cnt v) 0 FU (by omega) (fu_9 (by omega))
  rw [nI_0] at e
  exact e _
