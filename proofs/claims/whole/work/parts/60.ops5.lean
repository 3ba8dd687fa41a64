/-! ===== operations that save ===== -/
def Sv (M : Mem) (c l : Nat) (w : Nat → Int32) (N : Mem) : Prop := HM N ∧ mI N 117 0 = 0 ∧ mI N 117 3 = nI (min c 5 + 1) ∧ mI N 117 7 = nI l ∧ mI N 118 = w ∧ mI N 119 = bq (if c = 6 then shf (mI M 119) else mI M 119) (56 * (min c 5)) 56 (mI M 118) ∧ mI N 120 = mI M 120 ∧ mI N 121 = mI M 121 ∧ mI N 122 = mI M 122
theorem sv_set {M : Mem} {c l : Nat} {w w2 : Nat → Int32} {N : Mem} (h : Sv M c l w N) : Sv M c l w2 (setA N 118 w2) := by
  obtain ⟨h1, h2, h3, h4, h5, h6, h7, h8, h9⟩ := h
  exact ⟨h1, h2, h3, h4, mI_eq _ _ _, by rw [mI_ne _ _ (by decide)]; exact h6, by rw [mI_ne _ _ (by decide)]; exact h7, by rw [mI_ne _ _ (by decide)]; exact h8, by rw [mI_ne _ _ (by decide)]; exact h9⟩
theorem sv_mq {M : Mem} {c l : Nat} {w : Nat → Int32} {N N2 : Mem} (h : Sv M c l w N) (hq : Mqy N N2) (h0 : mI N2 117 0 = mI N 117 0) : Sv M c l w N2 := by
  obtain ⟨h1, h2, h3, h4, h5, h6, h7, h8, h9⟩ := h
  obtain ⟨q1, q2, q3, q4⟩ := hq
  exact ⟨h1.frM q1, by rw [h0, h2], by rw [q2, h3], by rw [q3, h4], by rw [q4 118 (by decide) (by decide), h5], by rw [q4 119 (by decide) (by decide), h6], by rw [q4 120 (by decide) (by decide), h7], by rw [q4 121 (by decide) (by decide), h8], by rw [q4 122 (by decide) (by decide), h9]⟩
theorem x_saves {M N : Mem} {c l : Nat} (hN : HM N) (he : ∀ b, 117 ≤ b → b ≤ 122 → mI N b = mI M b) (hc : c ≤ 6) (h3 : mI M 117 3 = nI c) (h7 : mI M 117 7 = nI l) : ∃ N1, fX3_saves (zap N 0) (some 117) = some N1 ∧ Sv M c l (mI M 118) N1 ∧ FrM N N1 := by
  have e115 := he 117 (by decide) (by decide)
  have hz3 : mI (zap N 0) 117 3 = nI c := by rw [zap_k _ _ (by decide), e115, h3]
  refine ⟨savM (zap N 0) c, q_saves (zap N 0) hN hc hz3, ?_, (FrM.zap 0).trans ((FrM.set (by decide)).trans (FrM.set (by decide)))⟩
  unfold savM
  refine ⟨hN, ?_, ?_, ?_, ?_, ?_, ?_, ?_, ?_⟩
  · rw [mI_eq, uq_ne _ _ (by decide), zap_0]
  · rw [mI_eq, uq_eq]
  · rw [mI_eq, uq_ne _ _ (by decide), zap_k _ _ (by decide), e115, h7]
  · rw [mI_ne _ _ (by decide), mI_ne _ _ (by decide), zap_o _ _ (by decide), he 118 (by decide) (by decide)]
  · rw [mI_ne _ _ (by decide), mI_eq, zap_o _ _ (by decide), zap_o _ _ (by decide), he 118 (by decide) (by decide), he 119 (by decide) (by decide)]
  · rw [mI_ne _ _ (by decide), mI_ne _ _ (by decide), zap_o _ _ (by decide), he 120 (by decide) (by decide)]
  · rw [mI_ne _ _ (by decide), mI_ne _ _ (by decide), zap_o _ _ (by decide), he 121 (by decide) (by decide)]
  · rw [mI_ne _ _ (by decide), mI_ne _ _ (by decide), zap_o _ _ (by decide), he 122 (by decide) (by decide)]
/-- what the class has done: saved, and made v2 of the state -/
def Cs (M : Mem) (c l : Nat) (v2 : Nat → Int32) (Mc : Mem) : Prop := (∃ sp, CR Mc sp v2 (savB (BM M c l) (mI M 118))) ∧ FrC M Mc
theorem cs_save {M : Mem} (hI : Inv M) : ∃ c l, c ≤ 6 ∧ mI M 117 3 = nI c ∧ mI M 117 7 = nI l ∧ OkB (BM M c l) ∧ ∃ Mc, fX2_save M (some 0) = some Mc ∧ Cs M c l (mI M 118) Mc := by
  obtain ⟨sp, c, l, i1, i2, i3, i4, i5, i6⟩ := hI
  obtain ⟨Mc, sp2, e, r, f⟩ := s_save i4 i6.1 i5.2.2.1.1
  exact ⟨c, l, i6.1, i2, i3, i6, Mc, e, ⟨sp2, r⟩, f⟩
theorem Cs.hc {M : Mem} {c l : Nat} {v2 : Nat → Int32} {Mc : Mem} (h : Cs M c l v2 Mc) : HC0 Mc := by obtain ⟨⟨sp, h⟩, _⟩ := h; exact h.1
theorem Cs.rep {M : Mem} {c l : Nat} {v2 : Nat → Int32} {Mc : Mem} (h : Cs M c l v2 Mc) : Rep Mc 1 v2 := by obtain ⟨⟨sp, h⟩, _⟩ := h; exact h.2.2.1
theorem Cs.now {M : Mem} {c l : Nat} {v2 v3 : Nat → Int32} {Mc M2 : Mem} (h : Cs M c l v2 Mc) (hf : Fr (fun x => 1 ≤ x ∧ x < 9) Mc M2) (hr : Rep M2 1 v3) : Cs M c l v3 M2 := by
  obtain ⟨⟨sp, h1⟩, h2⟩ := h
  exact ⟨⟨sp, h1.now (show min c 5 + 1 ≤ 6 by omega) hf hr⟩, h2.trans (hf.frC (fun b hb q => by have := q.2; omega))⟩
theorem Cs.scr {M : Mem} {c l : Nat} {v2 : Nat → Int32} {Mc M2 : Mem} {S : Nat → Prop} (h : Cs M c l v2 Mc) (hf : Fr S Mc M2) (hs : ∀ b, S b → 81 ≤ b ∧ b < 117) : Cs M c l v2 M2 := by
  obtain ⟨⟨sp, h1⟩, h2⟩ := h
  exact ⟨⟨sp, h1.fr (show min c 5 + 1 ≤ 6 by omega) hf (fun b hb => (hs b hb).1)⟩, h2.trans (hf.frC (fun b hb q => by have := hs b q; omega))⟩
theorem Cs.whole {M : Mem} {c l : Nat} {v2 : Nat → Int32} {Mc : Mem} (h : Cs M c l v2 Mc) (f : Nat → Int64) : Cs M c l v2 (setJ Mc 13 f) := by
  obtain ⟨⟨sp, h1⟩, h2⟩ := h
  exact ⟨⟨sp, h1⟩, h2.1, h2.2.1, fun b hb => ⟨(h2.2.2 b hb).1, by rw [mJ_ne _ _ (by omega)]; exact (h2.2.2 b hb).2.1, (h2.2.2 b hb).2.2⟩⟩
theorem Cs.row {M : Mem} {c l : Nat} {v2 : Nat → Int32} {Mc : Mem} (h : Cs M c l v2 Mc) {n : Nat} (hn : n < 5) : Row Mc (1 + 2 + n) ∧ rC Mc (1 + 2 + n) = rv v2 n := ⟨bRow hn blk_1 h.hc, h.rep.1 n hn⟩
theorem Cs.at {M : Mem} {c l : Nat} {v2 : Nat → Int32} {Mc : Mem} (h : Cs M c l v2 Mc) {b : Nat} (hb : 117 ≤ b) : mI Mc b = mI M b := (h.2.2.2 b hb).1
theorem inv_of {M : Mem} {c l : Nat} {v2 w : Nat → Int32} {Mc M2 : Mem} (hI : Inv M) (ho : OkB (BM M c l)) (hC : ∃ sp, CR Mc sp v2 (savB (BM M c l) (mI M 118))) (hM : HM Mc) (hf : FrM Mc M2) (hv : Sv M c l w M2) (he : eqv v2 w) (o : OkV v2) : Inv M2 := by
  obtain ⟨sp, h1⟩ := hC
  obtain ⟨s1, s2, s3, s4, s5, s6, s7, s8, s9⟩ := hv
  exact Inv.sav h1 hM hf s3 s4 (s5 ▸ he) s6 s7 s8 s9 hI.ok o ho
theorem Bth.s {M : Mem} {c l : Nat} {v2 w : Nat → Int32} {Mc M2 : Mem} {y : Int32} {o1 : Option (Mem × Int32)} {o3 : Mem → Option (Mem × Int32)} (hI : Inv M) (ho : OkB (BM M c l)) (hC : Cs M c l v2 Mc) (h1 : o1 = some (out Mc y.toInt64, 0)) (h3 : o3 (out Mc y.toInt64) = some (M2, y)) (hf : FrM (out Mc y.toInt64) M2) (hv : Sv M c l w M2) (he : eqv v2 w) (o : OkV v2) : Bth o1 o3 := by
  have hM : HM Mc := hI.hm.frC hC.2
  have hI2 : Inv M2 := inv_of (Mc := out Mc y.toInt64) (v2 := v2) hI ho (hC.1.elim fun sp h => ⟨sp, h.out _⟩) hM hf hv he o
  exact ⟨_, M2, 0, y, h1, hM, h3, hv.2.1, fun _ => by rw [hf.2.2.2.2, out, mJ_eq, uq_eq], hI2⟩
/-! one sign of one row -/
theorem rv_uq (v : Nat → Int32) {n k : Nat} (hk : k < 9) (s : Int32) (m : Nat) : rv (uq v (9 * n + k) s) m = if m = n then uq (rv v n) k s else rv v m := by
  funext j
  unfold rv uq
  by_cases hm : m = n
  · subst hm
    rw [if_pos rfl]
    by_cases hj : j < 9
    · rw [if_pos hj]
      by_cases hjk : j = k
      · rw [if_pos (by omega), if_pos hjk]
      · rw [if_neg (by omega), if_neg hjk]
        exact (if_pos hj).symm
    · rw [if_neg hj, if_neg (by omega)]
      exact (if_neg hj).symm
  · rw [if_neg hm]
    by_cases hj : j < 9
    · rw [if_pos hj, if_neg (by omega), if_pos hj]
    · rw [if_neg hj, if_neg hj]
theorem nzF_uq (g : Nat → Int32) {k : Nat} (h : g k ≠ 0) : ∀ n, nzF (uq g k 0) n + (if k < n then 1 else 0) = nzF g n := by
  intro n
  induction n with
  | zero => rfl
  | succ n ih =>
    rw [nzF, nzF]
    by_cases hn : n = k
    · subst hn
      rw [if_neg (by omega)] at ih
      rw [uq_eq, if_pos rfl, if_pos (by omega), if_neg h]
      omega
    · rw [uq_ne _ _ hn]
      generalize (if g n = 0 then 0 else 1) = z
      by_cases hk : k < n
      · rw [if_pos hk] at ih
        rw [if_pos (by omega)]; omega
      · rw [if_neg hk] at ih
        rw [if_neg (by omega)]; omega
theorem nzF_0 (g : Nat → Int32) : ∀ n, nzF g n = 0 ↔ ∀ k, k < n → g k = 0 := by
  intro n
  induction n with
  | zero => exact ⟨fun _ k hk => by omega, fun _ => rfl⟩
  | succ n ih =>
    rw [nzF]
    constructor
    · intro h k hk
      by_cases hg : g n = 0
      · rw [if_pos hg] at h
        by_cases hkn : k = n
        · rw [hkn]; exact hg
        · exact (ih.mp (by omega)) k (by omega)
      · rw [if_neg hg] at h; omega
    · intro h
      rw [if_pos (h n (by omega)), ih.mpr (fun k hk => h k (by omega))]
theorem deg0 {g : Nat → Int32} : g (deg g) = 0 ↔ ¬ Nz g := by
  constructor
  · intro h hz; exact deg_ne hz h
  · intro h
    by_cases h0 : g (deg g) = 0
    · exact h0
    · exact absurd ⟨deg g, deg_lt g, h0⟩ h
/-- the row would be all 0 -/
theorem alone {g : Nat → Int32} {k : Nat} (hk : k < 9) (s : Int32) (hz : Nz g) : ¬ Nz (uq g k s) ↔ s = 0 ∧ g k ≠ 0 ∧ nzF g 9 = 1 := by
  constructor
  · intro h
    have hall : ∀ j, j < 9 → uq g k s j = 0 := fun j hj => by
      by_cases h0 : uq g k s j = 0
      · exact h0
      · exact absurd ⟨j, hj, h0⟩ h
    have hs : s = 0 := by have := hall k hk; rwa [uq_eq] at this
    have hg : g k ≠ 0 := by
      intro hg
      obtain ⟨j, hj, hj2⟩ := hz
      have := hall j hj
      by_cases hjk : j = k
      · rw [hjk] at hj2; exact hj2 hg
      · rw [uq_ne _ _ hjk] at this; exact hj2 this
    refine ⟨hs, hg, ?_⟩
    subst hs
    have := nzF_uq g hg 9
    rw [if_pos hk, (nzF_0 _ 9).mpr hall] at this
    exact this.symm
  · rintro ⟨rfl, hg, h1⟩ ⟨j, hj, hj2⟩
    have := nzF_uq g hg 9
    rw [if_pos hk, h1] at this
    exact hj2 ((nzF_0 _ 9).mp (by omega) j hj)
theorem okv_row {v : Nat → Int32} (h : OkV v) {n k : Nat} (hn : n < 5) (hk : k < 9) {s : Int32} (hs : sgn s) (hz : Nz (uq (rv v n) k s)) : OkV (uq v (9 * n + k) s) := by
  obtain ⟨h1, h2, h3, h4⟩ := h
  have ec : cnt (uq v (9 * n + k) s) = cnt v := by unfold cnt; rw [uq_ne _ _ (by omega)]
  refine ⟨fun i hi => ?_, fun m hm => ?_, ?_, fun i hi => ?_⟩
  · by_cases hik : i = 9 * n + k
    · rw [hik, uq_eq]; exact hs
    · rw [uq_ne _ _ hik]; exact h1 i hi
  · rw [rv_uq v hk]
    by_cases hmn : m = n
    · rw [if_pos hmn]; exact hz
    · rw [if_neg hmn]; exact h2 m hm
  · unfold OkC
    rw [ec, uq_ne _ _ (by omega)]; exact h3
  · rw [uq_ne _ _ (by omega)]; exact h4 i (by rw [← ec]; exact hi)
theorem okv_sc {v : Nat → Int32} (h : OkV v) {t : Nat} (ht : t = 54 ∨ t = 55) (x : Int32) : OkV (uq v t x) := by
  obtain ⟨h1, h2, h3, h4⟩ := h
  have ec : cnt (uq v t x) = cnt v := by unfold cnt; rw [uq_ne _ _ (by omega)]
  refine ⟨fun i hi => by rw [uq_ne _ _ (by omega)]; exact h1 i hi, fun m hm => ?_, ?_, fun i hi => ?_⟩
  · have e : rv (uq v t x) m = rv v m := by
      funext j
      unfold rv
      by_cases hj : j < 9
      · rw [if_pos hj, if_pos hj, uq_ne _ _ (by omega)]
      · rw [if_neg hj, if_neg hj]
    rw [e]; exact h2 m hm
  · unfold OkC
    rw [ec, uq_ne _ _ (by omega)]; exact h3
  · rw [uq_ne _ _ (by have := h3.1; omega)]; exact h4 i (by rw [← ec]; exact hi)
theorem rv_sc (v : Nat → Int32) {t : Nat} (ht : 45 ≤ t) (x : Int32) {m : Nat} (hm : m < 5) : rv (uq v t x) m = rv v m := by
  funext j
  unfold rv
  by_cases hj : j < 9
  · rw [if_pos hj, if_pos hj, uq_ne _ _ (by omega)]
  · rw [if_neg hj, if_neg hj]
/-- the class writes one sign -/
theorem rep_row {Mc : Mem} {v : Nat → Int32} (h : Rep Mc 1 v) {n k : Nat} (hn : n < 5) (hk : k < 9) (s : Int32) : Rep (setA Mc (1 + 2 + n) (uq (mI Mc (1 + 2 + n)) k s)) 1 (uq v (9 * n + k) s) := by
  obtain ⟨h1, h2, h3, h4, h5⟩ := h
  have ec : cnt (uq v (9 * n + k) s) = cnt v := by unfold cnt; rw [uq_ne _ _ (by omega)]
  refine ⟨fun m hm => ?_, by rw [mI_ne _ _ (by omega), uq_ne _ _ (by omega)]; exact h2, fun i hi => by rw [mI_ne _ _ (by omega), uq_ne _ _ (by omega)]; exact h3 i (by rw [← ec]; exact hi), by rw [mI_ne _ _ (by omega), uq_ne _ _ (by omega)]; exact h4, by rw [mI_ne _ _ (by omega), uq_ne _ _ (by omega)]; exact h5⟩
  rw [rv_uq v hk]
  by_cases hmn : m = n
  · rw [if_pos hmn, hmn, ← h1 n hn]
    funext j
    unfold rC uq
    by_cases hj : j < 9
    · rw [if_pos hj]
      show mI (setA Mc (1 + 2 + n) _) (1 + 2 + n) j = _
      rw [mI_eq]
      by_cases hjk : j = k
      · rw [if_pos hjk, if_pos hjk]
      · rw [if_neg hjk, if_neg hjk]
        exact (if_pos hj).symm
    · rw [if_neg hj, if_neg (by omega)]
      exact (if_neg hj).symm
  · rw [if_neg hmn, ← h1 m hm]
    unfold rC
    rw [mI_ne _ _ (by omega)]
/-- the class counts a refusal, or a taken one -/
theorem rep_sc {Mc : Mem} {v : Nat → Int32} (h : Rep Mc 1 v) (hc : cnt v ≤ 8) {f t : Nat} (hf : (f = 3 ∧ t = 54) ∨ (f = 4 ∧ t = 55)) (x : Int32) : Rep (setA Mc 1 (uq (mI Mc 1) f x)) 1 (uq v t x) := by
  obtain ⟨h1, h2, h3, h4, h5⟩ := h
  have ec : cnt (uq v t x) = cnt v := by unfold cnt; rw [uq_ne _ _ (by omega)]
  refine ⟨fun m hm => ?_, by rw [mI_eq, uq_ne _ _ (by omega), uq_ne _ _ (by omega)]; exact h2, fun i hi => ?_, ?_, ?_⟩
  · rw [rv_sc _ (by omega) _ hm, ← h1 m hm]
    unfold rC
    rw [mI_ne _ _ (by omega)]
  · rw [ec] at hi
    rw [mI_ne _ _ (by omega), uq_ne _ _ (by omega)]; exact h3 i hi
  · rcases hf with ⟨rfl, rfl⟩ | ⟨rfl, rfl⟩
    · rw [mI_eq, uq_eq, uq_eq]
    · rw [mI_eq, uq_ne _ _ (by decide), uq_ne _ _ (by decide)]; exact h4
  · rcases hf with ⟨rfl, rfl⟩ | ⟨rfl, rfl⟩
    · rw [mI_eq, uq_ne _ _ (by decide), uq_ne _ _ (by decide)]; exact h5
    · rw [mI_eq, uq_eq, uq_eq]
