def blk (b : Nat) : Bool := b == 1 || (decide (17 ≤ b) && decide (b ≤ 73) && (b - 17) % 8 == 0)
theorem blk_k : ∀ b : Nat, b < 74 → blk b = true → kd b = 1 ∧ (kd (b + 1) = 9 ∧ ln (b + 1) = 5) ∧ (kd (b + 7) = 4 ∧ ln (b + 7) = 8) ∧ ∀ n : Nat, n < 5 → kd (b + 2 + n) = 4 ∧ ln (b + 2 + n) = 9 := by decide
theorem blk_lt {b : Nat} (h : blk b = true) : b < 74 := by
  simp only [blk, Bool.or_eq_true, Bool.and_eq_true, beq_iff_eq, decide_eq_true_eq] at h
  omega
theorem blk_ap {b c : Nat} (h : blk b = true) (h2 : blk c = true) (hn : b ≠ c) : b + 8 ≤ c ∨ c + 8 ≤ b := by
  simp only [blk, Bool.or_eq_true, Bool.and_eq_true, beq_iff_eq, decide_eq_true_eq] at h h2
  omega
theorem blk_1 : blk 1 = true := rfl
theorem blk_s {j : Nat} (h : j < 6) : blk (17 + 8 * j) = true := by
  simp only [blk, Bool.or_eq_true, Bool.and_eq_true, beq_iff_eq, decide_eq_true_eq]
  omega
theorem blk_t {s : Nat} (h : s < 2) : blk (65 + 8 * s) = true := by
  simp only [blk, Bool.or_eq_true, Bool.and_eq_true, beq_iff_eq, decide_eq_true_eq]
  omega
def StB (R : Nat → Nat → Option Nat) (b : Nat) : Prop := R b 0 = some (b + 1) ∧ R b 1 = some (b + 7) ∧ ∀ n, n < 5 → R (b + 1) n = some (b + 2 + n)
def HC0 (M : Mem) : Prop := M.1 = 117 ∧ (mR M 0 0 = some 1 ∧ mR M 0 1 = some 9 ∧ mR M 0 3 = some 10 ∧ mR M 0 4 = some 11 ∧ mR M 0 5 = some 12 ∧ mR M 0 7 = some 13) ∧ HV M ∧ (∀ b, blk b = true → StB (mR M) b) ∧ (∀ s, s < 2 → mR M 10 s = some (65 + 8 * s))
def SpM (M : Mem) (sp : Nat → Nat) : Prop := (∀ j, j < 6 → mR M 9 j = some (17 + 8 * sp j) ∧ sp j < 6) ∧ (∀ i j, i < 6 → j < 6 → sp i = sp j → i = j)
theorem HC0.fr {S : Nat → Prop} {M M2 : Mem} (h : HC0 M) (hf : Fr S M M2) : HC0 M2 := by
  obtain ⟨h1, h2, h3, h4, h5⟩ := h
  unfold HC0
  rw [hf.1, hf.2.2.1]
  exact ⟨h1, h2, h3.fr hf, h4, h5⟩
theorem SpM.fr {S : Nat → Prop} {M M2 : Mem} {sp : Nat → Nat} (h : SpM M sp) (hf : Fr S M M2) : SpM M2 sp := by
  unfold SpM
  rw [hf.2.2.1]
  exact h
theorem HC0.lt {M : Mem} (h : HC0 M) {k : Nat} (hk : k < 117) : k < M.1 := h.1 ▸ hk
theorem k0 (M : Mem) (h : HC0 M) : gR 2 0 M (some 0) = some (some 1) := (gR_at (h.lt (by decide)) rfl).trans (congrArg some h.2.1.1)
theorem k1 (M : Mem) (h : HC0 M) : gR 2 1 M (some 0) = some (some 9) := (gR_at (h.lt (by decide)) rfl).trans (congrArg some h.2.1.2.1)
theorem k3 (M : Mem) (h : HC0 M) : gR 2 3 M (some 0) = some (some 10) := (gR_at (h.lt (by decide)) rfl).trans (congrArg some h.2.1.2.2.1)
theorem k4 (M : Mem) (h : HC0 M) : gR 2 4 M (some 0) = some (some 11) := (gR_at (h.lt (by decide)) rfl).trans (congrArg some h.2.1.2.2.2.1)
theorem k5 (M : Mem) (h : HC0 M) : gR 2 5 M (some 0) = some (some 12) := (gR_at (h.lt (by decide)) rfl).trans (congrArg some h.2.1.2.2.2.2.1)
theorem k7 (M : Mem) (h : HC0 M) : gR 2 7 M (some 0) = some (some 13) := (gR_at (h.lt (by decide)) rfl).trans (congrArg some h.2.1.2.2.2.2.2)
theorem kg (M : Mem) (k : Nat) (h : HC0 M) : gI 2 k M (some 0) = some (mI M 0 k) := gI_at (h.lt (by decide)) rfl
theorem kp (M : Mem) (k : Nat) (v : Int32) (h : HC0 M) : pI 2 k M (some 0) v = some (setA M 0 (uq (mI M 0) k v)) := (pI_at (h.lt (by decide)) rfl).trans (congrArg some (sI_setA _ _ _ _))
theorem kk (M : Mem) (h : HC0 M) : ck 2 M (some 0) = some () := ck_at (h.lt (by decide)) rfl
theorem bk (M : Mem) (b : Nat) (hb : blk b = true) (h : HC0 M) : ck 1 M (some b) = some () := ck_at (h.lt (by have := blk_lt hb; omega)) (blk_k b (blk_lt hb) hb).1
theorem bg (M : Mem) (b k : Nat) (hb : blk b = true) (h : HC0 M) : gI 1 k M (some b) = some (mI M b k) := gI_at (h.lt (by have := blk_lt hb; omega)) (blk_k b (blk_lt hb) hb).1
theorem bp (M : Mem) (b k : Nat) (v : Int32) (hb : blk b = true) (h : HC0 M) : pI 1 k M (some b) v = some (setA M b (uq (mI M b) k v)) := (pI_at (h.lt (by have := blk_lt hb; omega)) (blk_k b (blk_lt hb) hb).1).trans (congrArg some (sI_setA _ _ _ _))
theorem bk0 (M : Mem) (b : Nat) (hb : blk b = true) (h : HC0 M) : gR 1 0 M (some b) = some (some (b + 1)) := (gR_at (h.lt (by have := blk_lt hb; omega)) (blk_k b (blk_lt hb) hb).1).trans (congrArg some (h.2.2.2.1 b hb).1)
theorem bk1 (M : Mem) (b : Nat) (hb : blk b = true) (h : HC0 M) : gR 1 1 M (some b) = some (some (b + 7)) := (gR_at (h.lt (by have := blk_lt hb; omega)) (blk_k b (blk_lt hb) hb).1).trans (congrArg some (h.2.2.2.1 b hb).2.1)
theorem bkr (M : Mem) (b n : Nat) (hn : n < 5) (hb : blk b = true) (h : HC0 M) : aR 9 M (some (b + 1)) (nI n) = some (some (b + 2 + n)) := (aR_at (h.lt (by have := blk_lt hb; omega)) (blk_k b (blk_lt hb) hb).2.1.1 (blk_k b (blk_lt hb) hb).2.1.2 hn (by decide)).trans (congrArg some ((h.2.2.2.1 b hb).2.2 n hn))
theorem bRow {M : Mem} {b n : Nat} (hn : n < 5) (hb : blk b = true) (h : HC0 M) : Row M (b + 2 + n) := ⟨h.lt (by have := blk_lt hb; omega), (blk_k b (blk_lt hb) hb).2.2.2 n hn⟩
theorem ba7 (M : Mem) (b k : Nat) (hk : k < 8) (hb : blk b = true) (h : HC0 M) : aI M (some (b + 7)) (nI k) = some (mI M (b + 7) k) := aI_at (h.lt (by have := blk_lt hb; omega)) (blk_k b (blk_lt hb) hb).2.2.1.1 (blk_k b (blk_lt hb) hb).2.2.1.2 hk (by decide)
theorem bw7 (M : Mem) (b k : Nat) (v : Int32) (hk : k < 8) (hb : blk b = true) (h : HC0 M) : wI M (some (b + 7)) (nI k) v = some (setA M (b + 7) (uq (mI M (b + 7)) k v)) := (wI_at (h.lt (by have := blk_lt hb; omega)) (blk_k b (blk_lt hb) hb).2.2.1.1 (blk_k b (blk_lt hb) hb).2.2.1.2 hk (by decide)).trans (congrArg some (sI_setA _ _ _ _))
theorem ksl (M : Mem) (s : Nat) (hs : s < 2) (h : HC0 M) : aR 8 M (some 10) (nI s) = some (some (65 + 8 * s)) := (aR_at (h.lt (by decide)) rfl rfl hs (by decide)).trans (congrArg some (h.2.2.2.2 s hs))
theorem ksv {M : Mem} {sp : Nat → Nat} (h : HC0 M) (hp : SpM M sp) {j : Nat} (hj : j < 6) : aR 8 M (some 9) (nI j) = some (some (17 + 8 * sp j)) := (aR_at (h.lt (by decide)) rfl rfl hj (by decide)).trans (congrArg some (hp.1 j hj).1)
/-- a state's cells say a view -/
def Rep (M : Mem) (b : Nat) (v : Nat → Int32) : Prop := (∀ n, n < 5 → rC M (b + 2 + n) = rv v n) ∧ mI M b 2 = v 45 ∧ (∀ i, i < cnt v → mI M (b + 7) i = v (46 + i)) ∧ mI M b 3 = v 54 ∧ mI M b 4 = v 55
theorem Rep.fr {M M2 : Mem} {S : Nat → Prop} {b : Nat} {v : Nat → Int32} (h : Rep M b v) (hf : Fr S M M2) (hs : ∀ x, b ≤ x → x < b + 8 → ¬ S x) : Rep M2 b v := by
  obtain ⟨h1, h2, h3, h4, h5⟩ := h
  have e : mI M2 b = mI M b := hf.2.2.2.2 b (hs b (Nat.le_refl _) (by omega))
  refine ⟨fun n hn => ?_, by rw [e, h2], fun i hi => ?_, by rw [e, h4], by rw [e, h5]⟩
  · rw [rC_fr hf (hs _ (by omega) (by omega))]; exact h1 n hn
  · rw [hf.2.2.2.2 _ (hs _ (by omega) (by omega))]; exact h3 i hi
/-- two views that say the same -/
def eqv (v w : Nat → Int32) : Prop := ∀ i, i < 56 → (i < 46 ∨ 54 ≤ i ∨ i - 46 < cnt v) → v i = w i
theorem eqv.cnt {v w : Nat → Int32} (h : eqv v w) : cnt v = cnt w := by
  have := h 45 (by decide) (Or.inl (by decide))
  show (v 45).toNatClampNeg = (w 45).toNatClampNeg
  rw [this]
theorem eqv.rv {v w : Nat → Int32} (h : eqv v w) {n : Nat} (hn : n < 5) : rv v n = rv w n := by
  funext k
  show (if k < 9 then v (9 * n + k) else 0) = (if k < 9 then w (9 * n + k) else 0)
  split
  · exact h _ (by omega) (Or.inl (by omega))
  · rfl
theorem Rep.cg {M : Mem} {b : Nat} {v w : Nat → Int32} (h : Rep M b v) (he : eqv v w) (hc : cnt v ≤ 8) : Rep M b w := by
  obtain ⟨h1, h2, h3, h4, h5⟩ := h
  refine ⟨fun n hn => by rw [h1 n hn, he.rv hn], by rw [h2]; exact he 45 (by decide) (Or.inl (by decide)), fun i hi => ?_, by rw [h4]; exact he 54 (by decide) (Or.inr (Or.inl (by decide))), by rw [h5]; exact he 55 (by decide) (Or.inr (Or.inl (by decide)))⟩
  rw [← he.cnt] at hi
  rw [h3 i hi]
  exact he (46 + i) (by omega) (Or.inr (Or.inr (by omega)))
theorem mI_rC {M : Mem} {a k : Nat} (hk : k < 9) : mI M a k = rC M a k := by unfold rC; rw [if_pos hk]
theorem rC_bq {M : Mem} {a b : Nat} : rC (setA M b (bq (mI M b) 0 9 (mI M a))) b = rC M a := by
  funext k
  unfold rC
  by_cases hk : k < 9
  · rw [if_pos hk, if_pos hk, mI_eq, bq, if_pos (by omega)]; rfl
  · rw [if_neg hk, if_neg hk]
theorem s_takeOver {M : Mem} (h : HC0 M) {b b2 : Nat} (hb : blk b = true) (hb2 : blk b2 = true) (hne : b ≠ b2) {v : Nat → Int32} (hv : Rep M b2 v) (hc : cnt v ≤ 8) : ∃ M2, fX1_takeOver M (some b) (some b2) = some M2 ∧ Rep M2 b v ∧ Fr (fun x => b ≤ x ∧ x < b + 8) M M2 := by
  have hap := blk_ap hb hb2 hne
  -- the rows, one after another
  have rows : ∀ j i n (M1 : Mem), i + j = 5 → j < n → Fr (fun x => b ≤ x ∧ x < b + 8) M M1 → (∀ t, t < i → rC M1 (b + 2 + t) = rv v t) → ∃ M2, (∀ k, fX1_takeOver_2 (some b) (some b2) k n M1 (nI i) = k M2 (nI 5)) ∧ Fr (fun x => b ≤ x ∧ x < b + 8) M M2 ∧ (∀ t, t < 5 → rC M2 (b + 2 + t) = rv v t) := by
    intro j
    induction j with
    | zero =>
      intro i n M1 hi hn hf hr
      obtain ⟨n, rfl⟩ := suc_of hn
      have : i = 5 := by omega
      subst this
      exact ⟨M1, fun k => by rw [fX1_takeOver_2, if_pos (by decide)], hf, hr⟩
    | succ j ih =>
      intro i n M1 hi hn hf hr
      obtain ⟨n, rfl⟩ := suc_of hn
      have h1 : HC0 M1 := h.fr hf
      have f2 : Fr (fun x => b ≤ x ∧ x < b + 8) M1 (setA M1 (b + 2 + i) (bq (mI M1 (b + 2 + i)) 0 9 (mI M1 (b2 + 2 + i)))) := Fr.set ⟨by omega, by omega⟩
      obtain ⟨M2, e2, hf2, hr2⟩ := ih (i + 1) n _ (by omega) (by omega) (hf.trans f2) (fun t ht => by
        by_cases hti : t = i
        · rw [hti, rC_bq, rC_fr hf (fun q => by have := q.1; have := q.2; omega)]
          exact hv.1 i (by omega)
        · have f3 : Fr (fun x => x = b + 2 + i) M1 (setA M1 (b + 2 + i) (bq (mI M1 (b + 2 + i)) 0 9 (mI M1 (b2 + 2 + i)))) := Fr.set rfl
          rw [rC_fr f3 (by omega)]
          exact hr t (by omega))
      refine ⟨M2, fun k => ?_, hf2, hr2⟩
      rw [fX1_takeOver_2, if_neg (lt5_f i (by omega)), bk0 M1 b2 hb2 h1, Option.bind_some, bkr M1 b2 i (by omega) hb2 h1, Option.bind_some, bk0 M1 b hb h1, Option.bind_some, bkr M1 b i (by omega) hb h1, Option.bind_some, cp_9 (bRow (by omega) hb2 h1) (bRow (by omega) hb h1), Option.bind_some, nI_1]
      exact e2 k
  obtain ⟨M1, e1, f1, r1⟩ := rows 5 0 FU M rfl (fu_9 (by decide)) (Fr.refl _ _) (fun t ht => by omega)
  have h1 : HC0 M1 := h.fr f1
  have ecp : cpI M1 (some (b2 + 7)) 0 (some (b + 7)) 0 8 = some (setA M1 (b + 7) (bq (mI M1 (b + 7)) 0 8 (mI M1 (b2 + 7)))) :=
    cp_n (n := 8) ⟨h1.lt (by have := blk_lt hb2; omega), (blk_k b2 (blk_lt hb2) hb2).2.2.1.1⟩ ⟨h1.lt (by have := blk_lt hb; omega), (blk_k b (blk_lt hb) hb).2.2.1.1⟩ (by rw [(blk_k b2 (blk_lt hb2) hb2).2.2.1.2]; decide) (by rw [(blk_k b (blk_lt hb) hb).2.2.1.2]; decide) (by decide)
  generalize hM2 : setA M1 (b + 7) (bq (mI M1 (b + 7)) 0 8 (mI M1 (b2 + 7))) = M2 at ecp
  have f2 : Fr (fun x => x = b + 7) M1 M2 := hM2 ▸ Fr.set rfl
  have h2 : HC0 M2 := h1.fr f2
  have g2 : mI M2 b2 = mI M b2 := by rw [f2.2.2.2.2 _ (by omega), f1.2.2.2.2 _ (fun q => by have := q.1; have := q.2; omega)]
  have g7 : mI M1 (b2 + 7) = mI M (b2 + 7) := f1.2.2.2.2 _ (fun q => by have := q.1; have := q.2; omega)
  unfold fX1_takeOver
  rw [← nI_0, e1, bk1 M1 b2 hb2 h1, Option.bind_some, bk1 M1 b hb h1, Option.bind_some, nI_0, ecp, Option.bind_some, bg M2 b2 2 hb2 h2, Option.bind_some, bp M2 b 2 _ hb h2, Option.bind_some]
  generalize hM3 : setA M2 b (uq (mI M2 b) 2 (mI M2 b2 2)) = M3
  have f3 : Fr (fun x => x = b) M2 M3 := hM3 ▸ Fr.set rfl
  have h3 : HC0 M3 := h2.fr f3
  have g3 : mI M3 b2 = mI M b2 := by rw [f3.2.2.2.2 _ (Ne.symm hne), g2]
  rw [bg M3 b2 3 hb2 h3, Option.bind_some, bp M3 b 3 _ hb h3, Option.bind_some]
  generalize hM4 : setA M3 b (uq (mI M3 b) 3 (mI M3 b2 3)) = M4
  have f4 : Fr (fun x => x = b) M3 M4 := hM4 ▸ Fr.set rfl
  have h4 : HC0 M4 := h3.fr f4
  have g4 : mI M4 b2 = mI M b2 := by rw [f4.2.2.2.2 _ (Ne.symm hne), g3]
  rw [bg M4 b2 4 hb2 h4, Option.bind_some, bp M4 b 4 _ hb h4, Option.bind_some]
  generalize hM5 : setA M4 b (uq (mI M4 b) 4 (mI M4 b2 4)) = M5
  have f5 : Fr (fun x => x = b) M4 M5 := hM5 ▸ Fr.set rfl
  have fb : Fr (fun x => x = b) M2 M5 := f3.trans (f4.trans f5)
  refine ⟨M5, rfl, ?_, f1.trans ((f2.mono (fun x hx => ⟨by omega, by omega⟩)).trans (fb.mono (fun x hx => ⟨by omega, by omega⟩)))⟩
  have e5 : mI M5 b = uq (uq (uq (mI M2 b) 2 (mI M b2 2)) 3 (mI M b2 3)) 4 (mI M b2 4) := by
    rw [← hM5, mI_eq, g4, ← hM4, mI_eq, g3, ← hM3, mI_eq, g2]
  refine ⟨fun n hn => ?_, ?_, fun i hi => ?_, ?_, ?_⟩
  · rw [rC_fr fb (by omega), rC_fr f2 (by omega)]; exact r1 n hn
  · rw [e5, uq_ne _ _ (by decide), uq_ne _ _ (by decide), uq_eq]; exact hv.2.1
  · rw [fb.2.2.2.2 _ (by omega), ← hM2, mI_eq, bq, if_pos (by omega), g7]; exact hv.2.2.1 i hi
  · rw [e5, uq_ne _ _ (by decide), uq_eq]; exact hv.2.2.2.1
  · rw [e5, uq_eq]; exact hv.2.2.2.2
