/-! ===== put ===== -/
theorem x_deg {M : Mem} {c l : Nat} {w : Nat → Int32} {N : Mem} (h : Sv M c l w N) {n : Nat} (hn : n < 5) : fX3_degree N (some 117) (nI n) = some (nI (deg (rv w n))) := by
  rw [q_degree N h.1 hn, h.2.2.2.2.1]
theorem FrM.s {M : Mem} {w : Nat → Int32} : FrM M (setA M 118 w) := FrM.set (by decide)
theorem out_at {M : Mem} {c l : Nat} {v2 : Nat → Int32} {Mc : Mem} (h : Cs M c l v2 Mc) (y : Int64) : ∀ b, 117 ≤ b → b ≤ 122 → mI (out Mc y) b = mI M b := fun b h1 _ => (h.2.2.2 b h1).1
theorem x_refuse {M : Mem} {c l : Nat} {w : Nat → Int32} {N : Mem} (h : Sv M c l w N) (a : Int32) : fX3_refuses N (some 117) a = some (setA N 118 (uq w 55 (w 55 + 1)), a) := by
  rw [q_refuses N h.1, h.2.2.2.2.1]
theorem out_fin {M : Mem} (h : M.1 = 128) (x : Int64) : ((wJ M (some 126) 0 x).bind fun M3 => some (M3, (0 : Int32))) = some (out M x, 0) := by
  rw [out_w h, Option.bind_some]
  rfl
theorem v_put {M : Mem} (hI : Inv M) {n k : Nat} (hn : n < 5) (hk : k < 9) {s : Int32} (hs : sgn s) : Bth (fL_put M (some 0) (nI n) (nI k) s (some 126)) (fun M1 => fX3_put M1 (some 117) (nI n) (nI k) s) := by
  obtain ⟨c, l, hc6, h3, h7, ho, Mc, es, hC⟩ := cs_save hI
  have hc0 := hI.hc
  have hc := hC.hc
  obtain ⟨hr, er⟩ := hC.row hn
  have hz := hI.nz n hn
  have hal := alone (g := rv (mI M 118) n) hk s hz
  have hrvn : rv (uq (mI M 118) (9 * n + k) s) n = uq (rv (mI M 118) n) k s := by rw [rv_uq _ hk, if_pos rfl]
  have h8 := hI.ok.2.2.1.1
  have h9n : nzF (rv (mI M 118) n) 9 < 2 ^ 31 := by
    have : ∀ g : Nat → Int32, ∀ n, nzF g n ≤ n := by
      intro g n
      induction n with
      | zero => exact Nat.le_refl _
      | succ n ih => unfold nzF; split <;> omega
    have := this (rv (mI M 118) n) 9
    omega
  -- the model
  have xm : ∀ N, HM N → (∀ b, 117 ≤ b → b ≤ 122 → mI N b = mI M b) → ∃ N1, FrM N N1 ∧ Sv M c l (mI M 118) N1 ∧ fX3_put N (some 117) (nI n) (nI k) s = (if uq (rv (mI M 118) n) k s (deg (uq (rv (mI M 118) n) k s)) = 0 then some (setA N1 118 (uq (mI M 118) 55 (mI M 118 55 + 1)), -9) else some (setA N1 118 (uq (mI M 118) (9 * n + k) s), nI (deg (uq (rv (mI M 118) n) k s)))) := by
    intro N hN he
    obtain ⟨N1, e1, s1, f1⟩ := x_saves hN he hc6 h3 h7
    refine ⟨N1, f1, s1, ?_⟩
    have s2 : Sv M c l (uq (mI M 118) (9 * n + k) s) (setA N1 118 (uq (mI M 118) (9 * n + k) s)) := sv_set s1
    have s3 : Sv M c l (mI M 118) (setA N1 118 (mI M 118)) := sv_set s1
    have ed := x_deg s2 hn
    have eg := q_signAt _ s2.1 hn (k := deg (uq (rv (mI M 118) n) k s)) (by have := deg_lt (uq (rv (mI M 118) n) k s); omega)
    rw [s2.2.2.2.2.1, hrvn] at eg
    rw [hrvn] at ed
    have er := x_refuse s3 (-9)
    rw [fX3_put, mz N hN, Option.bind_some, (num_v _ hn).2, Option.bind_some, if_neg (by decide), (pow_v _ hk).2, Option.bind_some, if_neg (by decide), (sgn_v _ hs).2, Option.bind_some, if_neg (by decide), mok (zap N 0) hN, Option.bind_some, e1, Option.bind_some, mo1 N1 s1.1, Option.bind_some, ix9, moa N1 118 _ (by rw [lm6]; omega) s1.1, Option.bind_some, Option.bind_some, mow N1 118 _ _ (by rw [lm6]; omega) s1.1, Option.bind_some, s1.2.2.2.2.1, mok _ s2.1, Option.bind_some, ed, Option.bind_some, Option.bind_some, eg, Option.bind_some, mo1 _ s2.1, Option.bind_some, mow _ 118 _ _ (by rw [lm6]; omega) s2.1, Option.bind_some, setA_setA, mI_eq, uq_uq, uq_id, mok _ s3.1, Option.bind_some, er, Option.bind_some, Option.bind_some, Option.bind_some, setA_setA]
  by_cases hnz : Nz (uq (rv (mI M 118) n) k s)
  · -- it is written
    have hv2 := okv_row hI.ok hn hk hs hnz
    have hC2 : Cs M c l (uq (mI M 118) (9 * n + k) s) (setA Mc (1 + 2 + n) (uq (mI Mc (1 + 2 + n)) k s)) := hC.now (Fr.set ⟨by omega, by omega⟩) (rep_row hC.rep hn hk s)
    obtain ⟨hr2, er2⟩ := hC2.row hn
    have hMc : HM (setA Mc (1 + 2 + n) (uq (mI Mc (1 + 2 + n)) k s)) := hI.hm.frC hC2.2
    obtain ⟨N1, f2, s2, e2⟩ := xm (out (setA Mc (1 + 2 + n) (uq (mI Mc (1 + 2 + n)) k s)) (nI (deg (uq (rv (mI M 118) n) k s))).toInt64) hMc (out_at hC2 _)
    rw [if_neg (fun q => deg0.mp q hnz)] at e2
    refine Bth.s hI ho hC2 (y := nI (deg (uq (rv (mI M 118) n) k s))) ?_ e2 (f2.trans FrM.s) (sv_set s2) (eqv.refl _) hv2
    have ed := s_degreeOf hr2
    rw [er2, hrvn] at ed
    have hw := wI_w (M := Mc) (k := k) (v := s) hr hk
    rw [fL_put, kk M hc0, Option.bind_some, fX2_put, (num_v _ hn).1, Option.bind_some, thr_r, (pow_v _ hk).1, Option.bind_some, thr_r, (sgn_v _ hs).1, Option.bind_some, thr_r, kk M hc0, Option.bind_some, es, Option.bind_some, now_row hc hn, s_isAlone hr hk, er, hw]
    by_cases hs0 : s = 0
    · rw [if_pos hs0, Option.bind_some]
      have hq : (if rv (mI M 118) n k = 0 then (0 : Int32) else if nzF (rv (mI M 118) n) 9 = 1 then 1 else 0) = 0 := by
        by_cases hg : rv (mI M 118) n k = 0
        · rw [if_pos hg]
        · rw [if_neg hg, if_neg (fun q => (hal.mpr ⟨hs0, hg, q⟩) hnz)]
      rw [if_pos hq, Option.bind_some, ed, Option.bind_some, Option.bind_some, thr_r]
      exact out_fin hMc.1 _
    · rw [if_neg hs0, Option.bind_some, ed, Option.bind_some, Option.bind_some, thr_r]
      exact out_fin hMc.1 _
  · -- it is refused
    obtain ⟨hs0, hg, h1⟩ := hal.mp hnz
    have hC2 : Cs M c l (uq (mI M 118) 55 (mI M 118 55 + 1)) (setA Mc 1 (uq (mI Mc 1) 4 (mI M 118 55 + 1))) := hC.now (Fr.set ⟨by omega, by omega⟩) (rep_sc hC.rep h8 (Or.inr ⟨rfl, rfl⟩) _)
    have hMc : HM (setA Mc 1 (uq (mI Mc 1) 4 (mI M 118 55 + 1))) := hI.hm.frC hC2.2
    obtain ⟨N1, f2, s2, e2⟩ := xm (out (setA Mc 1 (uq (mI Mc 1) 4 (mI M 118 55 + 1))) (-9 : Int32).toInt64) hMc (out_at hC2 _)
    rw [if_pos (deg0.mpr hnz)] at e2
    refine Bth.s hI ho hC2 (y := -9) ?_ e2 (f2.trans FrM.s) (sv_set s2) (eqv.refl _) (okv_sc hI.ok (Or.inr rfl) _)
    rw [fL_put, kk M hc0, Option.bind_some, fX2_put, (num_v _ hn).1, Option.bind_some, thr_r, (pow_v _ hk).1, Option.bind_some, thr_r, (sgn_v _ hs).1, Option.bind_some, thr_r, kk M hc0, Option.bind_some, es, Option.bind_some, now_row hc hn, if_pos hs0, s_isAlone hr hk, er, if_neg hg, if_pos h1, Option.bind_some, if_neg (by decide), k0 Mc hc, Option.bind_some, bg Mc 1 4 blk_1 hc, Option.bind_some, bp Mc 1 4 _ blk_1 hc, Option.bind_some, Option.bind_some, thr_r, hC.rep.2.2.2.2]
    exact out_fin hMc.1 _
/-! ===== copy ===== -/
def cpV (v : Nat → Int32) (n m : Nat) : Nat → Int32 := bq v (9 * m) 9 (rv v n)
theorem rv_cp (v : Nat → Int32) {n m : Nat} (t : Nat) : rv (cpV v n m) t = if t = m then rv v n else rv v t := by
  funext j
  unfold cpV
  by_cases ht : t = m
  · rw [if_pos ht, ht]
    by_cases hj : j < 9
    · rw [rv_lt _ _ hj, bq_in _ _ _ _ hj]
    · rw [rv_9 _ _ (by omega), rv_9 _ _ (by omega)]
  · rw [if_neg ht]
    by_cases hj : j < 9
    · rw [rv_lt _ _ hj, rv_lt _ _ hj, bq_out _ _ _ _ (by omega)]
    · rw [rv_9 _ _ (by omega), rv_9 _ _ (by omega)]
theorem blk_hi (v : Nat → Int32) {m i : Nat} (hm : m < 5) (f : Nat → Int32) (hi : 45 ≤ i) : bq v (9 * m) 9 f i = v i := bq_out _ _ _ _ (by omega)
theorem okv_blk {v : Nat → Int32} (h : OkV v) {m : Nat} (hm : m < 5) {f : Nat → Int32} (hs : ∀ i, i < 9 → sgn (f i)) (hz : ∃ k, k < 9 ∧ f k ≠ 0) : OkV (bq v (9 * m) 9 f) := by
  obtain ⟨h1, h2, h3, h4⟩ := h
  have ec : cnt (bq v (9 * m) 9 f) = cnt v := by unfold cnt; rw [blk_hi v hm f (by decide)]
  refine ⟨fun i hi => ?_, fun t ht => ?_, ?_, fun i hi => ?_⟩
  · unfold bq
    by_cases hb : 9 * m ≤ i ∧ i < 9 * m + 9
    · rw [if_pos hb]; exact hs _ (by omega)
    · rw [if_neg hb]; exact h1 i hi
  · by_cases htm : t = m
    · obtain ⟨k, hk, hk2⟩ := hz
      refine ⟨k, hk, ?_⟩
      rw [rv_lt _ _ hk, htm, bq_in _ _ _ _ hk]; exact hk2
    · obtain ⟨k, hk, hk2⟩ := h2 t ht
      refine ⟨k, hk, ?_⟩
      rw [rv_lt _ _ hk] at hk2
      rw [rv_lt _ _ hk, bq_out _ _ _ _ (by omega)]; exact hk2
  · unfold OkC
    rw [ec, blk_hi v hm f (by decide)]; exact h3
  · rw [blk_hi v hm f (by omega)]; exact h4 i (by rw [← ec]; exact hi)
/-- a whole row of the state is written -/
theorem rep_blk {Mc M2 : Mem} {v : Nat → Int32} (h : Rep Mc 1 v) {m : Nat} (hm : m < 5) (f : Nat → Int32) (hf : Fr (fun b => b = 1 + 2 + m) Mc M2) (hr : ∀ k, k < 9 → mI M2 (1 + 2 + m) k = f k) : Rep M2 1 (bq v (9 * m) 9 f) := by
  obtain ⟨h1, h2, h3, h4, h5⟩ := h
  have ec : cnt (bq v (9 * m) 9 f) = cnt v := by unfold cnt; rw [blk_hi v hm f (by decide)]
  have e1 : mI M2 1 = mI Mc 1 := hf.2.2.2.2 1 (by omega)
  refine ⟨fun t ht => ?_, by rw [e1, blk_hi v hm f (by decide)]; exact h2, fun i hi => by rw [hf.2.2.2.2 _ (by omega), blk_hi v hm f (by omega)]; exact h3 i (by rw [← ec]; exact hi), by rw [e1, blk_hi v hm f (by decide)]; exact h4, by rw [e1, blk_hi v hm f (by decide)]; exact h5⟩
  by_cases htm : t = m
  · rw [htm]
    funext j
    by_cases hj : j < 9
    · rw [rv_lt _ _ hj, bq_in _ _ _ _ hj, rC, if_pos hj, hr j hj]
    · rw [rv_9 _ _ (by omega), rC, if_neg hj]
  · rw [rC_fr hf (by omega), h1 t ht]
    funext j
    by_cases hj : j < 9
    · rw [rv_lt _ _ hj, rv_lt _ _ hj, bq_out _ _ _ _ (by omega)]
    · rw [rv_9 _ _ (by omega), rv_9 _ _ (by omega)]
theorem v_copy {M : Mem} (hI : Inv M) {n m : Nat} (hn : n < 5) (hm : m < 5) : Bth (fL_copy M (some 0) (nI n) (nI m) (some 126)) (fun M1 => fX3_copy M1 (some 117) (nI n) (nI m)) := by
  obtain ⟨c, l, hc6, h3, h7, ho, Mc, es, hC⟩ := cs_save hI
  have hc0 := hI.hc
  have hc := hC.hc
  obtain ⟨hr, er⟩ := hC.row hn
  obtain ⟨hr2, er2⟩ := hC.row hm
  have hok : OkV (cpV (mI M 118) n m) := okv_blk hI.ok hm (fun i _ => hI.sg.row hn i) (hI.nz n hn)
  have hC2 : Cs M c l (cpV (mI M 118) n m) (setA Mc (1 + 2 + m) (bq (mI Mc (1 + 2 + m)) 0 9 (mI Mc (1 + 2 + n)))) := by
    refine hC.now (Fr.set ⟨by omega, by omega⟩) (rep_blk hC.rep hm _ (Fr.set rfl) (fun k hk => ?_))
    rw [mI_eq, bq, if_pos (by omega), ← er]
    exact mI_rC hk
  obtain ⟨hr3, er3⟩ := hC2.row hm
  have hrvm : rv (cpV (mI M 118) n m) m = rv (mI M 118) n := by rw [rv_cp, if_pos rfl]
  rw [hrvm] at er3
  have ed := s_degreeOf hr3
  rw [er3] at ed
  have hMc : HM (setA Mc (1 + 2 + m) (bq (mI Mc (1 + 2 + m)) 0 9 (mI Mc (1 + 2 + n)))) := hI.hm.frC hC2.2
  have xm : ∀ N, HM N → (∀ b, 117 ≤ b → b ≤ 122 → mI N b = mI M b) → ∃ N1, FrM N N1 ∧ Sv M c l (mI M 118) N1 ∧ fX3_copy N (some 117) (nI n) (nI m) = some (setA N1 118 (cpV (mI M 118) n m), nI (deg (rv (mI M 118) n))) := by
    intro N hN he
    obtain ⟨N1, e1, s1, f1⟩ := x_saves hN he hc6 h3 h7
    refine ⟨N1, f1, s1, ?_⟩
    have s2 : Sv M c l (cpV (mI M 118) n m) (setA N1 118 (cpV (mI M 118) n m)) := sv_set s1
    have edm := x_deg s2 hm
    rw [hrvm] at edm
    have h := s1.1
    have ev := s1.2.2.2.2.1
    have e := loopF (fX3_copy_31 (some 117) (nI n) (nI m)) 9 (fun i => setA N1 118 (bq (mI M 118) (9 * m) i (rv (mI M 118) n))) (fun i hi k q => by
      have e2 := bq_s (mI M 118) (9 * m) i (rv (mI M 118) n)
      rw [rv_lt _ _ hi] at e2
      have e3 : bq (mI M 118) (9 * m) i (rv (mI M 118) n) (9 * n + i) = mI M 118 (9 * n + i) := by
        by_cases hnm : n = m
        · rw [bq_out _ _ _ _ (by omega)]
        · rw [bq_out _ _ _ _ (by omega)]
      rw [fX3_copy_31, if_neg (ge9_f i hi), ix9, ix9]
      simp (disch := first | omega | (simp only [HM_setA, HM_setJ, h]; done) | (simp only [lm6, lm7, lm8, lm0, lm1, lm2]; omega)) only [mo1, mo2, mo4, mo5, mo6, mo8, mo9, mo11, mog, mop, mogJ, mopJ, mok, moa, mow, moaJ, mowJ, moaZ, mowZ, Option.bind_some, mI_eq, mI_ne, mJ_eq, mJ_ne, mI_setJ, mJ_setA, setA_setA, setJ_setJ, uq_eq, uq_ne, uq_uq, nI_1, e3, e2]) (fun k q => by rw [fX3_copy_31, if_pos ge9_t]) 9 0 FU rfl (fu_9 (by decide))
    rw [bq_0, ← ev, setA_id, ev, nI_0] at e
    rw [fX3_copy, mz N hN, Option.bind_some, (num_v _ hn).2, Option.bind_some, if_neg (by decide), (num_v _ hm).2, Option.bind_some, if_neg (by decide), mok (zap N 0) hN, Option.bind_some, e1, Option.bind_some, e, show bq (mI M 118) (9 * m) 9 (rv (mI M 118) n) = cpV (mI M 118) n m from rfl, mok _ s2.1, Option.bind_some, edm, Option.bind_some]
  obtain ⟨N1, f2, s2, e2⟩ := xm (out (setA Mc (1 + 2 + m) (bq (mI Mc (1 + 2 + m)) 0 9 (mI Mc (1 + 2 + n)))) (nI (deg (rv (mI M 118) n))).toInt64) hMc (out_at hC2 _)
  refine Bth.s hI ho hC2 (y := nI (deg (rv (mI M 118) n))) ?_ e2 (f2.trans FrM.s) (sv_set s2) (eqv.refl _) hok
  have hc2 := hC2.hc
  rw [fL_copy, kk M hc0, Option.bind_some, fX2_copy, (num_v _ hn).1, Option.bind_some, thr_r, (num_v _ hm).1, Option.bind_some, thr_r, kk M hc0, Option.bind_some, es, Option.bind_some, now_row hc hn, now_row hc hm, cp_9 hr hr2, Option.bind_some, now_row hc2 hm, ed, Option.bind_some, Option.bind_some, thr_r]
  exact out_fin hMc.1 _
