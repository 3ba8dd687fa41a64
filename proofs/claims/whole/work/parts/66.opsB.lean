/-! ===== keep, goBack, undo ===== -/
def dgs (v : Nat → Int32) : Nat → Nat
  | 0 => 0
  | i + 1 => dgs v i + deg (rv v i)
theorem s_degs {M : Mem} (hc : HC0 M) {v : Nat → Int32} (hr : Rep M 1 v) : fX2_degreesTogether M (some 0) = some (nI (dgs v 5)) := by
  unfold fX2_degreesTogether
  have e := loopA (fX2_degreesTogether_4 M (some 0)) 5 (fun i => nI (dgs v i)) (fun i hi k m => by
    have f1 := s_degreeOf (bRow hi blk_1 hc)
    rw [hr.1 i hi] at f1
    rw [fX2_degreesTogether_4, if_neg (lt5_f i hi), now_row hc hi, f1, Option.bind_some, nI_1, nI_add]
    rfl) (fun k m => by rw [fX2_degreesTogether_4, if_pos (by decide)]) 5 0 FU rfl (fu_9 (by decide))
  exact e _
theorem q_degs {M : Mem} (h : HM M) : fX3_degrees M (some 117) = some (nI (dgs (mI M 118) 5)) := by
  unfold fX3_degrees
  have e := loopA (fX3_degrees_4 M (some 117)) 5 (fun i => nI (dgs (mI M 118) i)) (fun i hi k m => by
    rw [fX3_degrees_4, if_neg (lt5_f i hi), mok M h, Option.bind_some, q_degree M h hi, Option.bind_some, nI_1, nI_add]
    rfl) (fun k m => by rw [fX3_degrees_4, if_pos (by decide)]) 5 0 FU rfl (fu_9 (by decide))
  exact e _
theorem dgs_cg {v w : Nat → Int32} (h : ∀ t, t < 5 → rv v t = rv w t) : ∀ n, n ≤ 5 → dgs v n = dgs w n := by
  intro n
  induction n with
  | zero => intro _; rfl
  | succ n ih => intro hn; rw [dgs, dgs, ih (by omega), h n (by omega)]
theorem v_keep {M : Mem} (hI : Inv M) {s : Nat} (hs : s < 2) : Bth (fL_keep M (some 0) (nI s) (some 126)) (fun M1 => fX3_keep M1 (some 117) (nI s)) := by
  have hc := hI.hc
  obtain ⟨sp, c, l, i1, i3, i7, i4, i5, i6⟩ := hI
  obtain ⟨a1, a2, a3, a4, a5, a6, a7, a8⟩ := i4
  have hb := blk_t hs
  obtain ⟨M1, e1, r1, f1⟩ := s_takeOver hc hb blk_1 (by omega) a3 i5.2.2.1.1
  have hc1 : HC0 M1 := hc.fr f1
  have ez : wZ M1 (some 11) (nI s) 1 = some (setA M1 11 (uq (mI M1 11) s 1)) := (wZ_at (hc1.lt (by decide)) rfl rfl hs (by decide)).trans (congrArg some (sI_setA _ _ _ _))
  generalize hM2 : setA M1 11 (uq (mI M1 11) s 1) = M2 at ez
  have f2 : Fr (fun x => x = 11) M1 M2 := hM2 ▸ Fr.set rfl
  have hc2 : HC0 M2 := hc1.fr f2
  have f12 : Fr (fun x => x = 11 ∨ (65 + 8 * s ≤ x ∧ x < 65 + 8 * s + 8)) M M2 := (f1.mono (fun x hx => Or.inr hx)).trans (f2.mono (fun x hx => Or.inl hx))
  have e11 : mI M2 11 = uq (mI M 11) s 1 := by rw [← hM2, mI_eq, f1.2.2.2.2 11 (by omega)]
  have r3 : Rep M2 1 (mI M 118) := a3.fr f12 (fun x h1 h2 q => by omega)
  have hkt : ∀ t, t < 2 → mI M2 11 t = uq (mI M 121) s 1 t := fun t ht => by
    rw [e11]
    by_cases hts : t = s
    · rw [hts, uq_eq, uq_eq]
    · rw [uq_ne _ _ hts, uq_ne _ _ hts]; exact (a6 t ht).1
  have hC2 : CR M2 sp (mI M 118) (c, svM M, uq (mI M 121) s 1, (fun t => if t = s then mI M 118 else slM M t), l, mI M 122) := by
    refine ⟨hc2, (a2.fr f1).fr f2, r3, by rw [f12.2.2.2.2 0 (by omega)]; exact a4, fun j hj => (a5 j hj).fr f12 (fun x h1 h2 q => ?_), fun t ht => ⟨hkt t ht, fun hk => ?_⟩, by rw [f12.2.2.2.2 0 (by omega)]; exact a7, fun i hi => by rw [f12.2.2.2.2 12 (by omega)]; exact a8 i hi⟩
    · have hj6 : j < 6 := by have : c ≤ 6 := i6.1; have hj' : j < c := hj; omega
      have := (a2.1 j hj6).2
      omega
    · show Rep M2 (65 + 8 * t) (if t = s then mI M 118 else slM M t)
      by_cases hts : t = s
      · rw [if_pos hts, hts]; exact r1.fr f2 (fun x h1 h2 q => by omega)
      · rw [if_neg hts]
        have hk2 : mI M 121 t ≠ 0 := by
          have hk' : uq (mI M 121) s 1 t ≠ 0 := hk
          rwa [uq_ne _ _ hts] at hk'
        exact ((a6 t ht).2 hk2).fr f12 (fun x h1 h2 q => by omega)
  have hMc : HM M2 := i1.frC (f12.frC (fun b hb q => by omega))
  have ec : ∀ b, 117 ≤ b → mI M2 b = mI M b := fun b hb => f12.2.2.2.2 b (by omega)
  generalize hy : nI (dgs (mI M 118) 5) = y
  have hz : HM (zap (out M2 y.toInt64) 0) := hMc
  have gz : ∀ b, 118 ≤ b → mI (zap (out M2 y.toInt64) 0) b = mI M b := fun b hb => (zap_o _ _ (by omega)).trans (ec b (by omega))
  have gz5 : ∀ k, k ≠ 0 → mI (zap (out M2 y.toInt64) 0) 117 k = mI M 117 k := fun k hk => (zap_k _ _ hk).trans (congrFun (ec 117 (by decide)) k)
  have gz0 : mI (zap (out M2 y.toInt64) 0) 117 0 = 0 := zap_0 _ _
  have fz : FrM (out M2 y.toInt64) (zap (out M2 y.toInt64) 0) := FrM.zap 0
  have mz' := mz (out M2 y.toInt64) hMc
  generalize hZ : zap (out M2 y.toInt64) 0 = Z at hz gz gz5 gz0 fz mz'
  have h := hz
  have el := loopF (fX3_keep_22 (some 117) (nI s)) 56 (fun i => setA Z 120 (bq (mI M 120) (56 * s) i (mI M 118))) (fun i hi k q => by
    have e2 := bq_s (mI M 120) (56 * s) i (mI M 118)
    rw [fX3_keep_22, if_neg (show ¬ (56 : Int32) ≤ nI i from ge_f hi (by decide)), ix56]
    simp (disch := first | omega | (simp only [HM_setA, HM_setJ, h]; done) | (simp only [lm6, lm7, lm8, lm0, lm1, lm2]; omega)) only [mo1, mo2, mo4, mo5, mo6, mo8, mo9, mo11, mog, mop, mogJ, mopJ, mok, moa, mow, moaJ, mowJ, moaZ, mowZ, Option.bind_some, mI_eq, mI_ne, mJ_eq, mJ_ne, mI_setJ, mJ_setA, setA_setA, setJ_setJ, uq_eq, uq_ne, uq_uq, nI_1, gz, e2]) (fun k q => by rw [fX3_keep_22, if_pos (by decide)]) 56 0 FU rfl (fu_9 (by decide))
  rw [bq_0, ← gz 120 (by decide), setA_id, gz 120 (by decide), nI_0] at el
  have ed := q_degs (M := setA (setA Z 120 (bq (mI M 120) (56 * s) 56 (mI M 118))) 121 (uq (mI M 121) s 1)) h
  rw [mI_ne _ _ (by decide), mI_ne _ _ (by decide), gz 118 (by decide), hy] at ed
  refine ⟨out M2 y.toInt64, setA (setA Z 120 (bq (mI M 120) (56 * s) 56 (mI M 118))) 121 (uq (mI M 121) s 1), 0, y, ?_, hMc, ?_, ?_, fun _ => ?_, ?_⟩
  · rw [fL_keep, kk M hc, Option.bind_some, fX2_keep, (slo_v _ hs).1, Option.bind_some, thr_r, k3 M hc, Option.bind_some, ksl M s hs hc, Option.bind_some, k0 M hc, Option.bind_some, bk M _ hb hc, Option.bind_some, e1, Option.bind_some, k4 M1 hc1, Option.bind_some, ez, Option.bind_some, kk M2 hc2, Option.bind_some, s_degs hc2 r3, hy, Option.bind_some, Option.bind_some, thr_r]
    exact out_fin hMc.1 _
  · show fX3_keep (out M2 y.toInt64) (some 117) (nI s) = _
    rw [fX3_keep, mz', Option.bind_some, (slo_v _ hs).2, Option.bind_some, if_neg (by decide), el]
    simp (disch := first | omega | (simp only [HM_setA, HM_setJ, h]; done) | (simp only [lm6, lm7, lm8, lm0, lm1, lm2]; omega)) only [mo1, mo2, mo4, mo5, mo6, mo8, mo9, mo11, mog, mop, mogJ, mopJ, mok, moa, mow, moaJ, mowJ, moaZ, mowZ, Option.bind_some, mI_eq, mI_ne, mJ_eq, mJ_ne, mI_setJ, mJ_setA, setA_setA, setJ_setJ, uq_eq, uq_ne, uq_uq, nI_1, gz]
    rw [ed, Option.bind_some]
  · rw [mI_ne _ _ (by decide), mI_ne _ _ (by decide), gz0]
  · have := fz.2.2.2.2
    show mJ Z 126 0 = _
    rw [this, out, mJ_eq, uq_eq]
  · refine Inv.mk (hC2.out _) hMc (fz.trans ((FrM.set (by decide)).trans (FrM.set (by decide)))) ?_ ?_ ?_ (fun j _ => ?_) (fun t ht => ⟨?_, fun hk => ?_⟩) (fun i _ => ?_) i5 ⟨i6.1, i6.2.1, fun t ht => ⟨?_, fun hk => ?_⟩, i6.2.2.2⟩
    · rw [mI_ne _ _ (by decide), mI_ne _ _ (by decide), gz5 3 (by decide), i3]
    · rw [mI_ne _ _ (by decide), mI_ne _ _ (by decide), gz5 7 (by decide), i7]
    · rw [mI_ne _ _ (by decide), mI_ne _ _ (by decide), gz 118 (by decide)]; exact eqv.refl _
    · unfold svM
      rw [mI_ne _ _ (by decide), mI_ne _ _ (by decide), gz 119 (by decide)]; exact eqv.refl _
    · rw [mI_eq]
    · show eqv (if t = s then mI M 118 else slM M t) _
      refine eqv.of fun i hi => ?_
      unfold slM
      rw [mI_ne _ _ (by decide), mI_eq]
      by_cases hts : t = s
      · rw [if_pos hts, hts, bq_in _ _ _ _ hi]
      · rw [if_neg hts, bq_out _ _ _ _ (by omega)]
    · rw [mI_ne _ _ (by decide), mI_ne _ _ (by decide), gz 122 (by decide)]
    · show uq (mI M 121) s 1 t = 0 ∨ uq (mI M 121) s 1 t = 1
      by_cases hts : t = s
      · rw [hts, uq_eq]; exact Or.inr rfl
      · rw [uq_ne _ _ hts]; exact (i6.2.2.1 t ht).1
    · show OkV (if t = s then mI M 118 else slM M t)
      by_cases hts : t = s
      · rw [if_pos hts]; exact i5
      · rw [if_neg hts]
        have hk' : uq (mI M 121) s 1 t ≠ 0 := hk
        rw [uq_ne _ _ hts] at hk'
        exact (i6.2.2.1 t ht).2 hk'
theorem v_goBack {M : Mem} (hI : Inv M) {s : Nat} (hs : s < 2) : Bth (fL_goBack M (some 0) (nI s) (some 126)) (fun M1 => fX3_goBack M1 (some 117) (nI s)) := by
  have hc0 := hI.hc
  have hm0 := hI.hm
  obtain ⟨sp, c0, l0, i1, i3, i7, i4, i5, i6⟩ := id hI
  have hkM := (i4.2.2.2.2.2.1 s hs).1
  have hk11 : aZ M (some 11) (nI s) = some (mI M 121 s) := (aZ_at (hc0.lt (by decide)) rfl rfl hs (by decide)).trans (congrArg some hkM)
  by_cases hk : mI M 121 s = 0
  · refine Bth.fail hI (code := 2) ?_ (by decide) ?_
    · rw [fL_goBack, kk M hc0, Option.bind_some, fX2_goBack, (slo_v _ hs).1, Option.bind_some, thr_r, k4 M hc0, Option.bind_some, hk11, Option.bind_some, if_pos hk, Option.bind_some, thr_l, if_neg (by decide), if_pos rfl]
    · show fX3_goBack M (some 117) (nI s) = _
      rw [fX3_goBack, mz M hm0, Option.bind_some, (slo_v _ hs).2, Option.bind_some, if_neg (by decide), mo5 (zap M 0) hm0, Option.bind_some, moaZ (zap M 0) s hs hm0, Option.bind_some, zap_o _ _ (by decide), if_pos hk, mok (zap M 0) hm0, Option.bind_some, q_fz M hm0, Option.bind_some]
  · obtain ⟨c, l, hc6, h3, h7, ho, Mc, es, hC⟩ := cs_save hI
    have hc := hC.hc
    obtain ⟨⟨sp2, hCR⟩, hfc⟩ := id hC
    have hslot := (hCR.2.2.2.2.2.1 s hs).2 hk
    have hokS : OkV (slM M s) := (ho.2.2.1 s hs).2 hk
    obtain ⟨M1, e1, r1, f1⟩ := s_takeOver hc blk_1 (blk_t hs) (by omega) hslot hokS.2.2.1.1
    have hC2 : Cs M c l (slM M s) M1 := hC.now (f1.mono (fun x hx => ⟨hx.1, by omega⟩)) r1
    have hMc : HM M1 := hI.hm.frC hC2.2
    generalize hy : nI (dgs (slM M s) 5) = y
    obtain ⟨N1, e2, s1, g1⟩ := x_saves (N := out M1 y.toInt64) hMc (out_at hC2 _) hc6 h3 h7
    have h := s1.1
    obtain ⟨_, _, _, _, v6, v7, v8, v9, v0⟩ := id s1
    have el := loopF (fX3_goBack_41 (some 117) (nI s)) 56 (fun i => setA N1 118 (bq (mI M 118) 0 i (slM M s))) (fun i hi k q => by
      have e2 := bq_s (mI M 118) 0 i (slM M s)
      rw [Nat.zero_add] at e2
      have e3 : mI M 120 (56 * s + i) = slM M s i := rfl
      rw [fX3_goBack_41, if_neg (show ¬ (56 : Int32) ≤ nI i from ge_f hi (by decide)), ix56]
      simp (disch := first | omega | (simp only [HM_setA, HM_setJ, h]; done) | (simp only [lm6, lm7, lm8, lm0, lm1, lm2]; omega)) only [mo1, mo2, mo4, mo5, mo6, mo8, mo9, mo11, mog, mop, mogJ, mopJ, mok, moa, mow, moaJ, mowJ, moaZ, mowZ, Option.bind_some, mI_eq, mI_ne, mJ_eq, mJ_ne, mI_setJ, mJ_setA, setA_setA, setJ_setJ, uq_eq, uq_ne, uq_uq, nI_1, v8, e3, e2]) (fun k q => by rw [fX3_goBack_41, if_pos (by decide)]) 56 0 FU rfl (fu_9 (by decide))
    rw [bq_0, ← v6, setA_id, v6, nI_0] at el
    have s2 : Sv M c l (bq (mI M 118) 0 56 (slM M s)) (setA N1 118 (bq (mI M 118) 0 56 (slM M s))) := sv_set s1
    have heq : eqv (slM M s) (bq (mI M 118) 0 56 (slM M s)) := eqv.of fun i hi => by
      have e := bq_in (mI M 118) 0 56 (slM M s) hi
      rw [Nat.zero_add] at e
      exact e.symm
    have ed := q_degs (M := setA N1 118 (bq (mI M 118) 0 56 (slM M s))) h
    rw [mI_eq, ← dgs_cg (fun t ht => heq.rv ht) 5 (Nat.le_refl _), hy] at ed
    refine Bth.s hI ho hC2 (y := y) (M2 := setA N1 118 (bq (mI M 118) 0 56 (slM M s))) ?_ ?_ (g1.trans FrM.s) s2 heq hokS
    · rw [fL_goBack, kk M hc0, Option.bind_some, fX2_goBack, (slo_v _ hs).1, Option.bind_some, thr_r, k4 M hc0, Option.bind_some, hk11, Option.bind_some, if_neg hk, kk M hc0, Option.bind_some, es, Option.bind_some, k0 Mc hc, Option.bind_some, k3 Mc hc, Option.bind_some, ksl Mc s hs hc, Option.bind_some, bk Mc 1 blk_1 hc, Option.bind_some, e1, Option.bind_some, kk M1 hC2.hc, Option.bind_some, s_degs hC2.hc hC2.rep, hy, Option.bind_some, Option.bind_some, thr_r]
      exact out_fin hMc.1 _
    · show fX3_goBack (out M1 y.toInt64) (some 117) (nI s) = _
      rw [fX3_goBack, mz (out M1 y.toInt64) hMc, Option.bind_some, (slo_v _ hs).2, Option.bind_some, if_neg (by decide), mo5 (zap (out M1 y.toInt64) 0) hMc, Option.bind_some, moaZ (zap (out M1 y.toInt64) 0) s hs hMc, Option.bind_some, zap_o _ _ (by decide), show mI (out M1 y.toInt64) 121 = mI M 121 from hC2.at (by decide), if_neg hk, mok (zap (out M1 y.toInt64) 0) hMc, Option.bind_some, e2, Option.bind_some, el, mok _ s2.1, Option.bind_some, ed, Option.bind_some]
theorem v_undo {M : Mem} (hI : Inv M) : Bth (fL_undo M (some 0) (some 126)) (fun M1 => fX3_undo M1 (some 117)) := by
  have hc := hI.hc
  have hm := hI.hm
  have hI0 := hI
  obtain ⟨sp, c, l, i1, i3, i7, i4, i5, i6⟩ := hI
  obtain ⟨a1, a2, a3, a4, a5, a6, a7, a8⟩ := i4
  have a4' : mI M 0 2 = nI c := a4
  by_cases h0 : c = 0
  · subst h0
    refine Bth.fail hI0 (code := 1) ?_ (by decide) ?_
    · rw [fL_undo, kk M hc, Option.bind_some, fX2_undo, kg M 2 hc, Option.bind_some, a4', if_neg (by decide), Option.bind_some, thr_l, if_pos rfl]
    · show fX3_undo M (some 117) = _
      rw [fX3_undo, mz M hm, Option.bind_some, mog (zap M 0) 3 hm, Option.bind_some, zap_k _ _ (by decide), i3, if_pos (by decide), mok (zap M 0) hm, Option.bind_some, q_fz M hm, Option.bind_some]
  · obtain ⟨q, hq⟩ : ∃ q, c = q + 1 := ⟨c - 1, by omega⟩
    subst hq
    have hc6 : q + 1 ≤ 6 := i6.1
    have hsq := (a2.1 q (by omega)).2
    have f0 : Fr (fun b => b = 0) M (setA M 0 (uq (mI M 0) 2 (nI q))) := Fr.set rfl
    generalize hM0 : setA M 0 (uq (mI M 0) 2 (nI q)) = M0' at f0
    have e00 : mI M0' 0 = uq (mI M 0) 2 (nI q) := by rw [← hM0, mI_eq]
    have hc0 : HC0 M0' := hc.fr f0
    have hokQ : OkV (svM M q) := i6.2.1 q (show q < q + 1 by omega)
    have rq : Rep M0' (17 + 8 * sp q) (svM M q) := (a5 q (show q < q + 1 by omega)).fr f0 (fun x h1 h2 q => by omega)
    obtain ⟨M1, e1, r1, f1⟩ := s_takeOver hc0 blk_1 (blk_s hsq) (by omega) rq hokQ.2.2.1.1
    have f01 : Fr (fun b => b = 0 ∨ (1 ≤ b ∧ b < 9)) M M1 := (f0.mono (fun x hx => Or.inl hx)).trans (f1.mono (fun x hx => Or.inr ⟨hx.1, by omega⟩))
    have hc1 : HC0 M1 := hc0.fr f1
    have e10 : mI M1 0 = uq (mI M 0) 2 (nI q) := by rw [f1.2.2.2.2 0 (by omega), e00]
    have hC2 : CR M1 sp (svM M q) (q, svM M, mI M 121, slM M, l, mI M 122) := by
      refine ⟨hc1, (a2.fr f0).fr f1, r1, by rw [e10, uq_eq], fun j hj => (a5 j (show j < q + 1 by have hj' : j < q := hj; omega)).fr f01 (fun x h1 h2 q => by omega), fun t ht => ⟨by rw [f01.2.2.2.2 11 (by omega)]; exact (a6 t ht).1, fun hk => ((a6 t ht).2 hk).fr f01 (fun x h1 h2 q => by omega)⟩, by rw [e10, uq_ne _ _ (by decide)]; exact a7, fun i hi => by rw [f01.2.2.2.2 12 (by omega)]; exact a8 i hi⟩
    have hMc : HM M1 := i1.frC (f01.frC (fun b hb q => by omega))
    have ec : ∀ b, 117 ≤ b → mI M1 b = mI M b := fun b hb => f01.2.2.2.2 b (by omega)
    have hz : HM (zap (out M1 (nI q).toInt64) 0) := hMc
    have gz : ∀ b, 118 ≤ b → mI (zap (out M1 (nI q).toInt64) 0) b = mI M b := fun b hb => (zap_o _ _ (by omega)).trans (ec b (by omega))
    have gz5 : ∀ k, k ≠ 0 → mI (zap (out M1 (nI q).toInt64) 0) 117 k = mI M 117 k := fun k hk => (zap_k _ _ hk).trans (congrFun (ec 117 (by decide)) k)
    have gz0 : mI (zap (out M1 (nI q).toInt64) 0) 117 0 = 0 := zap_0 _ _
    have fz : FrM (out M1 (nI q).toInt64) (zap (out M1 (nI q).toInt64) 0) := FrM.zap 0
    have mz' := mz (out M1 (nI q).toInt64) hMc
    generalize hZ : zap (out M1 (nI q).toInt64) 0 = Z at hz gz gz5 gz0 fz mz'
    have h := hz
    have hm3 := gz5 3 (by decide)
    rw [i3] at hm3
    have el := loopF (fX3_undo_30 (some 117)) 56 (fun i => setA (setA Z 117 (uq (mI Z 117) 3 (nI q))) 118 (bq (mI M 118) 0 i (svM M q))) (fun i hi k p => by
      have e2 := bq_s (mI M 118) 0 i (svM M q)
      rw [Nat.zero_add] at e2
      have e3 : mI M 119 (56 * q + i) = svM M q i := rfl
      rw [fX3_undo_30, if_neg (show ¬ (56 : Int32) ≤ nI i from ge_f hi (by decide))]
      simp (disch := first | omega | (simp only [HM_setA, HM_setJ, h]; done) | (simp only [lm6, lm7, lm8, lm0, lm1, lm2]; omega)) only [mo1, mo2, mo4, mo5, mo6, mo8, mo9, mo11, mog, mop, mogJ, mopJ, mok, moa, mow, moaJ, mowJ, moaZ, mowZ, Option.bind_some, mI_eq, mI_ne, mJ_eq, mJ_ne, mI_setJ, mJ_setA, setA_setA, setJ_setJ, uq_eq, uq_ne, uq_uq, nI_1, gz, ix56, e3, e2]) (fun k p => by rw [fX3_undo_30, if_pos (by decide)]) 56 0 FU rfl (fu_9 (by decide))
    rw [bq_0, show setA (setA Z 117 (uq (mI Z 117) 3 (nI q))) 118 (mI M 118) = setA Z 117 (uq (mI Z 117) 3 (nI q)) from by
      have e := setA_id (setA Z 117 (uq (mI Z 117) 3 (nI q))) 118
      rw [mI_ne _ _ (by decide), gz 118 (by decide)] at e
      exact e, nI_0] at el
    have heq : eqv (svM M q) (bq (mI M 118) 0 56 (svM M q)) := eqv.of fun i hi => by
      have e := bq_in (mI M 118) 0 56 (svM M q) hi
      rw [Nat.zero_add] at e
      exact e.symm
    refine ⟨out M1 (nI q).toInt64, setA (setA Z 117 (uq (mI Z 117) 3 (nI q))) 118 (bq (mI M 118) 0 56 (svM M q)), 0, nI q, ?_, hMc, ?_, ?_, fun _ => ?_, ?_⟩
    · rw [fL_undo, kk M hc, Option.bind_some, fX2_undo, kg M 2 hc, Option.bind_some, a4', if_pos (show 0 < nI (q + 1) from nI_lt (a := 0) (by omega) (by omega)), Option.bind_some, nI_pred, kp M 2 _ hc, Option.bind_some, hM0, k0 M0' hc0, Option.bind_some, k1 M0' hc0, Option.bind_some, kg M0' 2 hc0, Option.bind_some, e00, uq_eq, ksv hc0 (a2.fr f0) (by omega), Option.bind_some, bk M0' 1 blk_1 hc0, Option.bind_some, e1, Option.bind_some, kg M1 2 hc1, Option.bind_some, e10, uq_eq, Option.bind_some, thr_r]
      exact out_fin hMc.1 _
    · show fX3_undo (out M1 (nI q).toInt64) (some 117) = _
      rw [fX3_undo, mz', Option.bind_some, mog Z 3 h, Option.bind_some, hm3, if_neg (show ¬ nI (q + 1) = 0 from nI_ne0 (by omega) (by omega)), Option.bind_some, nI_pred, mop Z 3 _ h, Option.bind_some, el]
      simp (disch := first | omega | (simp only [HM_setA, HM_setJ, h]; done) | (simp only [lm6, lm7, lm8, lm0, lm1, lm2]; omega)) only [mo1, mo2, mo4, mo5, mo6, mo8, mo9, mo11, mog, mop, mogJ, mopJ, mok, moa, mow, moaJ, mowJ, moaZ, mowZ, Option.bind_some, mI_eq, mI_ne, mJ_eq, mJ_ne, mI_setJ, mJ_setA, setA_setA, setJ_setJ, uq_eq, uq_ne, uq_uq, nI_1]
    · rw [mI_ne _ _ (by decide), mI_eq, uq_ne _ _ (by decide), gz0]
    · have := fz.2.2.2.2
      show mJ Z 126 0 = _
      rw [this, out, mJ_eq, uq_eq]
    · refine Inv.mk (hC2.out _) hMc (fz.trans ((FrM.set (by decide)).trans (FrM.set (by decide)))) ?_ ?_ ?_ (fun j _ => ?_) (fun t ht => ⟨?_, fun hk => ?_⟩) (fun i _ => ?_) hokQ ⟨show q ≤ 6 by omega, fun j hj => i6.2.1 j (show j < q + 1 by have hj' : j < q := hj; omega), i6.2.2.1, i6.2.2.2⟩
      · rw [mI_ne _ _ (by decide), mI_eq, uq_eq]
      · rw [mI_ne _ _ (by decide), mI_eq, uq_ne _ _ (by decide), gz5 7 (by decide), i7]
      · rw [mI_eq]; exact heq
      · unfold svM
        rw [mI_ne _ _ (by decide), mI_ne _ _ (by decide), gz 119 (by decide)]; exact eqv.refl _
      · rw [mI_ne _ _ (by decide), mI_ne _ _ (by decide), gz 121 (by decide)]
      · unfold slM
        rw [mI_ne _ _ (by decide), mI_ne _ _ (by decide), gz 120 (by decide)]; exact eqv.refl _
      · rw [mI_ne _ _ (by decide), mI_ne _ _ (by decide), gz 122 (by decide)]
