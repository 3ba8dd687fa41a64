/-! ===== divide ===== -/
theorem len_0 {g : Nat → Int32} (hs : SgR g) (hz : Nz g) {r : Int32} (hr : sgn r) : (nI (quo g r).length = 0) ↔ cntd g r = 0 := by
  have hlen : (quo g r).length < 2 ^ 31 := by
    have hd := deg_lt g
    have h1 : (quo g r).length ≤ (allS (deg g)).length := by
      unfold quo
      rw [show seg g 0 (deg g + 1) = g 0 :: seg g (0 + 1) (deg g) from rfl, qE_all, seg_len]
      exact List.length_filter_le _ _
    rw [← dig_all, List.length_map, List.length_range] at h1
    have := p3 _ hd
    omega
  rw [← (quo_facts hs hz hr).2.1]
  rw [show (nI (quo g r).length = 0) ↔ (quo g r).length = 0 from nI_eq (b := 0) hlen (by decide)]
  exact List.length_eq_zero_iff
theorem cnt_0 {g : Nat → Int32} (hs : SgR g) (hz : Nz g) {r : Int32} (hr : sgn r) : (nI (cntd g r) = 0) ↔ cntd g r = 0 := nI_eq (b := 0) (by have := cntd_le hs hz hr; have := deg_lt g; omega) (by decide)
theorem best_ok {g : Nat → Int32} (hs : SgR g) (hz : Nz g) {r : Int32} (hr : sgn r) (h : cntd g r ≠ 0) : (∀ i, i < 9 → sgn (lrow (bst r (quo g r)).2 i)) ∧ ∃ k, k < 9 ∧ lrow (bst r (quo g r)).2 k ≠ 0 := by
  obtain ⟨h1, h2, h3⟩ := quo_facts hs hz hr
  rcases fold_mem r (quo g r) (0, []) with hm | hm
  · exfalso
    have : (bst r (quo g r)).1 = 0 := by unfold bst; rw [hm]
    omega
  · obtain ⟨q1, q2, q3, _⟩ := h3 _ hm
    have hd := deg_lt g
    obtain ⟨⟨k, hk, hk2⟩, _⟩ := lrow_deg q3 (by omega)
    exact ⟨fun i _ => lrow_sgn q2 i, k, hk, hk2⟩
theorem v_divide {M : Mem} (hI : Inv M) {n : Nat} (hn : n < 5) {r : Int32} (hr0 : sgn r) : Bth (fL_divide M (some 0) (nI n) r (some 126)) (fun M1 => fX3_divide M1 (some 117) (nI n) r) := by
  obtain ⟨c, l, hc6, h3, h7, ho, Mc, es, hC⟩ := cs_save hI
  have hc0 := hI.hc
  have hc := hC.hc
  obtain ⟨hr, er⟩ := hC.row hn
  have hsg := hI.sg.row hn
  have hnz := hI.nz n hn
  have h8 := hI.ok.2.2.1.1
  have ht := s_try hr0 8 0 rfl Mc (1 + 2 + n) hc.hv hr (by omega) (by rw [er]; exact hsg) (by rw [er]; exact hnz) (by have := deg_lt (rC Mc (1 + 2 + n)); omega)
  rw [er] at ht
  obtain ⟨Mt, et, ft, wt⟩ := ht
  have et2 : fX2_tryQuotients Mc (some (1 + 2 + n)) r (some 14) (some 15) 0 = some (Mt, nI (cntd (rv (mI M 118) n) r)) := et
  have hT : Cs M c l (mI M 118) Mt := hC.scr ft (fun b hb => ⟨by have := hb.1; omega, hb.2⟩)
  have hct := hT.hc
  have hK := cnt_0 hsg hnz hr0
  have hL := len_0 hsg hnz hr0
  -- the model, as far as the division
  have xd : ∀ N, HM N → (∀ b, 117 ≤ b → b ≤ 122 → mI N b = mI M b) → ∃ N0 N1, FrM N N1 ∧ Sv M c l (mI M 118) N1 ∧ fX3_saves (zap N 0) (some 117) = some N0 ∧ HM N0 ∧ fX3_divides N0 (some 117) (nI n) r = some (N1, nI (quo (rv (mI M 118) n) r).length) ∧ (cntd (rv (mI M 118) n) r ≠ 0 → ∀ i, i < 9 → mI N1 124 i = lrow (bst r (quo (rv (mI M 118) n) r)).2 i) := by
    intro N hN he
    obtain ⟨N0, e1, s0, f0⟩ := x_saves hN he hc6 h3 h7
    obtain ⟨f2, g2, x2, d1, d2⟩ := q_divides N0 s0.1 hn hr0
    rw [s0.2.2.2.2.1] at d1 d2
    refine ⟨N0, scr N0 f2 g2 x2, f0.trans (mq_scr _ _ _ _).1, sv_mq s0 (mq_scr _ _ _ _) (by unfold scr; rw [mI_eq, uq_ne _ _ (by decide)]), e1, s0.1, d1, fun h i hi => ?_⟩
    rw [scr_122]
    exact d2 (by rw [(quo_facts hsg hnz hr0).1]; exact h) i hi
  by_cases h0 : cntd (rv (mI M 118) n) r = 0
  · have hC2 : Cs M c l (uq (mI M 118) 55 (mI M 118 55 + 1)) (setA Mt 1 (uq (mI Mt 1) 4 (mI M 118 55 + 1))) := hT.now (Fr.set ⟨by omega, by omega⟩) (rep_sc hT.rep h8 (Or.inr ⟨rfl, rfl⟩) _)
    have hMc : HM (setA Mt 1 (uq (mI Mt 1) 4 (mI M 118 55 + 1))) := hI.hm.frC hC2.2
    obtain ⟨N0, N1, f1, s1, e1, hN0, d1, _⟩ := xd (out (setA Mt 1 (uq (mI Mt 1) 4 (mI M 118 55 + 1))) (-9 : Int32).toInt64) hMc (out_at hC2 _)
    refine Bth.s hI ho hC2 (y := -9) (M2 := setA N1 118 (uq (mI M 118) 55 (mI M 118 55 + 1))) ?_ ?_ (f1.trans FrM.s) (sv_set s1) (eqv.refl _) (okv_sc hI.ok (Or.inr rfl) _)
    · rw [fL_divide, kk M hc0, Option.bind_some, fX2_divide, (num_v _ hn).1, Option.bind_some, thr_r, (sgn_v _ hr0).1, Option.bind_some, thr_r, kk M hc0, Option.bind_some, es, Option.bind_some, now_row hc hn, hc.hv.g, Option.bind_some, hc.hv.t, Option.bind_some, et2, Option.bind_some, if_pos (hK.mpr h0), k0 Mt hct, Option.bind_some, bg Mt 1 4 blk_1 hct, Option.bind_some, bp Mt 1 4 _ blk_1 hct, Option.bind_some, Option.bind_some, thr_r, hT.rep.2.2.2.2]
      exact out_fin hMc.1 _
    · show fX3_divide _ (some 117) (nI n) r = _
      rw [fX3_divide, mz (out (setA Mt 1 (uq (mI Mt 1) 4 (mI M 118 55 + 1))) (-9 : Int32).toInt64) hMc, Option.bind_some, (num_v _ hn).2, Option.bind_some, if_neg (by decide), (sgn_v _ hr0).2, Option.bind_some, if_neg (by decide), mok (zap (out (setA Mt 1 (uq (mI Mt 1) 4 (mI M 118 55 + 1))) (-9 : Int32).toInt64) 0) hMc, Option.bind_some, e1, Option.bind_some, mok N0 hN0, Option.bind_some, d1, Option.bind_some, if_pos (hL.mpr h0), mok N1 s1.1, Option.bind_some, x_refuse s1, Option.bind_some]
  · obtain ⟨b1, b2'⟩ := best_ok hsg hnz hr0 h0
    generalize hF : lrow (bst r (quo (rv (mI M 118) n) r)).2 = F at b1 b2' wt xd
    have hok1 : OkV (bq (mI M 118) (9 * n) 9 F) := okv_blk hI.ok hn b1 b2'
    have v54 : bq (mI M 118) (9 * n) 9 F 54 = mI M 118 54 := blk_hi _ hn _ (by decide)
    have hok : OkV (uq (bq (mI M 118) (9 * n) 9 F) 54 (mI M 118 54 + 1)) := okv_sc hok1 (Or.inl rfl) _
    have hD := (hct.hv.2 0 (by decide)).1
    have hC1 : Cs M c l (bq (mI M 118) (9 * n) 9 F) (setA Mt (1 + 2 + n) (bq (mI Mt (1 + 2 + n)) 0 9 (mI Mt 84))) := by
      refine hT.now (Fr.set ⟨by omega, by omega⟩) (rep_blk hT.rep hn _ (Fr.set rfl) (fun k hk => ?_))
      rw [mI_eq, bq, if_pos (by omega)]
      exact wt h0 k hk
    generalize hM1 : setA Mt (1 + 2 + n) (bq (mI Mt (1 + 2 + n)) 0 9 (mI Mt 84)) = Md at hC1
    have hcd := hC1.hc
    have hC2 : Cs M c l (uq (bq (mI M 118) (9 * n) 9 F) 54 (mI M 118 54 + 1)) (setA Md 1 (uq (mI Md 1) 3 (mI M 118 54 + 1))) := hC1.now (Fr.set ⟨by omega, by omega⟩) (rep_sc hC1.rep (by have := hok1.2.2.1.1; exact this) (Or.inl ⟨rfl, rfl⟩) _)
    have hMc : HM (setA Md 1 (uq (mI Md 1) 3 (mI M 118 54 + 1))) := hI.hm.frC hC2.2
    obtain ⟨hr3, er3⟩ := hC2.row hn
    have ed := s_degreeOf hr3
    rw [er3] at ed
    generalize hy : nI (deg (rv (uq (bq (mI M 118) (9 * n) 9 F) 54 (mI M 118 54 + 1)) n)) = y at ed
    obtain ⟨N0, N1, f1, s1, e1, hN0, d1, w1⟩ := xd (out (setA Md 1 (uq (mI Md 1) 3 (mI M 118 54 + 1))) y.toInt64) hMc (out_at hC2 _)
    have w2 := w1 h0
    refine Bth.s hI ho hC2 (y := y) (M2 := setA N1 118 (uq (bq (mI M 118) (9 * n) 9 F) 54 (mI M 118 54 + 1))) ?_ ?_ (f1.trans FrM.s) (sv_set s1) (eqv.refl _) hok
    · have hcp := cp_9 (M := Mt) (a := 84) (b := 1 + 2 + n) (show Row Mt 84 from rw82 hD) (hT.row hn).1
      rw [hM1] at hcp
      rw [fL_divide, kk M hc0, Option.bind_some, fX2_divide, (num_v _ hn).1, Option.bind_some, thr_r, (sgn_v _ hr0).1, Option.bind_some, thr_r, kk M hc0, Option.bind_some, es, Option.bind_some, now_row hc hn, hc.hv.g, Option.bind_some, hc.hv.t, Option.bind_some, et2, Option.bind_some, if_neg (fun q => h0 (hK.mp q)), hct.hv.g, Option.bind_some, hct.hv.a0, Option.bind_some, show gR 0 2 Mt (some 81) = some (some 84) from dv2 Mt 0 hD, Option.bind_some, hcp, Option.bind_some, k0 Md hcd, Option.bind_some, bg Md 1 3 blk_1 hcd, Option.bind_some, bp Md 1 3 _ blk_1 hcd, Option.bind_some, hC1.rep.2.2.2.1, v54, ed, Option.bind_some, Option.bind_some, thr_r]
      exact out_fin hMc.1 _
    · have h := s1.1
      have ev := s1.2.2.2.2.1
      have s2 : Sv M c l (uq (bq (mI M 118) (9 * n) 9 F) 54 (mI M 118 54 + 1)) (setA N1 118 (uq (bq (mI M 118) (9 * n) 9 F) 54 (mI M 118 54 + 1))) := sv_set s1
      have edm := x_deg s2 hn
      rw [hy] at edm
      have el := loopF (fX3_divide_53 (some 117) (nI n) r) 9 (fun i => setA N1 118 (bq (mI M 118) (9 * n) i F)) (fun i hi k q => by
        have e2 := bq_s (mI M 118) (9 * n) i F
        rw [fX3_divide_53, if_neg (ge9_f i hi), ix9]
        simp (disch := first | omega | (simp only [HM_setA, HM_setJ, h]; done) | (simp only [lm6, lm7, lm8, lm0, lm1, lm2]; omega)) only [mo1, mo2, mo4, mo5, mo6, mo8, mo9, mo11, mog, mop, mogJ, mopJ, mok, moa, mow, moaJ, mowJ, moaZ, mowZ, Option.bind_some, mI_eq, mI_ne, mJ_eq, mJ_ne, mI_setJ, mJ_setA, setA_setA, setJ_setJ, uq_eq, uq_ne, uq_uq, nI_1, w2 i hi, e2]) (fun k q => by rw [fX3_divide_53, if_pos ge9_t]) 9 0 FU rfl (fu_9 (by decide))
      rw [bq_0, ← ev, setA_id, ev, nI_0] at el
      show fX3_divide _ (some 117) (nI n) r = _
      rw [fX3_divide, mz (out (setA Md 1 (uq (mI Md 1) 3 (mI M 118 54 + 1))) y.toInt64) hMc, Option.bind_some, (num_v _ hn).2, Option.bind_some, if_neg (by decide), (sgn_v _ hr0).2, Option.bind_some, if_neg (by decide), mok (zap (out (setA Md 1 (uq (mI Md 1) 3 (mI M 118 54 + 1))) y.toInt64) 0) hMc, Option.bind_some, e1, Option.bind_some, mok N0 hN0, Option.bind_some, d1, Option.bind_some, if_neg (fun q => h0 (hL.mp q)), el, show (54 : Int32) = nI 54 from rfl]
      simp (disch := first | omega | (simp only [HM_setA, HM_setJ, h]; done) | (simp only [lm6, lm7, lm8, lm0, lm1, lm2]; omega)) only [mo1, mo2, mo4, mo5, mo6, mo8, mo9, mo11, mog, mop, mogJ, mopJ, mok, moa, mow, moaJ, mowJ, moaZ, mowZ, Option.bind_some, mI_eq, mI_ne, mJ_eq, mJ_ne, mI_setJ, mJ_setA, setA_setA, setJ_setJ, uq_eq, uq_ne, uq_uq, nI_1, v54]
      rw [edm, Option.bind_some]
