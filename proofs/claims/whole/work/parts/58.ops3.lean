/-! ===== counts, tries, shares, whole numbers ===== -/
theorem s_signOf (M : Mem) (x : Int32) : fX2_signOf M x.toInt64 = some (if rcl x = 1 then 1 else if rcl x = 2 then -1 else 0) := by
  unfold fX2_signOf rcl
  have z : (0 : Int64) = (0 : Int32).toInt64 := by decide
  have hle : (lg_cmp x.toInt64 0 ≤ 0) ↔ x ≤ 0 := by
    rw [lg_cmp_le, z, Int64.le_iff_toInt_le, Int32.le_iff_toInt_le, Int32.toInt_toInt64, Int32.toInt_toInt64]
  have hge : (0 ≤ lg_cmp x.toInt64 0) ↔ 0 ≤ x := by
    rw [lg_cmp_ge, z, Int64.le_iff_toInt_le, Int32.le_iff_toInt_le, Int32.toInt_toInt64, Int32.toInt_toInt64]
  simp only [hle, hge]
  by_cases h1 : x ≤ 0
  · rw [if_pos h1, if_pos h1]
    by_cases h2 : 0 ≤ x
    · rw [if_pos h2, if_pos h2]; rfl
    · rw [if_neg h2, if_neg h2]; rfl
  · rw [if_neg h1, if_neg h1]; rfl
def clsOf (w : Int32) : Int32 := if w = 1 then 1 else if w = -1 then 2 else 3
theorem cls_iff {w x : Int32} (hw : sgn w) : ((if rcl x = 1 then (1 : Int32) else if rcl x = 2 then -1 else 0) = w) ↔ rcl x = clsOf w := by
  have h : rcl x = 1 ∨ rcl x = 2 ∨ rcl x = 3 := by unfold rcl; split; · split <;> simp
                                                   simp
  rcases h with h | h | h <;> rw [h] <;> rcases hw with rfl | rfl | rfl <;> decide
theorem Inv.cr {M : Mem} (h : Inv M) : Rep M 1 (mI M 118) ∧ ∃ c l, c ≤ 6 ∧ l ≤ 60 ∧ mI M 117 3 = nI c ∧ mI M 0 2 = nI c ∧ mI M 117 7 = nI l ∧ mI M 0 6 = nI l ∧ (∀ s, s < 2 → mI M 11 s = mI M 121 s) ∧ (∀ i, i < l → mI M 12 i = mI M 122 i) := by
  obtain ⟨sp, c, l, i1, i2, i3, i4, i5, i6⟩ := h
  exact ⟨i4.2.2.1, c, l, i6.1, i6.2.2.2, i2, i4.2.2.2.1, i3, i4.2.2.2.2.2.2.1, fun s hs => (i4.2.2.2.2.2.1 s hs).1, i4.2.2.2.2.2.2.2⟩
theorem s_rootsOf {M : Mem} (hI : Inv M) {w : Int32} (hw : sgn w) : fX2_rootsOfSign M (some 0) w = some (nI (rtF (mI M 118) (clsOf w) (cnt (mI M 118)))) := by
  unfold fX2_rootsOfSign
  have hc := hI.hc
  obtain ⟨⟨_, e2, e3, _, _⟩, _⟩ := hI.cr
  obtain ⟨c8, c45⟩ := hI.ok.2.2.1
  rw [c45] at e2
  have e := loopA (fX2_rootsOfSign_4 M (some 0) w) (cnt (mI M 118)) (fun i => nI (rtF (mI M 118) (clsOf w) i)) (fun i hi k m => by
    rw [fX2_rootsOfSign_4, k0 M hc, Option.bind_some, bg M 1 2 blk_1 hc, Option.bind_some, e2, if_neg (ge_f hi (by omega)), if_neg (show ¬ (8 : Int32) ≤ nI i from ge_f (N := 8) (by omega) (by decide)), Option.bind_some, bk1 M 1 blk_1 hc, Option.bind_some, ba7 M 1 i (by omega) blk_1 hc, Option.bind_some, e3 i hi, s_signOf, Option.bind_some, nI_1, nI_1]
    by_cases hr : rcl (mI M 118 (46 + i)) = clsOf w
    · rw [if_pos ((cls_iff hw).mpr hr), show rtF (mI M 118) (clsOf w) (i + 1) = rtF (mI M 118) (clsOf w) i + 1 by simp [rtF, hr]]
    · rw [if_neg (fun q => hr ((cls_iff hw).mp q)), show rtF (mI M 118) (clsOf w) (i + 1) = rtF (mI M 118) (clsOf w) i by simp [rtF, hr]]) (fun k m => by
    rw [fX2_rootsOfSign_4, k0 M hc, Option.bind_some, bg M 1 2 blk_1 hc, Option.bind_some, e2, if_pos (nI_le (Nat.le_refl _) (by omega))]) (cnt (mI M 118)) 0 FU (by omega) (fu_9 (by omega))
  exact e _
theorem s_withRootOne {M : Mem} (hI : Inv M) : fX2_withRootOne M (some 0) = some (nI (w1F (mI M 118) 5)) := by
  unfold fX2_withRootOne
  have hc := hI.hc
  have e := loopA (fX2_withRootOne_4 M (some 0)) 5 (fun i => nI (w1F (mI M 118) i)) (fun i hi k m => by
    obtain ⟨hr, er⟩ := hI.row hi
    have f1 := s_hasRoot hr sgn_1 (by rw [er]; exact hI.sg.row hi)
    rw [er] at f1
    rw [fX2_withRootOne_4, if_neg (lt5_f i hi), now_row hc hi, f1, Option.bind_some, nI_1, nI_1]
    by_cases hb : hasR (rv (mI M 118) i) 1 = true
    · rw [if_pos hb, if_neg (by decide), show w1F (mI M 118) (i + 1) = w1F (mI M 118) i + 1 by simp [w1F, hb]]
    · rw [if_neg hb, if_pos rfl, show w1F (mI M 118) (i + 1) = w1F (mI M 118) i by simp [w1F, hb]]) (fun k m => by rw [fX2_withRootOne_4, if_pos (by decide)]) 5 0 FU rfl (fu_9 (by decide))
  exact e _
theorem s_count {M : Mem} (hI : Inv M) {c : Nat} (h3 : mI M 0 2 = nI c) {w : Nat} (hw : w < 8) : fX2_count M (some 0) (nI w) = some (.inr (tcV (mI M 118) c w)) := by
  have hc := hI.hc
  obtain ⟨⟨_, e2, e3, e4, e5⟩, _⟩ := hI.cr
  obtain ⟨c8, c45⟩ := hI.ok.2.2.1
  rw [c45] at e2
  have f1 := s_rootsOf hI sgn_1
  have f2 := s_rootsOf hI (sgn_neg sgn_1)
  have f3 := s_rootsOf hI sgn_0
  rw [fX2_count, show (8 : Int32) = nI (7 + 1) from rfl, (wha_v _ hw (by decide)).1, Option.bind_some, thr_r, k0 M hc, Option.bind_some, bg M 1 2 blk_1 hc, Option.bind_some, Option.bind_some, bg M 1 3 blk_1 hc, Option.bind_some, Option.bind_some, bg M 1 4 blk_1 hc, Option.bind_some, kk M hc, f1, f2, f3, s_withRootOne hI, kg M 2 hc, e2, e4, e5, h3]
  have hw2 : w = 0 ∨ w = 1 ∨ w = 2 ∨ w = 3 ∨ w = 4 ∨ w = 5 ∨ w = 6 ∨ w = 7 := by omega
  rcases hw2 with rfl | rfl | rfl | rfl | rfl | rfl | rfl | rfl <;> rfl
theorem v_count {M : Mem} (hI : Inv M) {w : Nat} (hw : w < 8) : Bth (fL_count M (some 0) (nI w) (some 126)) (fun M1 => fX3_count M1 (some 117) (nI w)) := by
  have hc := hI.hc
  obtain ⟨_, c, l, hc6, hl, h3, h3c, h7, h7c, _⟩ := hI.cr
  have x : ∀ N, HM N → mI N 118 = mI M 118 → mI N 117 3 = nI c → fX3_count N (some 117) (nI w) = some (zap N 0, tcV (mI M 118) c w) := fun N h e e3 => by
    have e2 : mI (zap N 0) 118 = mI M 118 := by rw [zap_o _ _ (by decide), e]
    rw [fX3_count, mz N h, Option.bind_some, show (7 : Int32) = nI 7 from rfl, (wha_v _ hw (by decide)).2, Option.bind_some, if_neg (by decide), mok (zap N 0) h, Option.bind_some, q_tellsCount (zap N 0) h (by rw [e2]; exact hI.sg) (by rw [e2]; exact hI.ok.2.2.1) (c := c) (by rw [zap_k _ _ (by decide), e3]) hw, Option.bind_some, e2]
  refine Bth.q hI (y := tcV (mI M 118) c w) (Fr.refl (fun _ => False) M) (fun b hb => hb.elim) ?_ (x (out M _) hI.hm rfl h3) (mq_zap _ _) (zap_0 _ _)
  rw [fL_count, kk M hc, Option.bind_some, s_count hI h3c hw, Option.bind_some, thr_r, out_w hc.1, Option.bind_some]
  rfl
theorem HC0.hv {M : Mem} (h : HC0 M) : HV M := h.2.2.1
theorem s_try0 {M : Mem} (hI : Inv M) {n : Nat} (hn : n < 5) {r : Int32} (hr : sgn r) : ∃ M2, fX2_tryQuotients M (some (1 + 2 + n)) r (some 14) (some 15) 0 = some (M2, nI (cntd (rv (mI M 118) n) r)) ∧ Fr (Sd 0) M M2 ∧ (cntd (rv (mI M 118) n) r ≠ 0 → ∀ k, k < 9 → mI M2 84 k = lrow (bst r (quo (rv (mI M 118) n) r)).2 k) := by
  obtain ⟨hro, er⟩ := hI.row hn
  have e := s_try hr 8 0 rfl M (1 + 2 + n) hI.hc.hv hro (by omega) (by rw [er]; exact hI.sg.row hn) (by rw [er]; exact hI.nz n hn) (by have := deg_lt (rC M (1 + 2 + n)); omega)
  rw [er] at e
  exact e
theorem v_times {M : Mem} (hI : Inv M) {n w : Nat} (hn : n < 5) {r : Int32} (hr0 : sgn r) (hw : w < 2) : Bth (fL_times M (some 0) (nI n) r (nI w) (some 126)) (fun M1 => fX3_times M1 (some 117) (nI n) r (nI w)) := by
  have hc := hI.hc
  obtain ⟨hr, er⟩ := hI.row hn
  have x : ∀ N, HM N → mI N 118 = mI M 118 → fX3_times N (some 117) (nI n) r (nI w) = some (oftM (zap N 0) n, nI (cntd (rv (mI M 118) n) r)) := fun N h e => by
    have e2 : mI (zap N 0) 118 = mI M 118 := by rw [zap_o _ _ (by decide), e]
    rw [fX3_times, mz N h, Option.bind_some, (num_v _ hn).2, Option.bind_some, if_neg (by decide), (sgn_v _ hr0).2, Option.bind_some, if_neg (by decide), show fX3_in (zap N 0) (nI w) 0 1 = some 1 from (wha_v (N := 1) _ hw (by decide)).2, Option.bind_some, if_neg (by decide), mok (zap N 0) h, Option.bind_some, q_often (zap N 0) h (by rw [e2]; exact hI.sg) (by rw [e2]; exact hI.nz) hn hr0, Option.bind_some, e2]
  by_cases hw0 : w = 0
  · subst hw0
    obtain ⟨Mc, e1, f1, _⟩ := s_try0 hI hn hr0
    have hmc : HM Mc := hI.hm.frC (f1.frC (fun b hb q => by have := q.2; omega))
    refine Bth.q hI (Mc := Mc) (y := nI (cntd (rv (mI M 118) n) r)) f1 (fun b hb => ⟨by have := hb.1; omega, hb.2⟩) ?_ (x (out Mc (nI (cntd (rv (mI M 118) n) r)).toInt64) hmc (f1.2.2.2.2 118 (fun q => by have := q.2; omega))) (mq_trans (mq_zap _ 0) (mq_oft _ _)) (zap_0 (out Mc (nI (cntd (rv (mI M 118) n) r)).toInt64) 0)
    rw [fL_times, kk M hc, Option.bind_some, fX2_times, (num_v _ hn).1, Option.bind_some, thr_r, (sgn_v _ hr0).1, Option.bind_some, thr_r, show (2 : Int32) = nI (1 + 1) from rfl, (wha_v _ hw (by decide)).1, Option.bind_some, thr_r, now_row hc hn, if_pos (by decide), hc.hv.g, Option.bind_some, hc.hv.t, Option.bind_some, e1, Option.bind_some, Option.bind_some, thr_r, out_w (f1.1.trans hc.1), Option.bind_some]
    rfl
  · have hw1 : w = 1 := by omega
    subst hw1
    refine Bth.q hI (y := nI (cntd (rv (mI M 118) n) r)) (Fr.refl (fun _ => False) M) (fun b hb => hb.elim) ?_ (x (out M _) hI.hm rfl) (mq_trans (mq_zap _ 0) (mq_oft _ _)) (zap_0 (out M (nI (cntd (rv (mI M 118) n) r)).toInt64) 0)
    have f1 := s_counted hr hr0 (by rw [er]; exact hI.sg.row hn)
    rw [er] at f1
    rw [fL_times, kk M hc, Option.bind_some, fX2_times, (num_v _ hn).1, Option.bind_some, thr_r, (sgn_v _ hr0).1, Option.bind_some, thr_r, show (2 : Int32) = nI (1 + 1) from rfl, (wha_v _ hw (by decide)).1, Option.bind_some, thr_r, now_row hc hn, if_neg (by decide), f1, Option.bind_some, Option.bind_some, thr_r, out_w hc.1, Option.bind_some]
    rfl
theorem v_quotients {M : Mem} (hI : Inv M) {n : Nat} (hn : n < 5) {r : Int32} (hr0 : sgn r) : Bth (fL_quotients M (some 0) (nI n) r (some 126)) (fun M1 => fX3_quotients M1 (some 117) (nI n) r) := by
  have hc := hI.hc
  obtain ⟨hr, er⟩ := hI.row hn
  obtain ⟨Mc, e1, f1⟩ := s_quoOf hc.hv hr (by omega) hr0 (by rw [er]; exact hI.sg.row hn)
  rw [er] at e1
  have hs : ∀ b, S0 b → 81 ≤ b ∧ b < 117 := fun b hb => by unfold S0 at hb; omega
  have hmc : HM Mc := hI.hm.frC (f1.frC (fun b hb q => by have := hs b q; omega))
  have hm2 : HM (zap (out Mc (nI (quo (rv (mI M 118) n) r).length).toInt64) 0) := hmc
  have e2 : mI (zap (out Mc (nI (quo (rv (mI M 118) n) r).length).toInt64) 0) 118 = mI M 118 := f1.2.2.2.2 118 (fun q => by have := hs 118 q; omega)
  obtain ⟨f2, g2, x2, d1, d2⟩ := q_divides _ hm2 hn hr0
  rw [e2] at d1
  refine Bth.q hI (Mc := Mc) (y := nI (quo (rv (mI M 118) n) r).length) f1 hs ?_ (M2 := scr (zap (out Mc (nI (quo (rv (mI M 118) n) r).length).toInt64) 0) f2 g2 x2) ?_ (mq_trans (mq_zap _ 0) (mq_scr _ _ _ _)) ?_
  · rw [fL_quotients, kk M hc, Option.bind_some, fX2_quotients, (num_v _ hn).1, Option.bind_some, thr_r, (sgn_v _ hr0).1, Option.bind_some, thr_r, now_row hc hn, kk M hc, Option.bind_some, e1, Option.bind_some, Option.bind_some, thr_r, out_w (f1.1.trans hc.1), Option.bind_some]
    rfl
  · show fX3_quotients _ (some 117) (nI n) r = _
    rw [fX3_quotients, mz (out Mc (nI (quo (rv (mI M 118) n) r).length).toInt64) hmc, Option.bind_some, (num_v _ hn).2, Option.bind_some, if_neg (by decide), (sgn_v _ hr0).2, Option.bind_some, if_neg (by decide), mok _ hm2, Option.bind_some, d1, Option.bind_some]
  · unfold scr; rw [mI_eq, uq_ne _ _ (by decide), zap_0]
theorem v_best {M : Mem} (hI : Inv M) {n : Nat} (hn : n < 5) {r : Int32} (hr0 : sgn r) : Bth (fL_best M (some 0) (nI n) r (some 126)) (fun M1 => fX3_best M1 (some 117) (nI n) r) := by
  have hc := hI.hc
  obtain ⟨Mc, e1, f1, w1⟩ := s_try0 hI hn hr0
  obtain ⟨hb1, hb2, hq⟩ := quo_facts (hI.sg.row hn) (hI.nz n hn) hr0
  have hs : ∀ b, Sd 0 b → 81 ≤ b ∧ b < 117 := fun b hb => ⟨by have := hb.1; omega, hb.2⟩
  have hmc : HM Mc := hI.hm.frC (f1.frC (fun b hb q => by have := hs b q; omega))
  have hVc : HV Mc := hc.hv.fr f1
  have hK : (nI (cntd (rv (mI M 118) n) r) = 0) ↔ cntd (rv (mI M 118) n) r = 0 := nI_eq (b := 0) (by have := cntd_le (hI.sg.row hn) (hI.nz n hn) hr0; have := deg_lt (rv (mI M 118) n); omega) (by decide)
  have hL : (nI (quo (rv (mI M 118) n) r).length = 0) ↔ cntd (rv (mI M 118) n) r = 0 := by
    have hlen : (quo (rv (mI M 118) n) r).length < 2 ^ 31 := by
      have hd := deg_lt (rv (mI M 118) n)
      have h1 : (quo (rv (mI M 118) n) r).length ≤ (allS (deg (rv (mI M 118) n))).length := by
        unfold quo
        rw [show seg (rv (mI M 118) n) 0 (deg (rv (mI M 118) n) + 1) = rv (mI M 118) n 0 :: seg (rv (mI M 118) n) (0 + 1) (deg (rv (mI M 118) n)) from rfl, qE_all, seg_len]
        exact List.length_filter_le _ _
      rw [← dig_all, List.length_map, List.length_range] at h1
      have := p3 _ hd
      omega
    rw [← hb2]
    rw [show (nI (quo (rv (mI M 118) n) r).length = 0) ↔ (quo (rv (mI M 118) n) r).length = 0 from nI_eq (b := 0) hlen (by decide)]
    exact List.length_eq_zero_iff
  have hbf : fX2_bestForm Mc (some 0) (nI (cntd (rv (mI M 118) n) r)) = some (if cntd (rv (mI M 118) n) r = 0 then -9 else form (lrow (bst r (quo (rv (mI M 118) n) r)).2)) := by
    unfold fX2_bestForm
    by_cases h0 : cntd (rv (mI M 118) n) r = 0
    · rw [if_pos (hK.mpr h0), if_pos h0]
    · rw [if_neg (fun q => h0 (hK.mp q)), if_neg h0, hVc.g, Option.bind_some, hVc.a0, Option.bind_some, show gR 0 2 Mc (some 81) = some (some 84) from dv2 Mc 0 (hVc.2 0 (by decide)).1, Option.bind_some, s_formOf (show Row Mc 84 from rw82 (hVc.2 0 (by decide)).1), Option.bind_some]
      refine congrArg some (form_cg fun i hi => ?_)
      rw [rC, if_pos hi, w1 h0 i hi]
  generalize hy : (if cntd (rv (mI M 118) n) r = 0 then (-9 : Int32) else form (lrow (bst r (quo (rv (mI M 118) n) r)).2)) = y at hbf
  have hm2 : HM (zap (out Mc y.toInt64) 0) := hmc
  have e2 : mI (zap (out Mc y.toInt64) 0) 118 = mI M 118 := f1.2.2.2.2 118 (fun q => by have := hs 118 q; omega)
  obtain ⟨f2, g2, x2, d1, d2⟩ := q_divides _ hm2 hn hr0
  rw [e2] at d1 d2
  refine Bth.q hI (Mc := Mc) (y := y) f1 hs ?_ (M2 := scr (zap (out Mc y.toInt64) 0) f2 g2 x2) ?_ (mq_trans (mq_zap _ 0) (mq_scr _ _ _ _)) ?_
  · rw [fL_best, kk M hc, Option.bind_some, fX2_best, (num_v _ hn).1, Option.bind_some, thr_r, (sgn_v _ hr0).1, Option.bind_some, thr_r, now_row hc hn, hc.hv.g, Option.bind_some, hc.hv.t, Option.bind_some, e1, Option.bind_some, show ck 2 Mc (some 0) = some () from ck_at (by rw [f1.1, hc.1]; decide) rfl, Option.bind_some, hbf, Option.bind_some, Option.bind_some, thr_r, out_w (f1.1.trans hc.1), Option.bind_some]
    rfl
  · show fX3_best _ (some 117) (nI n) r = _
    rw [fX3_best, mz (out Mc y.toInt64) hmc, Option.bind_some, (num_v _ hn).2, Option.bind_some, if_neg (by decide), (sgn_v _ hr0).2, Option.bind_some, if_neg (by decide), mok _ hm2, Option.bind_some, fX3_bestForm, mok _ hm2, Option.bind_some, d1, Option.bind_some]
    by_cases h0 : cntd (rv (mI M 118) n) r = 0
    · rw [if_pos (hL.mpr h0), Option.bind_some, ← hy, if_pos h0]
    · rw [if_neg (fun q => h0 (hL.mp q)), mo9 (scr (zap (out Mc y.toInt64) 0) f2 g2 x2) hmc, Option.bind_some, q_form (scr (zap (out Mc y.toInt64) 0) f2 g2 x2) hmc rfl, Option.bind_some, Option.bind_some, scr_122, form_cg (d2 (by rw [hb1]; exact h0)), ← hy, if_neg h0]
  · unfold scr; rw [mI_eq, uq_ne _ _ (by decide), zap_0]
