/-! ===== unroot, lower ===== -/
/-- without a wrapper -/
def Bt0 (o1 : Option (Mem × Int32)) (o3 : Mem → Option (Mem × Int32)) : Prop := ∃ M1 M2 y, o1 = some (M1, y) ∧ HM M1 ∧ o3 M1 = some (M2, y) ∧ Inv M2
theorem v_unroot {M : Mem} (hI : Inv M) : Bt0 (fX2_unroot M (some 0)) (fun M1 => fX3_unroot M1 (some 117)) := by
  have hc0 := hI.hc
  obtain ⟨c, l, hc6, h3, h7, ho, Mc, es, hC⟩ := cs_save hI
  have hc := hC.hc
  obtain ⟨o1, o2, ⟨o8, o45⟩, o4⟩ := hI.ok
  have e2c : mI Mc 1 2 = nI (cnt (mI M 118)) := by rw [hC.rep.2.1, ← o45]
  by_cases hq0 : cnt (mI M 118) = 0
  · have hC2 : Cs M c l (uq (mI M 118) 55 (mI M 118 55 + 1)) (setA Mc 1 (uq (mI Mc 1) 4 (mI M 118 55 + 1))) := hC.now (Fr.set ⟨by omega, by omega⟩) (rep_sc hC.rep o8 (Or.inr ⟨rfl, rfl⟩) _)
    have hMc : HM (setA Mc 1 (uq (mI Mc 1) 4 (mI M 118 55 + 1))) := hI.hm.frC hC2.2
    obtain ⟨N1, e1, s1, f1⟩ := x_saves hMc (fun b h1 _ => hC2.at h1) hc6 h3 h7
    refine ⟨_, _, 99, ?_, hMc, ?_, inv_of hI ho hC2.1 hMc (f1.trans FrM.s) (sv_set s1) (eqv.refl _) (okv_sc hI.ok (Or.inr rfl) _)⟩
    · rw [fX2_unroot, kk M hc0, Option.bind_some, es, Option.bind_some, k0 Mc hc, Option.bind_some, bg Mc 1 2 blk_1 hc, Option.bind_some, e2c, hq0, if_neg (by decide), Option.bind_some, bg Mc 1 4 blk_1 hc, Option.bind_some, bp Mc 1 4 _ blk_1 hc, Option.bind_some, hC.rep.2.2.2.2]
    · show fX3_unroot _ (some 117) = _
      rw [fX3_unroot, mz _ hMc, Option.bind_some, mok (zap (setA Mc 1 (uq (mI Mc 1) 4 (mI M 118 55 + 1))) 0) hMc, Option.bind_some, e1, Option.bind_some, mo1 _ s1.1, Option.bind_some, show (45 : Int32) = nI 45 from rfl, moa N1 118 45 (by decide) s1.1, Option.bind_some, s1.2.2.2.2.1, o45, hq0, if_pos (by decide), mok _ s1.1, Option.bind_some, x_refuse s1, Option.bind_some]
  · obtain ⟨q, hq⟩ : ∃ q, cnt (mI M 118) = q + 1 := ⟨cnt (mI M 118) - 1, by omega⟩
    rw [hq] at e2c o8 o45
    have hv2 : cnt (uq (mI M 118) 45 (nI q)) = q := cnt_eq (uq_eq _ _ _) (by omega)
    have hok : OkV (uq (mI M 118) 45 (nI q)) := by
      refine ⟨fun i hi => by rw [uq_ne _ _ (by omega)]; exact o1 i hi, fun t ht => by rw [rv_sc _ (by decide) _ ht]; exact o2 t ht, ?_, fun i hi => ?_⟩
      · unfold OkC
        rw [hv2, uq_eq]
        exact ⟨by omega, rfl⟩
      · rw [hv2] at hi
        rw [uq_ne _ _ (by omega)]; exact o4 i (by omega)
    have hC2 : Cs M c l (uq (mI M 118) 45 (nI q)) (setA Mc 1 (uq (mI Mc 1) 2 (nI q))) := by
      obtain ⟨r1, r2, r3, r4, r5⟩ := hC.rep
      refine hC.now (Fr.set ⟨by omega, by omega⟩) ⟨fun t ht => ?_, by rw [mI_eq, uq_eq, uq_eq], fun i hi => ?_, ?_, ?_⟩
      · rw [rv_sc _ (by decide) _ ht, ← r1 t ht]
        unfold rC
        rw [mI_ne _ _ (by omega)]
      · rw [hv2] at hi
        rw [mI_ne _ _ (by decide), uq_ne _ _ (by omega)]; exact r3 i (by omega)
      · rw [mI_eq, uq_ne _ _ (by decide), uq_ne _ _ (by decide)]; exact r4
      · rw [mI_eq, uq_ne _ _ (by decide), uq_ne _ _ (by decide)]; exact r5
    have hMc : HM (setA Mc 1 (uq (mI Mc 1) 2 (nI q))) := hI.hm.frC hC2.2
    have hc2 := hC2.hc
    obtain ⟨N1, e1, s1, f1⟩ := x_saves hMc (fun b h1 _ => hC2.at h1) hc6 h3 h7
    have heq : eqv (uq (mI M 118) 45 (nI q)) (uq (uq (mI M 118) 45 (nI q)) (46 + q) 0) := by
      intro i hi hrel
      rw [hv2] at hrel
      rw [uq_ne (uq (mI M 118) 45 (nI q)) _ (by omega)]
    refine ⟨_, setA N1 118 (uq (uq (mI M 118) 45 (nI q)) (46 + q) 0), mI M 118 (46 + q), ?_, hMc, ?_, inv_of hI ho hC2.1 hMc (f1.trans FrM.s) (sv_set s1) heq hok⟩
    · rw [fX2_unroot, kk M hc0, Option.bind_some, es, Option.bind_some, k0 Mc hc, Option.bind_some, bg Mc 1 2 blk_1 hc, Option.bind_some, e2c, if_pos (show 0 < nI (q + 1) from nI_lt (a := 0) (by omega) (by omega)), Option.bind_some, bg Mc 1 2 blk_1 hc, Option.bind_some, e2c, nI_pred, bp Mc 1 2 _ blk_1 hc, Option.bind_some, k0 _ hc2, Option.bind_some, bk1 _ 1 blk_1 hc2, Option.bind_some, Option.bind_some, bg _ 1 2 blk_1 hc2, Option.bind_some, mI_eq, uq_eq, ba7 _ 1 q (by omega) blk_1 hc2, Option.bind_some, mI_ne _ _ (by decide), hC.rep.2.2.1 q (by omega)]
    · show fX3_unroot _ (some 117) = _
      have h := s1.1
      have ev := s1.2.2.2.2.1
      have z1 : uq (mI M 118) 45 (nI q) (46 + q) = mI M 118 (46 + q) := uq_ne _ _ (by omega)
      rw [fX3_unroot, mz _ hMc, Option.bind_some, mok (zap (setA Mc 1 (uq (mI Mc 1) 2 (nI q))) 0) hMc, Option.bind_some, e1, Option.bind_some, show (45 : Int32) = nI 45 from rfl]
      simp (disch := first | omega | (simp only [HM_setA, HM_setJ, h]; done) | (simp only [lm6, lm7, lm8, lm0, lm1, lm2]; omega)) only [mo1, mo2, mo4, mo5, mo6, mo8, mo9, mo11, mog, mop, mogJ, mopJ, mok, moa, mow, moaJ, mowJ, moaZ, mowZ, Option.bind_some, mI_eq, mI_ne, mJ_eq, mJ_ne, mI_setJ, mJ_setA, setA_setA, setJ_setJ, uq_eq, uq_ne, uq_uq, nI_1, ev, o45, ix46, nI_pred, z1]
      rw [if_neg (show ¬ nI (q + 1) = 0 from nI_ne0 (by omega) (by omega))]
/-! ===== lower ===== -/
def sg (x : Int64) : Int32 := if lg_cmp x 0 ≤ 0 then (if 0 ≤ lg_cmp x 0 then 0 else -1) else 1
theorem sg_sgn (x : Int64) : sgn (sg x) := by
  unfold sg
  split
  · split
    · exact sgn_0
    · exact sgn_neg sgn_1
  · exact sgn_1
theorem whW_top (v : Nat → Int32) : ∀ i, whW v i i = 1 := by
  intro i
  induction i with
  | zero => rfl
  | succ i ih =>
    show mulW (v (46 + i)) (whW v i) (i + 1) = 1
    unfold mulW
    rw [if_neg (by omega), Nat.add_sub_cancel, ih, whW_0 v i (i + 1) (by omega), Int64.mul_zero, Int64.sub_zero]
theorem v_lower {M : Mem} (hI : Inv M) {m : Nat} (hm : m < 5) : Bth (fL_lower M (some 0) (nI m) (some 126)) (fun M1 => fX3_lower M1 (some 117) (nI m)) := by
  obtain ⟨c, l, hc6, h3, h7, ho, Mc, es, hC⟩ := cs_save hI
  have hc0 := hI.hc
  obtain ⟨o1, o2, ⟨o8, o45⟩, o4⟩ := hI.ok
  have ew := s_expand Mc hC.hc hC.rep ⟨o8, o45⟩ o4
  have hW : Cs M c l (mI M 118) (setJ Mc 13 (cutW (mJ Mc 13) (whW (mI M 118) (cnt (mI M 118))))) := hC.whole _
  generalize hMw : setJ Mc 13 (cutW (mJ Mc 13) (whW (mI M 118) (cnt (mI M 118)))) = Mw at ew hW
  have hw := hW.hc
  obtain ⟨hr, er⟩ := hW.row hm
  have hwh : ∀ k, k < 9 → mJ Mw 13 k = whW (mI M 118) (cnt (mI M 118)) k := fun k hk => by rw [← hMw, mJ_eq, cut_lt _ _ hk]
  generalize hF : (fun k => sg (whW (mI M 118) (cnt (mI M 118)) k)) = F
  have hFk : ∀ k, F k = sg (whW (mI M 118) (cnt (mI M 118)) k) := fun k => by rw [← hF]
  have hok : OkV (bq (mI M 118) (9 * m) 9 F) := okv_blk hI.ok hm (fun i _ => by rw [hFk]; exact sg_sgn _) ⟨cnt (mI M 118), by omega, by rw [hFk, whW_top]; decide⟩
  have e := loopF (fX2_lower_24 (some 0) (nI m) (some (1 + 2 + m))) 9 (fun i => setA Mw (1 + 2 + m) (bq (mI Mw (1 + 2 + m)) 0 i F)) (fun i hi k n => by
    have e2 := bq_s (mI Mw (1 + 2 + m)) 0 i F
    rw [Nat.zero_add] at e2
    have hC3 : HC0 (setA Mw (1 + 2 + m) (bq (mI Mw (1 + 2 + m)) 0 i F)) := hw
    have hw2 := wI_w (M := setA Mw (1 + 2 + m) (bq (mI Mw (1 + 2 + m)) 0 i F)) (k := i) (v := F i) hr hi
    rw [mI_eq, setA_setA, e2] at hw2
    rw [fX2_lower_24, if_neg (ge9_f i hi), k7 _ hC3, Option.bind_some, aw _ hi hC3, Option.bind_some, mJ_setA, hwh i hi, show fX2_signOf (setA Mw (1 + 2 + m) (bq (mI Mw (1 + 2 + m)) 0 i F)) (whW (mI M 118) (cnt (mI M 118)) i) = some (F i) from congrArg some (hFk i).symm, Option.bind_some, hw2, Option.bind_some, nI_1]) (fun k n => by rw [fX2_lower_24, if_pos ge9_t]) 9 0 FU rfl (fu_9 (by decide))
  rw [bq_0, setA_id, nI_0] at e
  have hC2 : Cs M c l (bq (mI M 118) (9 * m) 9 F) (setA Mw (1 + 2 + m) (bq (mI Mw (1 + 2 + m)) 0 9 F)) := by
    refine hW.now (Fr.set ⟨by omega, by omega⟩) (rep_blk hW.rep hm _ (Fr.set rfl) (fun k hk => ?_))
    rw [mI_eq, bq, if_pos (by omega)]; rfl
  obtain ⟨hr3, er3⟩ := hC2.row hm
  have ed := s_degreeOf hr3
  rw [er3] at ed
  have hMc : HM (setA Mw (1 + 2 + m) (bq (mI Mw (1 + 2 + m)) 0 9 F)) := hI.hm.frC hC2.2
  generalize hy : nI (deg (rv (bq (mI M 118) (9 * m) 9 F) m)) = y at ed
  have xm : ∀ N, HM N → (∀ b, 117 ≤ b → b ≤ 122 → mI N b = mI M b) → ∃ N1, FrM N N1 ∧ Sv M c l (mI M 118) N1 ∧ fX3_lower N (some 117) (nI m) = some (setA N1 118 (bq (mI M 118) (9 * m) 9 F), y) := by
    intro N hN he
    obtain ⟨N0, e1, s0, f0⟩ := x_saves hN he hc6 h3 h7
    have ev0 := s0.2.2.2.2.1
    have em := q_multiplies N0 s0.1 (by rw [ev0]; exact ⟨o8, o45⟩)
    rw [ev0] at em
    have hmq : Mqy N0 (setJ N0 125 (cutW (mJ N0 125) (whW (mI M 118) (cnt (mI M 118))))) := mq_setJ N0 _ (by decide)
    generalize hN1 : setJ N0 125 (cutW (mJ N0 125) (whW (mI M 118) (cnt (mI M 118)))) = N1 at em hmq
    have s1 : Sv M c l (mI M 118) N1 := sv_mq s0 hmq (by rw [← hN1]; rfl)
    have hwh2 : ∀ k, k < 9 → mJ N1 125 k = whW (mI M 118) (cnt (mI M 118)) k := fun k hk => by rw [← hN1, mJ_eq, cut_lt _ _ hk]
    refine ⟨N1, f0.trans hmq.1, s1, ?_⟩
    have h := s1.1
    have ev := s1.2.2.2.2.1
    have s2 : Sv M c l (bq (mI M 118) (9 * m) 9 F) (setA N1 118 (bq (mI M 118) (9 * m) 9 F)) := sv_set s1
    have edm := x_deg s2 hm
    rw [hy] at edm
    have el := loopF (fX3_lower_28 (some 117) (nI m)) 9 (fun i => setA N1 118 (bq (mI M 118) (9 * m) i F)) (fun i hi k q => by
      have e2 := bq_s (mI M 118) (9 * m) i F
      rw [hFk i] at e2
      unfold sg at e2
      rw [fX3_lower_28, if_neg (ge9_f i hi), ix9]
      simp (disch := first | omega | (simp only [HM_setA, HM_setJ, h]; done) | (simp only [lm6, lm7, lm8, lm0, lm1, lm2]; omega)) only [mo1, mo2, mo4, mo5, mo6, mo8, mo9, mo11, mog, mop, mogJ, mopJ, mok, moa, mow, moaJ, mowJ, moaZ, mowZ, Option.bind_some, mI_eq, mI_ne, mJ_eq, mJ_ne, mI_setJ, mJ_setA, setA_setA, setJ_setJ, uq_eq, uq_ne, uq_uq, nI_1, hwh2 i hi]
      by_cases hl : lg_cmp (whW (mI M 118) (cnt (mI M 118)) i) 0 ≤ 0
      · rw [if_pos hl] at e2 ⊢
        rw [e2]
      · rw [if_neg hl] at e2 ⊢
        rw [e2]) (fun k q => by rw [fX3_lower_28, if_pos ge9_t]) 9 0 FU rfl (fu_9 (by decide))
    rw [bq_0, ← ev, setA_id, ev, nI_0] at el
    rw [fX3_lower, mz N hN, Option.bind_some, (num_v _ hm).2, Option.bind_some, if_neg (by decide), mok (zap N 0) hN, Option.bind_some, e1, Option.bind_some, mok N0 s0.1, Option.bind_some, em, Option.bind_some, el, mok _ s2.1, Option.bind_some, edm, Option.bind_some]
  obtain ⟨N1, f2, s2, e2⟩ := xm (out (setA Mw (1 + 2 + m) (bq (mI Mw (1 + 2 + m)) 0 9 F)) y.toInt64) hMc (out_at hC2 _)
  refine Bth.s hI ho hC2 (y := y) ?_ e2 (f2.trans FrM.s) (sv_set s2) (eqv.refl _) hok
  rw [fL_lower, kk M hc0, Option.bind_some, fX2_lower, (num_v _ hm).1, Option.bind_some, thr_r, kk M hc0, Option.bind_some, es, Option.bind_some, kk Mc hC.hc, Option.bind_some, ew, Option.bind_some, now_row hw hm, e, ed, Option.bind_some, Option.bind_some, thr_r]
  exact out_fin hMc.1 _
