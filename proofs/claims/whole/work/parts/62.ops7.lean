/-! ===== root, unroot ===== -/
theorem root_c (x : Int32) : (∀ M, fX3_in M x (-9) 9 = some (if x < -9 then 0 else if 9 < x then 0 else 1)) := fun M => rfl
theorem cnt_eq {v : Nat → Int32} {i : Nat} (h : v 45 = nI i) (hi : i < 2 ^ 31) : cnt v = i := by unfold cnt; rw [h, nI_clamp hi]
theorem b_root {M : Mem} (hI : Inv M) (x : Int32) : Bth (fL_root M (some 0) x (some 126)) (fun M1 => fX3_root M1 (some 117) x) := by
  have hc0 := hI.hc
  have hm0 := hI.hm
  by_cases h1 : x < -9
  · refine Bth.fail hI (code := 1) ?_ (by decide) ?_
    · rw [fL_root, kk M hc0, Option.bind_some, fX2_root, if_pos h1, Option.bind_some, thr_l, if_pos rfl]
    · show fX3_root M (some 117) x = _
      rw [fX3_root, mz M hm0, Option.bind_some, root_c, if_pos h1, Option.bind_some, if_pos rfl, mok (zap M 0) hm0, Option.bind_some, q_fz M hm0, Option.bind_some]
  · by_cases h2 : x ≤ 9
    · have h2' : ¬ (9 : Int32) < x := fun q => by have := lt_i.mp q; have := le_i.mp h2; omega
      have hrt : rtok x := ⟨by
        rw [le_i]
        have : ¬ x.toInt < (-9 : Int32).toInt := fun q => h1 (lt_i.mpr q)
        omega, h2⟩
      obtain ⟨c, l, hc6, h3, h7, ho, Mc, es, hC⟩ := cs_save hI
      have hc := hC.hc
      obtain ⟨o1, o2, ⟨o8, o45⟩, o4⟩ := hI.ok
      have e2c : mI Mc 1 2 = nI (cnt (mI M 118)) := by rw [hC.rep.2.1, ← o45]
      by_cases h8 : cnt (mI M 118) < 8
      · -- taken in
        have hv2 : cnt (uq (uq (mI M 118) (46 + cnt (mI M 118)) x) 45 (nI (cnt (mI M 118) + 1))) = cnt (mI M 118) + 1 := cnt_eq (uq_eq _ _ _) (by omega)
        have hrv : ∀ t, t < 5 → rv (uq (uq (mI M 118) (46 + cnt (mI M 118)) x) 45 (nI (cnt (mI M 118) + 1))) t = rv (mI M 118) t := fun t ht => by
          rw [rv_sc _ (by decide) _ ht, rv_sc _ (by omega) _ ht]
        have hok : OkV (uq (uq (mI M 118) (46 + cnt (mI M 118)) x) 45 (nI (cnt (mI M 118) + 1))) := by
          refine ⟨fun i hi => by rw [uq_ne _ _ (by omega), uq_ne _ _ (by omega)]; exact o1 i hi, fun t ht => by rw [hrv t ht]; exact o2 t ht, ?_, fun i hi => ?_⟩
          · unfold OkC
            rw [hv2, uq_eq]
            exact ⟨by omega, rfl⟩
          · rw [hv2] at hi
            rw [uq_ne _ _ (by omega)]
            by_cases hi2 : i = cnt (mI M 118)
            · rw [hi2, uq_eq]; exact hrt
            · rw [uq_ne _ _ (by omega)]; exact o4 i (by omega)
        have hC2 : Cs M c l (uq (uq (mI M 118) (46 + cnt (mI M 118)) x) 45 (nI (cnt (mI M 118) + 1))) (setA (setA Mc (1 + 7) (uq (mI Mc (1 + 7)) (cnt (mI M 118)) x)) 1 (uq (mI Mc 1) 2 (nI (cnt (mI M 118) + 1)))) := by
          obtain ⟨r1, r2, r3, r4, r5⟩ := hC.rep
          refine hC.now ((Fr.set ⟨by omega, by omega⟩).trans (Fr.set ⟨by omega, by omega⟩)) ⟨fun t ht => ?_, by rw [mI_eq, uq_eq, uq_eq], fun i hi => ?_, ?_, ?_⟩
          · rw [hrv t ht, ← r1 t ht]
            unfold rC
            rw [mI_ne _ _ (by omega), mI_ne _ _ (by omega)]
          · rw [hv2] at hi
            rw [mI_ne _ _ (by omega), mI_eq, uq_ne _ _ (by omega : 46 + i ≠ 45)]
            by_cases hi2 : i = cnt (mI M 118)
            · rw [hi2, uq_eq, uq_eq]
            · rw [uq_ne _ _ hi2, uq_ne _ _ (by omega)]; exact r3 i (by omega)
          · rw [mI_eq, uq_ne _ _ (by decide), uq_ne _ _ (by decide), uq_ne _ _ (by omega)]; exact r4
          · rw [mI_eq, uq_ne _ _ (by decide), uq_ne _ _ (by decide), uq_ne _ _ (by omega)]; exact r5
        have hMc : HM (setA (setA Mc (1 + 7) (uq (mI Mc (1 + 7)) (cnt (mI M 118)) x)) 1 (uq (mI Mc 1) 2 (nI (cnt (mI M 118) + 1)))) := hI.hm.frC hC2.2
        have xm : ∀ N, HM N → (∀ b, 117 ≤ b → b ≤ 122 → mI N b = mI M b) → ∃ N1, FrM N N1 ∧ Sv M c l (mI M 118) N1 ∧ fX3_root N (some 117) x = some (setA N1 118 (uq (uq (mI M 118) (46 + cnt (mI M 118)) x) 45 (nI (cnt (mI M 118) + 1))), nI (cnt (mI M 118) + 1)) := by
          intro N hN he
          obtain ⟨N1, e1, s1, f1⟩ := x_saves hN he hc6 h3 h7
          refine ⟨N1, f1, s1, ?_⟩
          have h := s1.1
          have ev := s1.2.2.2.2.1
          have z1 : uq (mI M 118) (46 + cnt (mI M 118)) x 45 = nI (cnt (mI M 118)) := by rw [uq_ne _ _ (by omega), ← o45]
          rw [fX3_root, mz N hN, Option.bind_some, root_c, if_neg h1, if_neg h2', Option.bind_some, if_neg (by decide), mok (zap N 0) hN, Option.bind_some, e1, Option.bind_some, show (45 : Int32) = nI 45 from rfl]
          simp (disch := first | omega | (simp only [HM_setA, HM_setJ, h]; done) | (simp only [lm6, lm7, lm8, lm0, lm1, lm2]; omega)) only [mo1, mo2, mo4, mo5, mo6, mo8, mo9, mo11, mog, mop, mogJ, mopJ, mok, moa, mow, moaJ, mowJ, moaZ, mowZ, Option.bind_some, mI_eq, mI_ne, mJ_eq, mJ_ne, mI_setJ, mJ_setA, setA_setA, setJ_setJ, uq_eq, uq_ne, uq_uq, nI_1, ev, o45, ix46, z1]
          rw [if_neg (show ¬ nI (cnt (mI M 118)) = 8 from fun q => by have := (nI_eq (b := 8) (by omega) (by decide)).mp q; omega)]
        obtain ⟨N1, f2, s2, e2⟩ := xm (out (setA (setA Mc (1 + 7) (uq (mI Mc (1 + 7)) (cnt (mI M 118)) x)) 1 (uq (mI Mc 1) 2 (nI (cnt (mI M 118) + 1)))) (nI (cnt (mI M 118) + 1)).toInt64) hMc (out_at hC2 _)
        refine Bth.s hI ho hC2 (y := nI (cnt (mI M 118) + 1)) ?_ e2 (f2.trans FrM.s) (sv_set s2) (eqv.refl _) hok
        have k1 : HC0 (setA Mc (1 + 7) (uq (mI Mc (1 + 7)) (cnt (mI M 118)) x)) := hc
        have k2 : HC0 (setA (setA Mc (1 + 7) (uq (mI Mc (1 + 7)) (cnt (mI M 118)) x)) 1 (uq (mI Mc 1) 2 (nI (cnt (mI M 118) + 1)))) := hc
        rw [fL_root, kk M hc0, Option.bind_some, fX2_root, if_neg h1, if_pos h2, kk M hc0, Option.bind_some, es, Option.bind_some, k0 Mc hc, Option.bind_some, bg Mc 1 2 blk_1 hc, Option.bind_some, e2c, if_pos (show nI (cnt (mI M 118)) < 8 from nI_lt h8 (by decide)), Option.bind_some, bk1 Mc 1 blk_1 hc, Option.bind_some, Option.bind_some, bg Mc 1 2 blk_1 hc, Option.bind_some, e2c, bw7 Mc 1 _ x h8 blk_1 hc, Option.bind_some, k0 _ k1, Option.bind_some, bg _ 1 2 blk_1 k1, Option.bind_some, mI_ne _ _ (by decide), e2c, nI_1, bp _ 1 2 _ blk_1 k1, Option.bind_some, mI_ne _ _ (by decide), k0 _ k2, Option.bind_some, bg _ 1 2 blk_1 k2, Option.bind_some, mI_eq, uq_eq, Option.bind_some, thr_r]
        exact out_fin hMc.1 _
      · -- eight already
        have h8e : cnt (mI M 118) = 8 := by omega
        have hC2 : Cs M c l (uq (mI M 118) 55 (mI M 118 55 + 1)) (setA Mc 1 (uq (mI Mc 1) 4 (mI M 118 55 + 1))) := hC.now (Fr.set ⟨by omega, by omega⟩) (rep_sc hC.rep o8 (Or.inr ⟨rfl, rfl⟩) _)
        have hMc : HM (setA Mc 1 (uq (mI Mc 1) 4 (mI M 118 55 + 1))) := hI.hm.frC hC2.2
        obtain ⟨N1, e1, s1, f1⟩ := x_saves (N := out (setA Mc 1 (uq (mI Mc 1) 4 (mI M 118 55 + 1))) (-9 : Int32).toInt64) hMc (out_at hC2 _) hc6 h3 h7
        refine Bth.s hI ho hC2 (y := -9) (M2 := setA N1 118 (uq (mI M 118) 55 (mI M 118 55 + 1))) ?_ ?_ (f1.trans FrM.s) (sv_set s1) (eqv.refl _) (okv_sc hI.ok (Or.inr rfl) _)
        · rw [fL_root, kk M hc0, Option.bind_some, fX2_root, if_neg h1, if_pos h2, kk M hc0, Option.bind_some, es, Option.bind_some, k0 Mc hc, Option.bind_some, bg Mc 1 2 blk_1 hc, Option.bind_some, e2c, if_neg (show ¬ nI (cnt (mI M 118)) < 8 from nI_nlt (a := cnt (mI M 118)) (b := 8) (by omega) (by omega)), Option.bind_some, bg Mc 1 4 blk_1 hc, Option.bind_some, bp Mc 1 4 _ blk_1 hc, Option.bind_some, Option.bind_some, thr_r, hC.rep.2.2.2.2]
          exact out_fin hMc.1 _
        · show fX3_root _ (some 117) x = _
          rw [fX3_root, mz (out (setA Mc 1 (uq (mI Mc 1) 4 (mI M 118 55 + 1))) (-9 : Int32).toInt64) hMc, Option.bind_some, root_c, if_neg h1, if_neg h2', Option.bind_some, if_neg (by decide), mok (zap (out (setA Mc 1 (uq (mI Mc 1) 4 (mI M 118 55 + 1))) (-9 : Int32).toInt64) 0) hMc, Option.bind_some, e1, Option.bind_some, mo1 _ s1.1, Option.bind_some, show (45 : Int32) = nI 45 from rfl, moa N1 118 45 (by decide) s1.1, Option.bind_some, s1.2.2.2.2.1, o45, h8e, if_pos (by decide), mok _ s1.1, Option.bind_some, x_refuse s1, Option.bind_some]
    · have h2' : (9 : Int32) < x := by
        rw [lt_i]
        have : ¬ x.toInt ≤ (9 : Int32).toInt := fun q => h2 (le_i.mpr q)
        omega
      refine Bth.fail hI (code := 1) ?_ (by decide) ?_
      · rw [fL_root, kk M hc0, Option.bind_some, fX2_root, if_neg h1, if_neg h2, Option.bind_some, thr_l, if_pos rfl]
      · show fX3_root M (some 117) x = _
        rw [fX3_root, mz M hm0, Option.bind_some, root_c, if_neg h1, if_pos h2', Option.bind_some, if_pos rfl, mok (zap M 0) hm0, Option.bind_some, q_fz M hm0, Option.bind_some]
