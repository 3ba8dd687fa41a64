/-! ===== the class's digest, its end ===== -/
theorem c_whole {M : Mem} (hI : Inv M) : ∃ M2, Kp M M2 ∧ ∀ h0, fX2_mixedWhole M (some 0) h0 = some (M2, hx (hx h0 (whoL (mI M 118) 9)) (rooL (mI M 118) (cnt (mI M 118)))) := by
  have hc := hI.hc
  obtain ⟨o1, o2, o3, o4⟩ := hI.ok
  have hr : Rep M 1 (mI M 118) := hI.cr.1
  have ew := s_expand M hc hr o3 o4
  have hc1 := o3.1
  have e2 : mI M 1 2 = nI (cnt (mI M 118)) := by rw [hr.2.1, ← o3.2]
  have hW : HC0 (setJ M 13 (cutW (mJ M 13) (whW (mI M 118) (cnt (mI M 118))))) := hc
  have hIW : Inv (setJ M 13 (cutW (mJ M 13) (whW (mI M 118) (cnt (mI M 118))))) := hI
  have hmW : mI (setJ M 13 (cutW (mJ M 13) (whW (mI M 118) (cnt (mI M 118))))) = mI M := rfl
  have ha : ∀ k, k < 9 → aJ (setJ M 13 (cutW (mJ M 13) (whW (mI M 118) (cnt (mI M 118))))) (some 13) (nI k) = some (whW (mI M 118) (cnt (mI M 118)) k) := fun k hk => by rw [aw _ hk hW, mJ_eq, cut_lt _ _ hk]
  generalize setJ M 13 (cutW (mJ M 13) (whW (mI M 118) (cnt (mI M 118)))) = W at ew hW hIW hmW ha
  have l1 := fun h0 => loopHM (fX2_mixedWhole_9 (some 0) h0) 9 (fun k => [whW (mI M 118) (cnt (mI M 118)) k]) W (fun i hi k n h => by
    rw [fX2_mixedWhole_9, if_neg (ge9_f i hi), k7 W hW, Option.bind_some, ha i hi, Option.bind_some, s_mixed, Option.bind_some, nI_1]
    rfl) (fun k n h => by rw [fX2_mixedWhole_9, if_pos ge9_t]) FU (fu_9 (by decide))
  have l2 := fun h0 => loopHM (fX2_mixedWhole_37 (some 0) h0) (cnt (mI M 118)) (fun i => [(mI M 118 (46 + i)).toInt64]) W (fun i hi k n h => by
    rw [fX2_mixedWhole_37, k0 W hW, Option.bind_some, bg W 1 2 blk_1 hW, Option.bind_some, hmW, e2, if_neg (ge_f hi (by omega)), if_neg (show ¬ (8 : Int32) ≤ nI i from ge_f (N := 8) (by omega) (by decide)), Option.bind_some, bk1 W 1 blk_1 hW, Option.bind_some, ba7 W 1 i (by omega) blk_1 hW, Option.bind_some, s_mixed, Option.bind_some, hmW, hr.2.2.1 i hi, nI_1]
    rfl) (fun k n h => by
    rw [fX2_mixedWhole_37, k0 W hW, Option.bind_some, bg W 1 2 blk_1 hW, Option.bind_some, hmW, e2, if_pos (nI_le (Nat.le_refl _) (by omega))]) FU (fu_9 (by omega))
  refine ⟨W, ⟨hIW, fun b _ => by rw [hmW]⟩, fun h0 => ?_⟩
  rw [fX2_mixedWhole, kk M hc, Option.bind_some, ew, Option.bind_some, l1, l2]
  rfl
theorem c_texts {M : Mem} (hI : Inv M) {l : Nat} (hl : l ≤ 60) (h6 : mI M 0 6 = nI l) (h11 : ∀ s, s < 2 → mI M 11 s = mI M 121 s) (h12 : ∀ i, i < l → mI M 12 i = mI M 122 i) (h0 : Int64) : fX2_mixedTexts M (some 0) h0 = some (hx (mx (hx h0 (kepL (mI M 121) 2)) (nI l).toInt64) (texL (mI M 122) l)) := by
  have hc := hI.hc
  have l1 := loopH (fX2_mixedTexts_5 M (some 0) h0) 2 (fun s => [if mI M 121 s = 0 then 0 else 1]) (fun i hi k n h => by
    have ez : aZ M (some 11) (nI i) = some (mI M 11 i) := aZ_at (n := 2) (hc.lt (by decide)) rfl rfl hi (by decide)
    rw [fX2_mixedTexts_5, if_neg (show ¬ (2 : Int32) ≤ nI i from ge_f (N := 2) hi (by decide)), k4 M hc, Option.bind_some, ez, Option.bind_some, s_mixed, Option.bind_some, nI_1, h11 i hi]
    rfl) (fun k n h => by rw [fX2_mixedTexts_5, if_pos (by decide)]) FU (fu_9 (by decide))
  have l2 := loopH (fX2_mixedTexts_50 M (some 0) h0) l (fun i => [(mI M 122 i).toInt64]) (fun i hi k n h => by
    rw [fX2_mixedTexts_50, kg M 6 hc, Option.bind_some, h6, if_neg (ge_f hi (by omega)), if_neg (show ¬ (60 : Int32) ≤ nI i from ge_f (N := 60) (by omega) (by decide)), k5 M hc, Option.bind_some, ab M (by omega) hc, Option.bind_some, s_mixed, Option.bind_some, nI_1, h12 i hi]
    rfl) (fun k n h => by rw [fX2_mixedTexts_50, kg M 6 hc, Option.bind_some, h6, if_pos (nI_le (Nat.le_refl _) (by omega))]) FU (fu_9 (by omega))
  rw [fX2_mixedTexts, l1, kg M 6 hc, Option.bind_some, h6, s_mixed, Option.bind_some, l2]
  rfl
theorem c_digest {M : Mem} (hI : Inv M) {c l : Nat} (hc6 : c ≤ 6) (hl : l ≤ 60) (h3 : mI M 117 3 = nI c) (h7 : mI M 117 7 = nI l) : ∃ M2, Kp M M2 ∧ fX2_digest M (some 0) = some (M2, hx 3623 (digL (mI M 118) c (mI M 121) l (mI M 122))) := by
  obtain ⟨-, c2, l2, r1, r2, r3, r4, r5, r6, r7, r8⟩ := hI.cr
  have ec : c2 = c := (nI_eq (by omega) (by omega)).mp (r3.symm.trans h3)
  rw [ec] at r4
  have e6 := c_dig6 hI r4
  obtain ⟨M1, p1, e31⟩ := c_dig31 hI
  have ep := fun h => c_pairs p1.1 h
  rw [p1.2 118 (by decide)] at ep
  obtain ⟨W, pW, ew⟩ := c_whole p1.1
  rw [p1.2 118 (by decide)] at ew
  have p2 := kp_tr p1 pW
  obtain ⟨-, c3, l3, t1, t2, t3, t4, t5, t6, t7, t8⟩ := p2.1.cr
  rw [p2.2 117 (by decide)] at t5
  have el : l3 = l := (nI_eq (by omega) (by omega)).mp (t5.symm.trans h7)
  rw [el] at t6 t8
  have et := fun h => c_texts p2.1 hl t6 t7 t8 h
  rw [p2.2 121 (by decide), p2.2 122 (by decide)] at et
  refine ⟨W, p2, ?_⟩
  rw [fX2_digest, e6, e31, kk M1 p1.1.hc, Option.bind_some, ep, Option.bind_some, Option.bind_some, ew, Option.bind_some, kk W p2.1.hc, Option.bind_some, et, Option.bind_some]
  unfold digL
  rw [hx_app, hx_app, hx_app, hx_app, hx_app, hx_app, hx_app, hx_one]
