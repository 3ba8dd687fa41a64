/-! ===== load ===== -/
theorem errF_ge (bf : Nat → Int32) : ∀ j i, i ≤ errF bf i j ∧ errF bf i j ≤ i + j ∧ (errF bf i j = i + j → ∀ t, i ≤ t → t < i + j → badB bf t = false) := by
  intro j
  induction j with
  | zero => intro i; exact ⟨Nat.le_refl _, Nat.le_refl _, fun _ t h1 h2 => by omega⟩
  | succ j ih =>
    intro i
    obtain ⟨h1, h2, h3⟩ := ih (i + 1)
    rw [errF]
    by_cases hb : badB bf i = true
    · rw [if_pos hb]
      exact ⟨Nat.le_refl _, by omega, fun h => by omega⟩
    · rw [if_neg hb]
      refine ⟨by omega, by omega, fun h t ht1 ht2 => ?_⟩
      by_cases hti : t = i
      · rw [hti]; exact eq_false_of_ne_true hb
      · exact h3 (by omega) t (by omega) (by omega)
def sgc (x : Int32) : Int32 := if x = 43 then 1 else if x = 45 then -1 else 0
theorem sgc_sgn (x : Int32) : sgn (sgc x) := by
  unfold sgc
  split
  · exact sgn_1
  · split
    · exact sgn_neg sgn_1
    · exact sgn_0
def ldF (bf : Nat → Int32) (l : Nat) : Nat → Int32 := fun k => if l ≤ k then 0 else sgc (bf (l - 1 - k))
theorem ldF_sgn (bf : Nat → Int32) (l k : Nat) : sgn (ldF bf l k) := by
  unfold ldF
  split
  · exact sgn_0
  · exact sgc_sgn _
theorem ldF_nz {bf : Nat → Int32} {l : Nat} (h0 : l ≠ 0) (he : errF bf 0 l = l) : l ≤ 9 ∧ ldF bf l (l - 1) ≠ 0 := by
  obtain ⟨_, _, h3⟩ := errF_ge bf l 0
  rw [Nat.zero_add] at h3
  have h4 := h3 he
  refine ⟨?_, ?_⟩
  · rcases Nat.lt_or_ge 9 l with h | h
    · have := h4 9 (by omega) h
      simp [badB] at this
    · exact h
  · have := h4 0 (Nat.le_refl _) (by omega)
    unfold ldF
    rw [if_neg (by omega), Nat.sub_self]
    simp only [badB, codeB, Bool.or_eq_false_iff, Bool.and_eq_false_iff] at this
    unfold sgc
    by_cases h1 : bf 0 = 43
    · rw [if_pos h1]; decide
    · rw [if_neg h1]
      by_cases h2 : bf 0 = 45
      · rw [if_pos h2]; decide
      · exfalso
        simp [h1, h2] at this
theorem Inv.savT {M M1 M2 : Mem} {sp : Nat → Nat} {c l : Nat} {v bf : Nat → Int32} (hC : CR M1 sp v ((savB (BM M c l) (mI M 118)).1, (savB (BM M c l) (mI M 118)).2.1, mI M 121, slM M, 0, bf)) (hM : HM M1) (hf : FrM M1 M2) (h3 : mI M2 117 3 = nI (min c 5 + 1)) (h7 : mI M2 117 7 = 0) (hv : eqv v (mI M2 118)) (e7 : mI M2 119 = bq (if c = 6 then shf (mI M 119) else mI M 119) (56 * (min c 5)) 56 (mI M 118)) (e8 : mI M2 120 = mI M 120) (e9 : mI M2 121 = mI M 121) (o0 : OkV (mI M 118)) (o1 : OkV v) (o2 : OkB (BM M c l)) : Inv M2 := by
  refine Inv.mk hC hM hf h3 (h7.trans nI_0.symm) hv (fun j hj => ?_) (fun s _ => ⟨by rw [e9], fun _ => ?_⟩) (fun i hi => by have hi' : i < 0 := hi; omega) o1 ⟨(o2.sav o0).1, (o2.sav o0).2.1, o2.2.2.1, Nat.zero_le _⟩
  · refine eqv.of fun i hi => ?_
    unfold svM
    rw [e7]
    exact svd_eq M c o2.1 hj hi
  · unfold slM; rw [e8]; exact eqv.refl _
theorem v_load {M : Mem} (hI : Inv M) {m : Nat} (hm : m < 5) : Bth (fL_load M (some 0) (nI m) (some 126)) (fun M1 => fX3_load M1 (some 117) (nI m)) := by
  have hc0 := hI.hc
  have hm0 := hI.hm
  obtain ⟨_, c0, l0, hc60, hl, h3', h3c, h7', h7c, _, hb⟩ := hI.cr
  have hse := s_error hc0 hl h7c hb
  have hqe := q_error (zap M 0) hm0 hl (by rw [zap_k _ _ (by decide), h7'])
  rw [zap_o _ _ (by decide)] at hqe
  by_cases h0 : l0 = 0
  · subst h0
    refine Bth.fail hI (code := 2) ?_ (by decide) ?_
    · rw [fL_load, kk M hc0, Option.bind_some, fX2_load, (num_v _ hm).1, Option.bind_some, thr_r, kg M 6 hc0, Option.bind_some, h7c, if_pos (by decide), Option.bind_some, thr_l, if_neg (by decide), if_pos rfl]
    · show fX3_load M (some 117) (nI m) = _
      rw [fX3_load, mz M hm0, Option.bind_some, (num_v _ hm).2, Option.bind_some, if_neg (by decide), mog (zap M 0) 7 hm0, Option.bind_some, zap_k _ _ (by decide), h7', if_pos (by decide), mok (zap M 0) hm0, Option.bind_some, q_fz M hm0, Option.bind_some]
  · have hlI : ¬ nI l0 = 0 := nI_ne0 (by omega) (by omega)
    obtain ⟨_, g2, _⟩ := errF_ge (mI M 122) l0 0
    by_cases he : errF (mI M 122) 0 l0 = l0
    · obtain ⟨hl9, hnz⟩ := ldF_nz h0 he
      obtain ⟨c, l, hc6, h3, h7, ho, Mc, es, hC⟩ := cs_save hI
      have hll : l = l0 := by
        have hl60 : l ≤ 60 := ho.2.2.2
        exact (nI_eq (by omega) (by omega)).mp (h7.symm.trans h7')
      subst hll
      have hc := hC.hc
      obtain ⟨sp, hCR⟩ := id hC.1
      have h6c : mI Mc 0 6 = nI l := hCR.2.2.2.2.2.2.1
      have hbc : ∀ i, i < l → mI Mc 12 i = mI M 122 i := hCR.2.2.2.2.2.2.2
      generalize hF : ldF (mI M 122) l = F at hnz
      have hFs : ∀ k, sgn (F k) := fun k => by rw [← hF]; exact ldF_sgn _ _ _
      obtain ⟨hr, er⟩ := hC.row hm
      have e := loopF (fX2_load_48 (some 0) (nI m) (some (1 + 2 + m))) 9 (fun i => setA Mc (1 + 2 + m) (bq (mI Mc (1 + 2 + m)) 0 i F)) (fun i hi k n => by
        have e2 := bq_s (mI Mc (1 + 2 + m)) 0 i F
        rw [Nat.zero_add] at e2
        have hC3 : HC0 (setA Mc (1 + 2 + m) (bq (mI Mc (1 + 2 + m)) 0 i F)) := hc
        have hw2 := wI_w (M := setA Mc (1 + 2 + m) (bq (mI Mc (1 + 2 + m)) 0 i F)) (k := i) (v := F i) hr hi
        rw [mI_eq, setA_setA, e2] at hw2
        rw [fX2_load_48, if_neg (ge9_f i hi), kg _ 6 hC3, Option.bind_some, mI_ne _ _ (by omega), h6c]
        by_cases hli : l ≤ i
        · have hFi : F i = 0 := by rw [← hF, ldF, if_pos hli]
          rw [hFi] at hw2
          rw [if_pos (nI_le hli (by omega)), hw2, Option.bind_some, nI_1]
        · have hFi : F i = sgc (mI M 122 (l - 1 - i)) := by rw [← hF, ldF, if_neg hli]
          have hix : nI l - 1 - nI i = nI (l - 1 - i) := by rw [pk_sub1 h0, pk_sub (by omega)]
          rw [if_neg (ge_f (by omega) (by omega)), k5 _ hC3, Option.bind_some, Option.bind_some, hix, ab _ (show l - 1 - i < 60 by omega) hC3, Option.bind_some, mI_ne _ _ (by omega), hbc _ (by omega), show fX2_signOfCode (setA Mc (1 + 2 + m) (bq (mI Mc (1 + 2 + m)) 0 i F)) (mI M 122 (l - 1 - i)) = some (F i) from congrArg some hFi.symm, Option.bind_some, hw2, Option.bind_some, nI_1]) (fun k n => by rw [fX2_load_48, if_pos ge9_t]) 9 0 FU rfl (fu_9 (by decide))
      rw [bq_0, setA_id, nI_0] at e
      have hok : OkV (bq (mI M 118) (9 * m) 9 F) := okv_blk hI.ok hm (fun i _ => hFs i) ⟨l - 1, by omega, hnz⟩
      have hC1 : Cs M c l (bq (mI M 118) (9 * m) 9 F) (setA Mc (1 + 2 + m) (bq (mI Mc (1 + 2 + m)) 0 9 F)) := by
        refine hC.now (Fr.set ⟨by omega, by omega⟩) (rep_blk hC.rep hm _ (Fr.set rfl) (fun k hk => ?_))
        rw [mI_eq, bq, if_pos (by omega)]; rfl
      generalize hM1 : setA Mc (1 + 2 + m) (bq (mI Mc (1 + 2 + m)) 0 9 F) = M1 at e hC1
      have hc1 := hC1.hc
      obtain ⟨sp1, hCR1⟩ := id hC1.1
      have ft : Fr (fun b => b = 0 ∨ b = 12) M1 (setA M1 0 (uq (mI M1 0) 6 0)) := Fr.set (Or.inl rfl)
      have hCR2 := hCR1.txt (show min c 5 + 1 ≤ 6 by omega) ft (l := 0) (bf := mI M 122) (by rw [mI_eq, uq_ne _ _ (by decide)]) (by rw [mI_eq, uq_eq]; rfl) (fun i hi => by omega)
      have fC2 : FrC M (setA M1 0 (uq (mI M1 0) 6 0)) := hC1.2.trans (ft.frC (fun b hb q => by omega))
      generalize hM2 : setA M1 0 (uq (mI M1 0) 6 0) = M2 at hCR2 fC2
      have hMc : HM M2 := hI.hm.frC fC2
      have ed := s_degreeOf (bRow (M := M2) hm blk_1 hCR2.1)
      rw [hCR2.2.2.1.1 m hm] at ed
      generalize hy : nI (deg (rv (bq (mI M 118) (9 * m) 9 F) m)) = y at ed
      have hout : ∀ b, 117 ≤ b → b ≤ 122 → mI (out M2 y.toInt64) b = mI M b := fun b h1 _ => (fC2.2.2 b h1).1
      obtain ⟨N1, e1, s1, f1⟩ := x_saves (N := out M2 y.toInt64) hMc hout hc6 h3 h7
      have h := s1.1
      obtain ⟨_, v0, v3, v7, v6, vs7, vs8, vs9, vs0⟩ := id s1
      have el := loopF (fX3_load_48 (some 117) (nI m)) 9 (fun i => setA N1 118 (bq (mI M 118) (9 * m) i F)) (fun i hi k q => by
        have e2 := bq_s (mI M 118) (9 * m) i F
        rw [fX3_load_48, if_neg (ge9_f i hi), ix9]
        by_cases hli : l ≤ i
        · have hFi : F i = 0 := by rw [← hF, ldF, if_pos hli]
          rw [hFi] at e2
          simp (disch := first | omega | (simp only [HM_setA, HM_setJ, h]; done) | (simp only [lm6, lm7, lm8, lm0, lm1, lm2]; omega)) only [mo1, mo2, mo4, mo5, mo6, mo8, mo9, mo11, mog, mop, mogJ, mopJ, mok, moa, mow, moaJ, mowJ, moaZ, mowZ, Option.bind_some, mI_eq, mI_ne, mJ_eq, mJ_ne, mI_setJ, mJ_setA, setA_setA, setJ_setJ, uq_eq, uq_ne, uq_uq, nI_1, v7, if_pos (nI_le hli (show i < 2 ^ 31 by omega)), e2]
        · have hFi : F i = sgc (mI M 122 (l - 1 - i)) := by rw [← hF, ldF, if_neg hli]
          have hix : nI l - 1 - nI i = nI (l - 1 - i) := by rw [pk_sub1 h0, pk_sub (by omega)]
          rw [hFi] at e2
          unfold sgc at e2
          simp (disch := first | omega | (simp only [HM_setA, HM_setJ, h]; done) | (simp only [lm6, lm7, lm8, lm0, lm1, lm2]; omega)) only [mo1, mo2, mo4, mo5, mo6, mo8, mo9, mo11, mog, mop, mogJ, mopJ, mok, moa, mow, moaJ, mowJ, moaZ, mowZ, Option.bind_some, mI_eq, mI_ne, mJ_eq, mJ_ne, mI_setJ, mJ_setA, setA_setA, setJ_setJ, uq_eq, uq_ne, uq_uq, nI_1, v7, if_neg (ge_f (show i < l by omega) (show l < 2 ^ 31 by omega)), hix, vs0, e2]) (fun k q => by rw [fX3_load_48, if_pos ge9_t]) 9 0 FU rfl (fu_9 (by decide))
      rw [bq_0, ← v6, setA_id, v6, nI_0] at el
      have s2 : Sv M c l (bq (mI M 118) (9 * m) 9 F) (setA N1 118 (bq (mI M 118) (9 * m) 9 F)) := sv_set s1
      have edm : fX3_degree (setA (setA N1 118 (bq (mI M 118) (9 * m) 9 F)) 117 (uq (mI (setA N1 118 (bq (mI M 118) (9 * m) 9 F)) 117) 7 0)) (some 117) (nI m) = some y := by
        have hq := q_degree (setA (setA N1 118 (bq (mI M 118) (9 * m) 9 F)) 117 (uq (mI (setA N1 118 (bq (mI M 118) (9 * m) 9 F)) 117) 7 0)) s2.1 hm
        rw [mI_ne (setA N1 118 (bq (mI M 118) (9 * m) 9 F)) _ (show (118 : Nat) ≠ 117 by decide), mI_eq, hy] at hq
        exact hq
      refine ⟨out M2 y.toInt64, setA (setA N1 118 (bq (mI M 118) (9 * m) 9 F)) 117 (uq (mI (setA N1 118 (bq (mI M 118) (9 * m) 9 F)) 117) 7 0), 0, y, ?_, hMc, ?_, ?_, fun _ => ?_, ?_⟩
      · rw [fL_load, kk M hc0, Option.bind_some, fX2_load, (num_v _ hm).1, Option.bind_some, thr_r, kg M 6 hc0, Option.bind_some, h7c, if_neg hlI, kk M hc0, Option.bind_some, hse, Option.bind_some, Option.bind_some, he, if_pos (nI_le (Nat.le_refl _) (by omega)), Option.bind_some, es, Option.bind_some, now_row hc hm, e, kp M1 6 _ hc1, Option.bind_some, hM2, ed, Option.bind_some, Option.bind_some, thr_r]
        exact out_fin hMc.1 _
      · show fX3_load (out M2 y.toInt64) (some 117) (nI m) = _
        have hq2 := q_error (zap (out M2 y.toInt64) 0) hMc hl (by rw [zap_k _ _ (by decide), hout 117 (by decide) (by decide), h7'])
        rw [zap_o _ _ (by decide), hout 122 (by decide) (by decide), he] at hq2
        rw [fX3_load, mz (out M2 y.toInt64) hMc, Option.bind_some, (num_v _ hm).2, Option.bind_some, if_neg (by decide), mog (zap (out M2 y.toInt64) 0) 7 hMc, Option.bind_some, zap_k _ _ (by decide), hout 117 (by decide) (by decide), h7', if_neg hlI, mok (zap (out M2 y.toInt64) 0) hMc, Option.bind_some, hq2, Option.bind_some, Option.bind_some, if_pos (nI_le (Nat.le_refl _) (by omega)), Option.bind_some, e1, Option.bind_some, el, mop _ 7 _ s2.1, Option.bind_some, mok (setA (setA N1 118 (bq (mI M 118) (9 * m) 9 F)) 117 (uq (mI (setA N1 118 (bq (mI M 118) (9 * m) 9 F)) 117) 7 0)) s2.1, Option.bind_some, edm, Option.bind_some]
      · rw [mI_eq, uq_ne _ _ (by decide), mI_ne _ _ (by decide), v0]
      · have := f1.2.2.2.2
        show mJ N1 126 0 = _
        rw [this, out, mJ_eq, uq_eq]
      · refine Inv.savT (M1 := out M2 y.toInt64) (sp := sp1) (v := bq (mI M 118) (9 * m) 9 F) (bf := mI M 122) (hCR2.out _) hMc (f1.trans (FrM.s.trans (FrM.set (by decide)))) ?_ ?_ ?_ ?_ ?_ ?_ hI.ok hok ho
        · rw [mI_eq, uq_ne _ _ (by decide), mI_ne _ _ (by decide), v3]
        · rw [mI_eq, uq_eq]
        · rw [mI_ne _ _ (by decide), mI_eq]; exact eqv.refl _
        · rw [mI_ne _ _ (by decide), mI_ne _ _ (by decide), vs7]
        · rw [mI_ne _ _ (by decide), mI_ne _ _ (by decide), vs8]
        · rw [mI_ne _ _ (by decide), mI_ne _ _ (by decide), vs9]
    · refine Bth.fail hI (code := 2) ?_ (by decide) ?_
      · rw [fL_load, kk M hc0, Option.bind_some, fX2_load, (num_v _ hm).1, Option.bind_some, thr_r, kg M 6 hc0, Option.bind_some, h7c, if_neg hlI, kk M hc0, Option.bind_some, hse, Option.bind_some, Option.bind_some, if_neg (ge_f (by omega) (by omega)), Option.bind_some, thr_l, if_neg (by decide), if_pos rfl]
      · show fX3_load M (some 117) (nI m) = _
        rw [fX3_load, mz M hm0, Option.bind_some, (num_v _ hm).2, Option.bind_some, if_neg (by decide), mog (zap M 0) 7 hm0, Option.bind_some, zap_k _ _ (by decide), h7', if_neg hlI, mok (zap M 0) hm0, Option.bind_some, hqe, Option.bind_some, Option.bind_some, if_neg (ge_f (by omega) (by omega)), Option.bind_some, q_fz M hm0, Option.bind_some]
