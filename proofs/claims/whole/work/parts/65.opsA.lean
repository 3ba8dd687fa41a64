/-! ===== the text ===== -/
theorem ab (M : Mem) {k : Nat} (hk : k < 60) (h : HC0 M) : aI M (some 12) (nI k) = some (mI M 12 k) := aI_at (h.lt (by decide)) rfl rfl hk (by decide)
theorem wb (M : Mem) {k : Nat} (v : Int32) (hk : k < 60) (h : HC0 M) : wI M (some 12) (nI k) v = some (setA M 12 (uq (mI M 12) k v)) := (wI_at (h.lt (by decide)) rfl rfl hk (by decide)).trans (congrArg some (sI_setA _ _ _ _))
/-- the text changed, nothing else -/
theorem CR.txt {M M2 : Mem} {sp : Nat → Nat} {v : Nat → Int32} {B : BS} (h : CR M sp v B) (hc : B.1 ≤ 6) (hf : Fr (fun b => b = 0 ∨ b = 12) M M2) {l : Nat} {bf : Nat → Int32} (h2 : mI M2 0 2 = mI M 0 2) (h6 : mI M2 0 6 = nI l) (hb : ∀ i, i < l → mI M2 12 i = bf i) : CR M2 sp v (B.1, B.2.1, B.2.2.1, B.2.2.2.1, l, bf) := by
  obtain ⟨a1, a2, a3, a4, a5, a6, a7, a8⟩ := h
  exact ⟨a1.fr hf, a2.fr hf, a3.fr hf (fun x h1 h2 q => by omega), by rw [h2]; exact a4, fun j hj => (a5 j hj).fr hf (fun x h1 h2 q => by omega), fun s hs => ⟨by rw [hf.2.2.2.2 11 (by omega)]; exact (a6 s hs).1, fun hk => ((a6 s hs).2 hk).fr hf (fun x h1 h2 q => by omega)⟩, h6, hb⟩
theorem Inv.txt {M M1 M2 : Mem} {sp : Nat → Nat} {c l l2 : Nat} {bf : Nat → Int32} (hC : CR M1 sp (mI M 118) (c, svM M, mI M 121, slM M, l2, bf)) (hM : HM M1) (hf : FrM M1 M2) (h3 : mI M2 117 3 = nI c) (h7 : mI M2 117 7 = nI l2) (e6 : mI M2 118 = mI M 118) (e7 : mI M2 119 = mI M 119) (e8 : mI M2 120 = mI M 120) (e9 : mI M2 121 = mI M 121) (hb : ∀ i, i < l2 → bf i = mI M2 122 i) (o1 : OkV (mI M 118)) (o2 : OkB (BM M c l)) (hl : l2 ≤ 60) : Inv M2 := by
  refine Inv.mk hC hM hf h3 h7 (by rw [e6]; exact eqv.refl _) (fun j _ => ?_) (fun s _ => ⟨by rw [e9], fun _ => ?_⟩) hb o1 ⟨o2.1, o2.2.1, o2.2.2.1, hl⟩
  · unfold svM; rw [e7]; exact eqv.refl _
  · unfold slM; rw [e8]; exact eqv.refl _
theorem b_append {M : Mem} (hI : Inv M) (x : Int32) : Bth (fL_append M (some 0) x (some 126)) (fun M1 => fX3_append M1 (some 117) x) := by
  have hc := hI.hc
  have hm := hI.hm
  have xi : ∀ N, fX3_in N x 33 126 = some (if x < 33 then 0 else if 126 < x then 0 else 1) := fun N => rfl
  by_cases h1 : x < 33
  · refine Bth.fail hI (code := 1) ?_ (by decide) ?_
    · rw [fL_append, kk M hc, Option.bind_some, fX2_append, if_pos h1, Option.bind_some, thr_l, if_pos rfl]
    · show fX3_append M (some 117) x = _
      rw [fX3_append, mz M hm, Option.bind_some, xi, if_pos h1, Option.bind_some, if_pos rfl, mok (zap M 0) hm, Option.bind_some, q_fz M hm, Option.bind_some]
  · by_cases h2 : x ≤ 126
    · have h2' : ¬ (126 : Int32) < x := fun q => by have := lt_i.mp q; have := le_i.mp h2; omega
      obtain ⟨sp, c, l, i1, i3, i7, i4, i5, i6⟩ := hI
      have hI' : Inv M := ⟨sp, c, l, i1, i3, i7, i4, i5, i6⟩
      have hl60 : l ≤ 60 := i6.2.2.2
      have h06 : mI M 0 6 = nI l := i4.2.2.2.2.2.2.1
      by_cases h60 : l < 60
      · have hfr : Fr (fun b => b = 0 ∨ b = 12) M (setA (setA M 12 (uq (mI M 12) l x)) 0 (uq (mI M 0) 6 (nI (l + 1)))) := (Fr.set (Or.inr rfl)).trans (Fr.set (Or.inl rfl))
        have hC2 := i4.txt i6.1 hfr (l := l + 1) (bf := uq (mI M 122) l x) (by rw [mI_eq, uq_ne _ _ (by decide)]) (by rw [mI_eq, uq_eq]) (fun i hi => by
          rw [mI_ne _ _ (by decide), mI_eq]
          by_cases hil : i = l
          · rw [hil, uq_eq, uq_eq]
          · rw [uq_ne _ _ hil, uq_ne _ _ hil]; exact i4.2.2.2.2.2.2.2 i (by show i < l; omega))
        have hMc : HM (setA (setA M 12 (uq (mI M 12) l x)) 0 (uq (mI M 0) 6 (nI (l + 1)))) := i1.frC (hfr.frC (fun b hb q => by omega))
        have ec : ∀ b, 117 ≤ b → mI (setA (setA M 12 (uq (mI M 12) l x)) 0 (uq (mI M 0) 6 (nI (l + 1)))) b = mI M b := fun b hb => by rw [mI_ne _ _ (by omega), mI_ne _ _ (by omega)]
        generalize hMd : setA (setA M 12 (uq (mI M 12) l x)) 0 (uq (mI M 0) 6 (nI (l + 1))) = Md at hC2 hMc ec
        have e1 : fX3_append (out Md (nI (l + 1)).toInt64) (some 117) x = some (setA (setA (zap (out Md (nI (l + 1)).toInt64) 0) 122 (uq (mI M 122) l x)) 117 (uq (uq (mI M 117) 0 0) 7 (nI (l + 1))), nI (l + 1)) := by
          have h := hMc
          have g7 : mI (zap (out Md (nI (l + 1)).toInt64) 0) 117 7 = nI l := by rw [zap_k _ _ (by decide)]; exact (congrFun (ec 117 (by decide)) 7).trans i7
          have g0 : mI (zap (out Md (nI (l + 1)).toInt64) 0) 122 = mI M 122 := (zap_o _ _ (by decide)).trans (ec 122 (by decide))
          have g5 : mI (zap (out Md (nI (l + 1)).toInt64) 0) 117 = uq (mI M 117) 0 0 := by
            unfold zap
            rw [mI_eq]
            exact congrArg (fun z => uq z 0 0) (ec 117 (by decide))
          have hz : HM (zap (out Md (nI (l + 1)).toInt64) 0) := hMc
          rw [fX3_append, mz (out Md (nI (l + 1)).toInt64) hMc, Option.bind_some, xi, if_neg h1, if_neg h2', Option.bind_some, if_neg (by decide), mog _ 7 hz, Option.bind_some, g7, if_neg (show ¬ nI l = 60 from fun q => by have := (nI_eq (b := 60) (by omega) (by decide)).mp q; omega), mo6 _ hz, Option.bind_some, Option.bind_some, mow _ 122 l x (by rw [lm0]; omega) hz, Option.bind_some, g0]
          generalize zap (out Md (nI (l + 1)).toInt64) 0 = Z at hz g5 g7 ⊢
          have h := hz
          simp (disch := first | omega | (simp only [HM_setA, HM_setJ, h]; done) | (simp only [lm6, lm7, lm8, lm0, lm1, lm2]; omega)) only [mo1, mo2, mo4, mo5, mo6, mo8, mo9, mo11, mog, mop, mogJ, mopJ, mok, moa, mow, moaJ, mowJ, moaZ, mowZ, Option.bind_some, mI_eq, mI_ne, mJ_eq, mJ_ne, mI_setJ, mJ_setA, setA_setA, setJ_setJ, uq_eq, uq_ne, uq_uq, nI_1, g5, g7]
        refine ⟨out Md (nI (l + 1)).toInt64, _, 0, nI (l + 1), ?_, hMc, e1, ?_, fun _ => ?_, ?_⟩
        · rw [fL_append, kk M hc, Option.bind_some, fX2_append, if_neg h1, if_pos h2, kg M 6 hc, Option.bind_some, h06, if_pos (show nI l < 60 from nI_lt h60 (by decide)), k5 M hc, Option.bind_some, Option.bind_some, wb M x h60 hc, Option.bind_some]
          have hc7 : HC0 (setA M 12 (uq (mI M 12) l x)) := hc
          have hcd : HC0 Md := hC2.1
          have hd6 : mI Md 0 6 = nI (l + 1) := hC2.2.2.2.2.2.2.1
          rw [kg _ 6 hc7, Option.bind_some, mI_ne _ _ (by decide), h06, nI_1, kp _ 6 _ hc7, Option.bind_some, mI_ne _ _ (by decide), hMd, kg Md 6 hcd, Option.bind_some, hd6, Option.bind_some, thr_r]
          exact out_fin hMc.1 _
        · rw [mI_eq, uq_ne _ _ (by decide), uq_eq]
        · show (uq (mJ Md 126) 0 (nI (l + 1)).toInt64) 0 = _
          rw [uq_eq]
        · refine Inv.txt (M := M) (c := c) (l := l) (hC2.out (nI (l + 1)).toInt64) hMc ((FrM.zap 0).trans ((FrM.set (by decide)).trans (FrM.set (by decide)))) ?_ ?_ ?_ ?_ ?_ ?_ ?_ i5 i6 (by omega)
          · rw [mI_eq, uq_ne _ _ (by decide), uq_ne _ _ (by decide), i3]
          · rw [mI_eq, uq_eq]
          · rw [mI_ne _ _ (by decide), mI_ne _ _ (by decide), zap_o _ _ (by decide)]; exact ec 118 (by decide)
          · rw [mI_ne _ _ (by decide), mI_ne _ _ (by decide), zap_o _ _ (by decide)]; exact ec 119 (by decide)
          · rw [mI_ne _ _ (by decide), mI_ne _ _ (by decide), zap_o _ _ (by decide)]; exact ec 120 (by decide)
          · rw [mI_ne _ _ (by decide), mI_ne _ _ (by decide), zap_o _ _ (by decide)]; exact ec 121 (by decide)
          · intro i _
            rw [mI_ne _ _ (by decide), mI_eq]
      · have hl : l = 60 := by omega
        subst hl
        refine Bth.fail hI' (code := 2) ?_ (by decide) ?_
        · rw [fL_append, kk M hc, Option.bind_some, fX2_append, if_neg h1, if_pos h2, kg M 6 hc, Option.bind_some, h06, if_neg (by decide), Option.bind_some, thr_l, if_neg (by decide), if_pos rfl]
        · show fX3_append M (some 117) x = _
          rw [fX3_append, mz M hm, Option.bind_some, xi, if_neg h1, if_neg h2', Option.bind_some, if_neg (by decide), mog (zap M 0) 7 hm, Option.bind_some, zap_k _ _ (by decide), i7, if_pos (by decide), mok (zap M 0) hm, Option.bind_some, q_fz M hm, Option.bind_some]
    · have h2' : (126 : Int32) < x := by
        rw [lt_i]
        have : ¬ x.toInt ≤ (126 : Int32).toInt := fun q => h2 (le_i.mpr q)
        omega
      refine Bth.fail hI (code := 1) ?_ (by decide) ?_
      · rw [fL_append, kk M hc, Option.bind_some, fX2_append, if_neg h1, if_neg h2, Option.bind_some, thr_l, if_pos rfl]
      · show fX3_append M (some 117) x = _
        rw [fX3_append, mz M hm, Option.bind_some, xi, if_neg h1, if_pos h2', Option.bind_some, if_pos rfl, mok (zap M 0) hm, Option.bind_some, q_fz M hm, Option.bind_some]
theorem v_clear {M : Mem} (hI : Inv M) : Bt0 (fX2_clearBuffer M (some 0)) (fun M1 => fX3_clearBuffer M1 (some 117)) := by
  have hc := hI.hc
  obtain ⟨sp, c, l, i1, i3, i7, i4, i5, i6⟩ := hI
  have h06 : mI M 0 6 = nI l := i4.2.2.2.2.2.2.1
  have hfr : Fr (fun b => b = 0 ∨ b = 12) M (setA M 0 (uq (mI M 0) 6 0)) := Fr.set (Or.inl rfl)
  have hC2 := i4.txt i6.1 hfr (l := 0) (bf := mI M 122) (by rw [mI_eq, uq_ne _ _ (by decide)]) (by rw [mI_eq, uq_eq]; rfl) (fun i hi => by omega)
  have hMc : HM (setA M 0 (uq (mI M 0) 6 0)) := i1.frC (hfr.frC (fun b hb q => by omega))
  have ec : ∀ b, 117 ≤ b → mI (setA M 0 (uq (mI M 0) 6 0)) b = mI M b := fun b hb => by rw [mI_ne _ _ (by omega)]
  generalize hMd : setA M 0 (uq (mI M 0) 6 0) = Md at hC2 hMc ec
  have hz : HM (zap Md 0) := hMc
  have g7 : mI (zap Md 0) 117 7 = nI l := by rw [zap_k _ _ (by decide), ec 117 (by decide), i7]
  refine ⟨Md, setA (zap Md 0) 117 (uq (mI (zap Md 0) 117) 7 0), nI l, ?_, hMc, ?_, ?_⟩
  · rw [fX2_clearBuffer, kg M 6 hc, Option.bind_some, kp M 6 _ hc, Option.bind_some, hMd, h06]
  · show fX3_clearBuffer Md (some 117) = _
    rw [fX3_clearBuffer, mz Md hMc, Option.bind_some, mog _ 7 hz, Option.bind_some, mop _ 7 _ hz, Option.bind_some, g7]
  · refine Inv.txt (M := M) (c := c) (l := l) hC2 hMc ((FrM.zap 0).trans (FrM.set (by decide))) ?_ ?_ ?_ ?_ ?_ ?_ ?_ i5 i6 (by omega)
    · rw [mI_eq, uq_ne _ _ (by decide), zap_k _ _ (by decide), ec 117 (by decide), i3]
    · rw [mI_eq, uq_eq]; rfl
    · rw [mI_ne _ _ (by decide), zap_o _ _ (by decide)]; exact ec 118 (by decide)
    · rw [mI_ne _ _ (by decide), zap_o _ _ (by decide)]; exact ec 119 (by decide)
    · rw [mI_ne _ _ (by decide), zap_o _ _ (by decide)]; exact ec 120 (by decide)
    · rw [mI_ne _ _ (by decide), zap_o _ _ (by decide)]; exact ec 121 (by decide)
    · intro i hi; omega
/-! the first error -/
theorem s_signCode (M : Mem) (x : Int32) : fX2_isSignCode M x = some (b2 (codeB x)) := by
  unfold fX2_isSignCode codeB
  by_cases h1 : x = 43
  · rw [if_pos h1, h1]; rfl
  · rw [if_neg h1]
    by_cases h2 : x = 45
    · rw [if_pos h2, h2]; rfl
    · rw [if_neg h2]
      by_cases h3 : x = 48
      · rw [if_pos h3, h3]; rfl
      · rw [if_neg h3, beq_eq_false_iff_ne.mpr h1, beq_eq_false_iff_ne.mpr h2, beq_eq_false_iff_ne.mpr h3]; rfl
theorem s_error {M : Mem} (hc : HC0 M) {l : Nat} (hl : l ≤ 60) (h6 : mI M 0 6 = nI l) {bf : Nat → Int32} (hb : ∀ i, i < l → mI M 12 i = bf i) : fX2_errorPlace M (some 0) = some (nI (errF bf 0 l)) := by
  unfold fX2_errorPlace
  simp only [kg M 6 hc, Option.bind_some, h6]
  have go : ∀ j i n, i + j = l → j < n → fX2_errorPlace_2 M (some 0) (fun x13 => some x13) (fun x14 => some (nI l)) n (nI i) = some (nI (errF bf i j)) := by
    intro j
    induction j with
    | zero =>
      intro i n hi hn
      obtain ⟨n, rfl⟩ := suc_of hn
      rw [fX2_errorPlace_2, kg M 6 hc, Option.bind_some, h6, if_pos (nI_le (by omega) (by omega)), show i = l by omega]
      rfl
    | succ j ih =>
      intro i n hi hn
      obtain ⟨n, rfl⟩ := suc_of hn
      have e := ih (i + 1) n (by omega) (by omega)
      rw [fX2_errorPlace_2, kg M 6 hc, Option.bind_some, h6, if_neg (ge_f (by omega) (by omega)), if_neg (show ¬ (60 : Int32) ≤ nI i from ge_f (N := 60) (by omega) (by decide)), errF]
      unfold badB
      by_cases h9 : 9 ≤ i
      · rw [if_pos (show (9 : Int32) ≤ nI i from nI_le h9 (by omega)), if_pos (by simp [h9])]
      · have e0 : (nI i = 0) ↔ i = 0 := nI_eq (b := 0) (by omega) (by decide)
        rw [if_neg (show ¬ (9 : Int32) ≤ nI i from ge_f (N := 9) (by omega) (by decide))]
        simp only [k5 M hc, ab M (show i < 60 by omega) hc, Option.bind_some, hb i (by omega), s_signCode, nI_1, e, e0]
        by_cases hcode : codeB (bf i) = true
        · rw [hcode, if_neg (by decide)]
          by_cases h0 : i = 0
          · rw [if_pos h0]
            by_cases h48 : bf i = 48
            · rw [if_pos h48, if_pos (by rw [h48]; simp [h0])]
            · rw [if_neg h48, if_neg (by simp [h48, h9])]
          · rw [if_neg h0, if_neg (by simp [h0, h9])]
        · rw [eq_false_of_ne_true hcode, if_pos (by decide), if_pos (by simp)]
  have e := go l 0 FU (by omega) (fu_9 (by omega))
  rw [nI_0] at e
  exact e
theorem v_firstError {M : Mem} (hI : Inv M) : ∃ M2 y, fX2_firstError M (some 0) = some y ∧ fX3_firstError M (some 117) = some (M2, y) ∧ Inv M2 := by
  have hc := hI.hc
  have hm := hI.hm
  obtain ⟨_, c, l, hc6, hl, h3, h3c, h7, h7c, _, hb⟩ := hI.cr
  refine ⟨zap M 0, nI (errF (mI M 122) 0 l), ?_, ?_, hI.zap 0⟩
  · rw [fX2_firstError, kk M hc, Option.bind_some, s_error hc hl h7c hb, Option.bind_some]
  · rw [fX3_firstError, mz M hm, Option.bind_some, mok (zap M 0) hm, Option.bind_some, q_error (zap M 0) hm hl (by rw [zap_k _ _ (by decide), h7]), Option.bind_some, zap_o _ _ (by decide)]
