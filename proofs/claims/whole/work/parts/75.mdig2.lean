/-! ===== the model's whole digest ===== -/
theorem d_14 {M Q : Mem} {h : Int64} (hI : Inv M) (hd : Dg M Q h) {c : Nat} (h3 : mI M 117 3 = nI c) : ∃ Q2, Dg M Q2 (hx h (tcL (mI M 118) c 8)) ∧ ∀ k, fX3_digest_14 (some 117) k FU Q 0 = k Q2 (nI 8) := by
  refine loopDg (Dg M) (fX3_digest_14 (some 117)) 8 (tcL (mI M 118) c) (fun w => [(tcV (mI M 118) c w).toInt64]) rfl (fun _ => rfl) (fun i hi Q h hd => ?_) (fun Q h hd k m => by rw [fX3_digest_14, if_pos (by decide)]) FU (fu_9 (by decide)) Q h hd
  obtain ⟨Q2, d2, e2, -, -⟩ := d_hash hI hd (tcV (mI M 118) c i).toInt64
  have et := q_tellsCount Q (hd.hm hI) (by rw [hd.v]; exact hI.sg) (by rw [hd.v]; exact hI.ok.2.2.1) (hd.1.2.1.trans h3) hi
  rw [hd.v] at et
  refine ⟨Q2, d2, fun k m => ?_⟩
  rw [fX3_digest_14, if_neg (show ¬ (8 : Int32) ≤ nI i from ge_f (N := 8) hi (by decide)), mok Q (hd.hm hI), Option.bind_some, et, Option.bind_some, Option.bind_some, e2, Option.bind_some, nI_1]
theorem d_38 {M Q : Mem} {h : Int64} (hI : Inv M) (hd : Dg M Q h) : ∃ Q2, Dg M Q2 (hx h (rowsL (mI M 118) 5)) ∧ ∀ k, fX3_digest_38 (some 117) k FU Q 0 = k Q2 (nI 5) := by
  refine loopDg (Dg M) (fX3_digest_38 (some 117)) 5 (rowsL (mI M 118)) (fun n => rowL (rv (mI M 118) n)) rfl (fun _ => rfl) (fun i hi Q h hd => ?_) (fun Q h hd k m => by rw [fX3_digest_38, if_pos (by decide)]) FU (fu_9 (by decide)) Q h hd
  obtain ⟨Q2, d2, e2⟩ := d_poly hI hd hi
  refine ⟨Q2, d2, fun k m => ?_⟩
  rw [fX3_digest_38, if_neg (lt5_f i hi), mok Q (hd.hm hI), Option.bind_some, e2, Option.bind_some, nI_1]
theorem div5 : ∀ i : Nat, i < 25 → nI i / 5 = nI (i / 5) ∧ nI (i / 5) * 5 = nI (i / 5 * 5) ∧ nI i - nI (i / 5 * 5) = nI (i % 5) := by decide
theorem par25g {β : Type} (p : Nat → Nat → List β) : mapL (fun i => p (i / 5) (i % 5)) 25 = mapL (fun a => mapL (fun b => p a b) 5) 5 := by
  simp only [mapL, List.nil_append, List.append_assoc, Nat.reduceDiv, Nat.reduceMod]
theorem par25 (v : Nat → Int32) : mapL (fun i => pairL v (i / 5) (i % 5)) 25 = parL v 5 := par25g (pairL v)
theorem d_56 {M Q : Mem} {h : Int64} (hI : Inv M) (hd : Dg M Q h) : ∃ Q2, Dg M Q2 (hx h (parL (mI M 118) 5)) ∧ ∀ k, fX3_digest_56 (some 117) k FU Q 0 = k Q2 (nI 25) := by
  rw [← par25]
  refine loopDg (Dg M) (fX3_digest_56 (some 117)) 25 (mapL (fun i => pairL (mI M 118) (i / 5) (i % 5))) (fun i => pairL (mI M 118) (i / 5) (i % 5)) rfl (fun _ => rfl) (fun i hi Q h hd => ?_) (fun Q h hd k m => by rw [fX3_digest_56, if_pos (by decide)]) FU (fu_9 (by decide)) Q h hd
  obtain ⟨f1, f2, f3⟩ := div5 i hi
  have ha : i / 5 < 5 := by omega
  have hb : i % 5 < 5 := by omega
  obtain ⟨Q1, d1, e1, -, -⟩ := d_hash hI hd (rowsV 0 (rv (mI M 118) (i / 5)) (rv (mI M 118) (i % 5))).toInt64
  obtain ⟨Q2, d2, e2, -, -⟩ := d_hash hI d1 (rowsV 1 (rv (mI M 118) (i / 5)) (rv (mI M 118) (i % 5))).toInt64
  have g0 := q_rows Q (hd.hm hI) (by rw [hd.v]; exact hI.sg) ha hb 0
  have g1 := q_rows Q1 (d1.hm hI) (by rw [d1.v]; exact hI.sg) ha hb 1
  rw [hd.v] at g0
  rw [d1.v] at g1
  refine ⟨Q2, d2, fun k m => ?_⟩
  rw [fX3_digest_56, if_neg (show ¬ (25 : Int32) ≤ nI i from ge_f (N := 25) hi (by decide)), mok Q (hd.hm hI), Option.bind_some, f1, f2, f3, g0, Option.bind_some, Option.bind_some, e1, Option.bind_some, mok Q1 (d1.hm hI), Option.bind_some, g1, Option.bind_some, Option.bind_some, e2, Option.bind_some, nI_1]
theorem d_106 {M Q : Mem} {h : Int64} (hI : Inv M) (hd : Dg M Q h) : ∃ Q2, Dg M Q2 (hx h (whoL (mI M 118) 9)) ∧ ∀ k, ((fX3_multiplies Q (some 117)).bind fun w19 => fX3_digest_106 (some 117) k FU w19 0) = k Q2 (nI 9) := by
  have em := q_multiplies Q (hd.hm hI) (by rw [hd.v]; exact hI.ok.2.2.1)
  rw [hd.v] at em
  have d0 : Dg M (setJ Q 125 (cutW (mJ Q 125) (whW (mI M 118) (cnt (mI M 118))))) h := ⟨mq_trans hd.1 (mq_setJ Q _ (by decide)), by rw [mJ_ne _ _ (by decide)]; exact hd.2⟩
  have hw : ∀ k, k < 9 → mJ (setJ Q 125 (cutW (mJ Q 125) (whW (mI M 118) (cnt (mI M 118))))) 125 k = whW (mI M 118) (cnt (mI M 118)) k := fun k hk => by rw [mJ_eq, cut_lt _ _ hk]
  generalize setJ Q 125 (cutW (mJ Q 125) (whW (mI M 118) (cnt (mI M 118)))) = Q0 at em d0 hw
  obtain ⟨Q2, ⟨d2, -⟩, e2⟩ := loopDg (fun Q h => Dg M Q h ∧ ∀ k, k < 9 → mJ Q 125 k = whW (mI M 118) (cnt (mI M 118)) k) (fX3_digest_106 (some 117)) 9 (whoL (mI M 118)) (fun k => [whW (mI M 118) (cnt (mI M 118)) k]) rfl (fun _ => rfl) (fun i hi Q h hd => by
    obtain ⟨hd, hw⟩ := hd
    obtain ⟨Q2, d2, e2, -, m2⟩ := d_hash hI hd (whW (mI M 118) (cnt (mI M 118)) i)
    refine ⟨Q2, ⟨d2, fun k hk => by rw [m2]; exact hw k hk⟩, fun k m => ?_⟩
    rw [fX3_digest_106, if_neg (ge9_f i hi), mo11 Q (hd.hm hI), Option.bind_some, moaJ Q i hi (hd.hm hI), Option.bind_some, mok Q (hd.hm hI), Option.bind_some, hw i hi, e2, Option.bind_some, nI_1]) (fun Q h hd k m => by rw [fX3_digest_106, if_pos ge9_t]) FU (fu_9 (by decide)) Q0 h ⟨d0, hw⟩
  exact ⟨Q2, d2, fun k => by rw [em, Option.bind_some, e2]⟩
theorem d_130 {M Q : Mem} {h : Int64} (hI : Inv M) (hd : Dg M Q h) : ∃ Q2, Dg M Q2 (hx h (rooL (mI M 118) (cnt (mI M 118)))) ∧ ∀ k, fX3_digest_130 (some 117) k FU Q 0 = k Q2 (nI (cnt (mI M 118))) := by
  have hc := hI.ok.2.2.1
  have hc8 := hc.1
  have ec : ∀ Q h, Dg M Q h → aI Q (some 118) 45 = some (nI (cnt (mI M 118))) := fun Q h hd => by
    have e := moa Q 118 45 (by decide) (hd.hm hI)
    rw [hd.v, hc.2] at e
    exact e
  refine loopDg (Dg M) (fX3_digest_130 (some 117)) (cnt (mI M 118)) (rooL (mI M 118)) (fun i => [(mI M 118 (46 + i)).toInt64]) rfl (fun _ => rfl) (fun i hi Q h hd => ?_) (fun Q h hd k m => by rw [fX3_digest_130, mo1 Q (hd.hm hI), Option.bind_some, ec Q h hd, Option.bind_some, if_pos (nI_le (Nat.le_refl _) (by omega))]) FU (fu_9 (by omega)) Q h hd
  obtain ⟨Q2, d2, e2, -, -⟩ := d_hash hI hd (mI M 118 (46 + i)).toInt64
  have er := moa Q 118 (46 + i) (by rw [lm6]; omega) (hd.hm hI)
  rw [hd.v] at er
  refine ⟨Q2, d2, fun k m => ?_⟩
  rw [fX3_digest_130, mo1 Q (hd.hm hI), Option.bind_some, ec Q h hd, Option.bind_some, if_neg (ge_f hi (by omega)), Option.bind_some, ix46, er, Option.bind_some, mok Q (hd.hm hI), Option.bind_some, e2, Option.bind_some, nI_1]
theorem d_208 {M Q : Mem} {h : Int64} (hI : Inv M) (hd : Dg M Q h) {l : Nat} (hl : l ≤ 60) (h7 : mI M 117 7 = nI l) : ∃ Q2, Dg M Q2 (hx h (texL (mI M 122) l)) ∧ ∀ k, fX3_digest_208 (some 117) k FU Q 0 = k Q2 (nI l) := by
  have ec : ∀ Q h, Dg M Q h → mI Q 117 7 = nI l := fun Q h hd => hd.1.2.2.1.trans h7
  refine loopDg (Dg M) (fX3_digest_208 (some 117)) l (texL (mI M 122)) (fun i => [(mI M 122 i).toInt64]) rfl (fun _ => rfl) (fun i hi Q h hd => ?_) (fun Q h hd k m => by rw [fX3_digest_208, mog Q 7 (hd.hm hI), Option.bind_some, ec Q h hd, if_pos (nI_le (Nat.le_refl _) (by omega))]) FU (fu_9 (by omega)) Q h hd
  obtain ⟨Q2, d2, e2, -, -⟩ := d_hash hI hd (mI M 122 i).toInt64
  have er := moa Q 122 i (by rw [lm0]; omega) (hd.hm hI)
  rw [hd.1.2.2.2 122 (by decide) (by decide)] at er
  refine ⟨Q2, d2, fun k m => ?_⟩
  rw [fX3_digest_208, mog Q 7 (hd.hm hI), Option.bind_some, ec Q h hd, if_neg (ge_f hi (by omega)), mo6 Q (hd.hm hI), Option.bind_some, er, Option.bind_some, mok Q (hd.hm hI), Option.bind_some, e2, Option.bind_some, nI_1]
theorem d_digest {M : Mem} (hI : Inv M) {c l : Nat} (hl : l ≤ 60) (h3 : mI M 117 3 = nI c) (h7 : mI M 117 7 = nI l) : ∃ M2, Mqy M M2 ∧ fX3_digest M (some 117) = some (M2, hx 3623 (digL (mI M 118) c (mI M 121) l (mI M 122))) := by
  have d0 : Dg M (setJ (zap M 0) 117 (uq (mJ (zap M 0) 117) 12 3623)) 3623 := ⟨mq_trans (mq_zap M 0) (mq_setJ _ _ (by decide)), by rw [mJ_eq, uq_eq]⟩
  have hz : HM (zap M 0) := hI.hm
  have e0 := mopJ (zap M 0) 12 3623 hz
  generalize setJ (zap M 0) 117 (uq (mJ (zap M 0) 117) 12 3623) = Q0 at d0 e0
  obtain ⟨Q1, d1, e1⟩ := d_14 hI d0 h3
  obtain ⟨Q2, d2, e2⟩ := d_38 hI d1
  obtain ⟨Q3, d3, e3⟩ := d_56 hI d2
  obtain ⟨Q4, d4, e4⟩ := d_106 hI d3
  obtain ⟨Q5, d5, e5⟩ := d_130 hI d4
  obtain ⟨Q6, d6, e6, m6, -⟩ := d_hash hI d5 (if mI M 121 0 = 0 then 0 else 1)
  obtain ⟨Q7, d7, e7, m7, -⟩ := d_hash hI d6 (if mI M 121 1 = 0 then 0 else 1)
  obtain ⟨Q8, d8, e8, m8, -⟩ := d_hash hI d7 (nI l).toInt64
  obtain ⟨Q9, d9, e9⟩ := d_208 hI d8 hl h7
  have z0 := moaZ Q5 0 (by decide) (d5.hm hI)
  rw [nI_0, d5.1.2.2.2 121 (by decide) (by decide)] at z0
  have z1 : aZ Q6 (some 121) 1 = some (mI Q6 121 1) := moaZ Q6 1 (by decide) (d6.hm hI)
  rw [d6.1.2.2.2 121 (by decide) (by decide)] at z1
  have z2 : mI Q7 117 7 = nI l := d7.1.2.2.1.trans h7
  refine ⟨Q9, d9.1, ?_⟩
  rw [fX3_digest, mz M hI.hm, Option.bind_some, e0, Option.bind_some, e1, e2, e3, mok Q3 (d3.hm hI), Option.bind_some, e4, e5, mo5 Q5 (d5.hm hI), Option.bind_some, z0, Option.bind_some, mok Q5 (d5.hm hI), Option.bind_some, e6, Option.bind_some, mo5 Q6 (d6.hm hI), Option.bind_some, z1, Option.bind_some, mok Q6 (d6.hm hI), Option.bind_some, e7, Option.bind_some, mog Q7 7 (d7.hm hI), Option.bind_some, z2, mok Q7 (d7.hm hI), Option.bind_some, e8, Option.bind_some, e9, mogJ Q9 12 (d9.hm hI), Option.bind_some, d9.2]
  unfold digL
  rw [hx_app, hx_app, hx_app, hx_app, hx_app, hx_app, hx_app, hx_one]
  rfl
theorem v_digest {M : Mem} (hI : Inv M) : ∃ M1 M2 y, fX2_digest M (some 0) = some (M1, y) ∧ HM M1 ∧ fX3_digest M1 (some 117) = some (M2, y) ∧ Inv M2 := by
  obtain ⟨-, c, l, r1, r2, r3, r4, r5, r6, r7, r8⟩ := hI.cr
  obtain ⟨M1, p1, e1⟩ := c_digest hI r1 r2 r3 r5
  have g : ∀ b, 117 ≤ b → mI M1 b = mI M b := p1.2
  obtain ⟨M2, q2, e2⟩ := d_digest p1.1 r2 (by rw [g 117 (by decide)]; exact r3) (by rw [g 117 (by decide)]; exact r5)
  rw [g 118 (by decide), g 121 (by decide), g 122 (by decide)] at e2
  exact ⟨M1, M2, _, e1, p1.1.hm, e2, p1.1.mq q2⟩
