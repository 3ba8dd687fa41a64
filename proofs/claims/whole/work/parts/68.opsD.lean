/-! ===== one coefficient of the whole polynomial ===== -/
def BthJ (o1 : Option (Mem × Int32)) (o3 : Mem → Option (Mem × Int64)) : Prop := ∃ M1 M2 code y, o1 = some (M1, code) ∧ HM M1 ∧ o3 M1 = some (M2, y) ∧ mI M2 117 0 = code ∧ (code = 0 → mJ M2 126 0 = y) ∧ Inv M2
theorem b_coefficient {M : Mem} (hI : Inv M) (x : Int32) : BthJ (fL_coefficient M (some 0) x (some 126)) (fun M1 => fX3_coefficient M1 (some 117) x) := by
  have hc := hI.hc
  have hm := hI.hm
  rcases pow_c x with ⟨p1, p2⟩ | ⟨k, hk, rfl, p1, p2⟩
  · refine ⟨M, zap M 1, 1, 0, ?_, hm, ?_, zap_0 _ _, fun q => absurd q (by decide), hI.zap 1⟩
    · rw [fL_coefficient, kk M hc, Option.bind_some, fX2_coefficient, p1, Option.bind_some, thr_l, Option.bind_some, thr_l, if_pos rfl]
    · show fX3_coefficient M (some 117) x = _
      rw [fX3_coefficient, mz M hm, Option.bind_some, p2, Option.bind_some, if_pos rfl, mok (zap M 0) hm, Option.bind_some, q_fz M hm, Option.bind_some]
      rfl
  · obtain ⟨sp, c, l, i1, i3, i7, i4, i5, i6⟩ := hI
    obtain ⟨o1, o2, o3, o4⟩ := id i5
    have ew := s_expand M hc i4.2.2.1 o3 o4
    generalize hy : whW (mI M 118) (cnt (mI M 118)) k = y
    have hC : CR (out (setJ M 13 (cutW (mJ M 13) (whW (mI M 118) (cnt (mI M 118))))) y) sp (mI M 118) (BM M c l) := i4
    have ea := aw (setJ M 13 (cutW (mJ M 13) (whW (mI M 118) (cnt (mI M 118))))) hk hc
    rw [mJ_eq, cut_lt _ _ hk, hy] at ea
    have hcw : HC0 (setJ M 13 (cutW (mJ M 13) (whW (mI M 118) (cnt (mI M 118))))) := hc
    have hMc : HM (out (setJ M 13 (cutW (mJ M 13) (whW (mI M 118) (cnt (mI M 118))))) y) := i1
    have e16 : mI (out (setJ M 13 (cutW (mJ M 13) (whW (mI M 118) (cnt (mI M 118))))) y) = mI M := rfl
    have e124 : mJ (out (setJ M 13 (cutW (mJ M 13) (whW (mI M 118) (cnt (mI M 118))))) y) 126 0 = y := by rw [out, mJ_eq, uq_eq]
    have ec : fL_coefficient M (some 0) (nI k) (some 126) = some (out (setJ M 13 (cutW (mJ M 13) (whW (mI M 118) (cnt (mI M 118))))) y, 0) := by
      rw [fL_coefficient, kk M hc, Option.bind_some, fX2_coefficient, p1, Option.bind_some, thr_r, kk M hc, Option.bind_some, ew, Option.bind_some, k7 _ hcw, Option.bind_some, ea, Option.bind_some, Option.bind_some, thr_r]
      exact out_fin hcw.1 _
    generalize hO : out (setJ M 13 (cutW (mJ M 13) (whW (mI M 118) (cnt (mI M 118))))) y = O at hC hMc e16 e124 ec
    have em := q_multiplies (zap O 0) hMc (by rw [zap_o _ _ (by decide), e16]; exact o3)
    rw [zap_o _ _ (by decide), e16] at em
    have ea2 := moaJ (setJ (zap O 0) 125 (cutW (mJ (zap O 0) 125) (whW (mI M 118) (cnt (mI M 118))))) k hk hMc
    rw [mJ_eq, cut_lt _ _ hk, hy] at ea2
    have hmq := mq_trans (mq_zap O 0) (mq_setJ (zap O 0) (a := 125) (cutW (mJ (zap O 0) 125) (whW (mI M 118) (cnt (mI M 118)))) (by decide))
    generalize hN : setJ (zap O 0) 125 (cutW (mJ (zap O 0) 125) (whW (mI M 118) (cnt (mI M 118)))) = N at em ea2 hmq
    have hN0 : mI N 117 0 = 0 := by rw [← hN]; exact zap_0 O 0
    have hNm : HM N := hMc.frM hmq.1
    refine ⟨O, N, 0, y, ec, hMc, ?_, hN0, fun _ => ?_, Inv.same (M := M) hC hMc hmq.1 ?_ ?_ ?_ ?_ ?_ ?_ ?_ i5 i6⟩
    · show fX3_coefficient O (some 117) (nI k) = _
      rw [fX3_coefficient, mz O hMc, Option.bind_some, p2, Option.bind_some, if_neg (by decide), mok (zap O 0) hMc, Option.bind_some, em, Option.bind_some, mo11 N hNm, Option.bind_some, ea2, Option.bind_some]
    · rw [hmq.1.2.2.2.2, e124]
    · rw [hmq.2.1, e16, i3]
    · rw [hmq.2.2.1, e16, i7]
    · rw [hmq.2.2.2 118 (by decide) (by decide), e16]
    · rw [hmq.2.2.2 119 (by decide) (by decide), e16]
    · rw [hmq.2.2.2 120 (by decide) (by decide), e16]
    · rw [hmq.2.2.2 121 (by decide) (by decide), e16]
    · rw [hmq.2.2.2 122 (by decide) (by decide), e16]
