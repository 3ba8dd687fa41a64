/-! ===== the taken share ===== -/
theorem s_shareOf {M : Mem} {a : Nat} (h : Row M a) (hs : SgR (rC M a)) (hz : Nz (rC M a)) : fX2_shareOf M (some a) = some (shV (rC M a)) := by
  have hk := okSh_sh hs hz
  unfold fX2_shareOf
  unfold shV at hk ⊢
  have e0 : (nI (deg (rC M a)) = 0) ↔ deg (rC M a) = 0 := nI_eq (b := 0) (by have := deg_lt (rC M a); omega) (by decide)
  rw [s_degreeOf h, Option.bind_some]
  by_cases h0 : deg (rC M a) = 0
  · rw [if_pos (e0.mpr h0), if_pos h0]
  · rw [if_neg h0] at hk
    unfold okSh at hk
    simp only [Bool.and_eq_true] at hk
    rw [if_neg (fun q => h0 (e0.mp q)), if_neg h0, s_counted h sgn_1 hs, Option.bind_some, s_counted h (sgn_neg sgn_1) hs, Option.bind_some, s_counted h sgn_0 hs, Option.bind_some, nI_add, nI_add, chk, if_pos hk.1.1]
def outD (M : Mem) (x : UInt64) : Mem := sD M 127 0 x
theorem outD_w {M : Mem} (h : M.1 = 128) (x : UInt64) : wD M (some 127) 0 x = some (outD M x) := wD_at (n := 1) (k := 0) (by rw [h]; decide) rfl rfl (by decide) (by decide)
theorem outD_a {M : Mem} (h : M.1 = 128) : aD M (some 127) 0 = some (mD M 127 0) := aD_at (n := 1) (k := 0) (by rw [h]; decide) rfl rfl (by decide) (by decide)
theorem b_takenShare {M : Mem} (hI : Inv M) (x : Int32) : ∃ M1 M2 code y, fL_takenShare M (some 0) x (some 127) = some (M1, code) ∧ HM M1 ∧ fX3_takenShare M1 (some 117) x = some (M2, y) ∧ mI M2 117 0 = code ∧ (code = 0 → mD M2 127 0 = y ∧ okSh y = true) ∧ Inv M2 := by
  have hc := hI.hc
  have hm := hI.hm
  rcases num_c x with ⟨p1, p2⟩ | ⟨n, hn, rfl, p1, p2⟩
  · refine ⟨M, zap M 1, 1, FP.i2d 0, ?_, hm, ?_, zap_0 _ _, fun q => absurd q (by decide), hI.zap 1⟩
    · rw [fL_takenShare, kk M hc, Option.bind_some, fX2_takenShare, p1, Option.bind_some, thr_l, Option.bind_some, thr_l, if_pos rfl]
    · rw [fX3_takenShare, mz M hm, Option.bind_some, p2, Option.bind_some, if_pos rfl, mok (zap M 0) hm, Option.bind_some, q_fz M hm, Option.bind_some]
  · obtain ⟨hr, er⟩ := hI.row hn
    have hsg := hI.sg
    have hnz := hI.nz
    have es := s_shareOf hr (by rw [er]; exact hsg.row hn) (by rw [er]; exact hnz n hn)
    rw [er] at es
    have hk := okSh_sh (hsg.row hn) (hnz n hn)
    generalize hy : shV (rv (mI M 118) n) = y at es hk
    obtain ⟨sp, c, l, i1, i3, i7, i4, i5, i6⟩ := hI
    have hC : CR (outD M y) sp (mI M 118) (BM M c l) := i4
    have hMc : HM (outD M y) := i1
    have e16 : mI (outD M y) = mI M := rfl
    have ed : mD (outD M y) 127 0 = y := rfl
    have ec : fL_takenShare M (some 0) (nI n) (some 127) = some (outD M y, 0) := by
      rw [fL_takenShare, kk M hc, Option.bind_some, fX2_takenShare, p1, Option.bind_some, thr_r, now_row hc hn, es, Option.bind_some, Option.bind_some, thr_r, outD_w hc.1, Option.bind_some]
    generalize outD M y = O at hC hMc e16 ed ec
    have ez : mI (zap O 0) 118 = mI M 118 := by rw [zap_o _ _ (by decide), e16]
    have em := q_share (zap O 0) hMc (by rw [ez]; exact hsg) (by rw [ez]; exact hnz) hn
    rw [ez, hy] at em
    have hmq := mq_trans (mq_zap O 0) (mq_oft (zap O 0) n)
    refine ⟨O, oftM (zap O 0) n, 0, y, ec, hMc, ?_, zap_0 O 0, fun _ => ⟨?_, hk⟩, Inv.same (M := M) hC hMc hmq.1 ?_ ?_ ?_ ?_ ?_ ?_ ?_ i5 i6⟩
    · rw [fX3_takenShare, mz O hMc, Option.bind_some, p2, Option.bind_some, if_neg (by decide), mok (zap O 0) hMc, Option.bind_some, em, Option.bind_some]
    · rw [hmq.1.2.1.1, ed]
    · rw [hmq.2.1, e16, i3]
    · rw [hmq.2.2.1, e16, i7]
    · rw [hmq.2.2.2 118 (by decide) (by decide), e16]
    · rw [hmq.2.2.2 119 (by decide) (by decide), e16]
    · rw [hmq.2.2.2 120 (by decide) (by decide), e16]
    · rw [hmq.2.2.2 121 (by decide) (by decide), e16]
    · rw [hmq.2.2.2 122 (by decide) (by decide), e16]
