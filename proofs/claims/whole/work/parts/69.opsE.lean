/-! ===== every operation, for all arguments ===== -/
theorem b_put {M : Mem} (hI : Inv M) (x0 x1 x2 : Int32) : Bth (fL_put M (some 0) x0 x1 x2 (some 126)) (fun M1 => fX3_put M1 (some 117) x0 x1 x2) := by
  have hc := hI.hc
  have hm := hI.hm
  rcases num_c x0 with ⟨c0, m0⟩ | ⟨n0, h0, rfl, c0, m0⟩
  · refine Bth.fail hI (code := 1) ?_ (by decide) ?_
    · rw [fL_put, kk M hc, Option.bind_some, fX2_put, c0, Option.bind_some, thr_l, Option.bind_some, thr_l, if_pos rfl]
    · show fX3_put M (some 117) (x0) (x1) (x2) = _
      rw [fX3_put, mz M hm, Option.bind_some, m0, Option.bind_some, if_pos rfl, mok (zap M 0) hm, Option.bind_some, q_fz M hm, Option.bind_some]
  · skip
    rcases pow_c x1 with ⟨c1, m1⟩ | ⟨n1, h1, rfl, c1, m1⟩
    · refine Bth.fail hI (code := 2) ?_ (by decide) ?_
      · rw [fL_put, kk M hc, Option.bind_some, fX2_put, c0, Option.bind_some, thr_r, c1, Option.bind_some, thr_l, Option.bind_some, thr_l, if_neg (by decide), if_pos rfl]
      · show fX3_put M (some 117) (nI n0) (x1) (x2) = _
        rw [fX3_put, mz M hm, Option.bind_some, m0, Option.bind_some, if_neg (by decide), m1, Option.bind_some, if_pos rfl, mok (zap M 0) hm, Option.bind_some, q_fz M hm, Option.bind_some]
    · skip
      rcases sgn_c x2 with ⟨c2, m2⟩ | ⟨h2, c2, m2⟩
      · refine Bth.fail hI (code := 2) ?_ (by decide) ?_
        · rw [fL_put, kk M hc, Option.bind_some, fX2_put, c0, Option.bind_some, thr_r, c1, Option.bind_some, thr_r, c2, Option.bind_some, thr_l, Option.bind_some, thr_l, if_neg (by decide), if_pos rfl]
        · show fX3_put M (some 117) (nI n0) (nI n1) (x2) = _
          rw [fX3_put, mz M hm, Option.bind_some, m0, Option.bind_some, if_neg (by decide), m1, Option.bind_some, if_neg (by decide), m2, Option.bind_some, if_pos rfl, mok (zap M 0) hm, Option.bind_some, q_fz M hm, Option.bind_some]
      · exact v_put hI h0 h1 h2
theorem b_copy {M : Mem} (hI : Inv M) (x0 x1 : Int32) : Bth (fL_copy M (some 0) x0 x1 (some 126)) (fun M1 => fX3_copy M1 (some 117) x0 x1) := by
  have hc := hI.hc
  have hm := hI.hm
  rcases num_c x0 with ⟨c0, m0⟩ | ⟨n0, h0, rfl, c0, m0⟩
  · refine Bth.fail hI (code := 1) ?_ (by decide) ?_
    · rw [fL_copy, kk M hc, Option.bind_some, fX2_copy, c0, Option.bind_some, thr_l, Option.bind_some, thr_l, if_pos rfl]
    · show fX3_copy M (some 117) (x0) (x1) = _
      rw [fX3_copy, mz M hm, Option.bind_some, m0, Option.bind_some, if_pos rfl, mok (zap M 0) hm, Option.bind_some, q_fz M hm, Option.bind_some]
  · skip
    rcases num_c x1 with ⟨c1, m1⟩ | ⟨n1, h1, rfl, c1, m1⟩
    · refine Bth.fail hI (code := 1) ?_ (by decide) ?_
      · rw [fL_copy, kk M hc, Option.bind_some, fX2_copy, c0, Option.bind_some, thr_r, c1, Option.bind_some, thr_l, Option.bind_some, thr_l, if_pos rfl]
      · show fX3_copy M (some 117) (nI n0) (x1) = _
        rw [fX3_copy, mz M hm, Option.bind_some, m0, Option.bind_some, if_neg (by decide), m1, Option.bind_some, if_pos rfl, mok (zap M 0) hm, Option.bind_some, q_fz M hm, Option.bind_some]
    · exact v_copy hI h0 h1
theorem b_divide {M : Mem} (hI : Inv M) (x0 x1 : Int32) : Bth (fL_divide M (some 0) x0 x1 (some 126)) (fun M1 => fX3_divide M1 (some 117) x0 x1) := by
  have hc := hI.hc
  have hm := hI.hm
  rcases num_c x0 with ⟨c0, m0⟩ | ⟨n0, h0, rfl, c0, m0⟩
  · refine Bth.fail hI (code := 1) ?_ (by decide) ?_
    · rw [fL_divide, kk M hc, Option.bind_some, fX2_divide, c0, Option.bind_some, thr_l, Option.bind_some, thr_l, if_pos rfl]
    · show fX3_divide M (some 117) (x0) (x1) = _
      rw [fX3_divide, mz M hm, Option.bind_some, m0, Option.bind_some, if_pos rfl, mok (zap M 0) hm, Option.bind_some, q_fz M hm, Option.bind_some]
  · skip
    rcases sgn_c x1 with ⟨c1, m1⟩ | ⟨h1, c1, m1⟩
    · refine Bth.fail hI (code := 2) ?_ (by decide) ?_
      · rw [fL_divide, kk M hc, Option.bind_some, fX2_divide, c0, Option.bind_some, thr_r, c1, Option.bind_some, thr_l, Option.bind_some, thr_l, if_neg (by decide), if_pos rfl]
      · show fX3_divide M (some 117) (nI n0) (x1) = _
        rw [fX3_divide, mz M hm, Option.bind_some, m0, Option.bind_some, if_neg (by decide), m1, Option.bind_some, if_pos rfl, mok (zap M 0) hm, Option.bind_some, q_fz M hm, Option.bind_some]
    · exact v_divide hI h0 h1
theorem b_lower {M : Mem} (hI : Inv M) (x0 : Int32) : Bth (fL_lower M (some 0) x0 (some 126)) (fun M1 => fX3_lower M1 (some 117) x0) := by
  have hc := hI.hc
  have hm := hI.hm
  rcases num_c x0 with ⟨c0, m0⟩ | ⟨n0, h0, rfl, c0, m0⟩
  · refine Bth.fail hI (code := 1) ?_ (by decide) ?_
    · rw [fL_lower, kk M hc, Option.bind_some, fX2_lower, c0, Option.bind_some, thr_l, Option.bind_some, thr_l, if_pos rfl]
    · show fX3_lower M (some 117) (x0) = _
      rw [fX3_lower, mz M hm, Option.bind_some, m0, Option.bind_some, if_pos rfl, mok (zap M 0) hm, Option.bind_some, q_fz M hm, Option.bind_some]
  · exact v_lower hI h0
theorem b_load {M : Mem} (hI : Inv M) (x0 : Int32) : Bth (fL_load M (some 0) x0 (some 126)) (fun M1 => fX3_load M1 (some 117) x0) := by
  have hc := hI.hc
  have hm := hI.hm
  rcases num_c x0 with ⟨c0, m0⟩ | ⟨n0, h0, rfl, c0, m0⟩
  · refine Bth.fail hI (code := 1) ?_ (by decide) ?_
    · rw [fL_load, kk M hc, Option.bind_some, fX2_load, c0, Option.bind_some, thr_l, Option.bind_some, thr_l, if_pos rfl]
    · show fX3_load M (some 117) (x0) = _
      rw [fX3_load, mz M hm, Option.bind_some, m0, Option.bind_some, if_pos rfl, mok (zap M 0) hm, Option.bind_some, q_fz M hm, Option.bind_some]
  · exact v_load hI h0
theorem b_keep {M : Mem} (hI : Inv M) (x0 : Int32) : Bth (fL_keep M (some 0) x0 (some 126)) (fun M1 => fX3_keep M1 (some 117) x0) := by
  have hc := hI.hc
  have hm := hI.hm
  rcases slo_c x0 with ⟨c0, m0⟩ | ⟨n0, h0, rfl, c0, m0⟩
  · refine Bth.fail hI (code := 1) ?_ (by decide) ?_
    · rw [fL_keep, kk M hc, Option.bind_some, fX2_keep, c0, Option.bind_some, thr_l, Option.bind_some, thr_l, if_pos rfl]
    · show fX3_keep M (some 117) (x0) = _
      rw [fX3_keep, mz M hm, Option.bind_some, m0, Option.bind_some, if_pos rfl, mok (zap M 0) hm, Option.bind_some, q_fz M hm, Option.bind_some]
  · exact v_keep hI h0
theorem b_goBack {M : Mem} (hI : Inv M) (x0 : Int32) : Bth (fL_goBack M (some 0) x0 (some 126)) (fun M1 => fX3_goBack M1 (some 117) x0) := by
  have hc := hI.hc
  have hm := hI.hm
  rcases slo_c x0 with ⟨c0, m0⟩ | ⟨n0, h0, rfl, c0, m0⟩
  · refine Bth.fail hI (code := 1) ?_ (by decide) ?_
    · rw [fL_goBack, kk M hc, Option.bind_some, fX2_goBack, c0, Option.bind_some, thr_l, Option.bind_some, thr_l, if_pos rfl]
    · show fX3_goBack M (some 117) (x0) = _
      rw [fX3_goBack, mz M hm, Option.bind_some, m0, Option.bind_some, if_pos rfl, mok (zap M 0) hm, Option.bind_some, q_fz M hm, Option.bind_some]
  · exact v_goBack hI h0
theorem b_sign {M : Mem} (hI : Inv M) (x0 x1 : Int32) : Bth (fL_sign M (some 0) x0 x1 (some 126)) (fun M1 => fX3_sign M1 (some 117) x0 x1) := by
  have hc := hI.hc
  have hm := hI.hm
  rcases num_c x0 with ⟨c0, m0⟩ | ⟨n0, h0, rfl, c0, m0⟩
  · refine Bth.fail hI (code := 1) ?_ (by decide) ?_
    · rw [fL_sign, kk M hc, Option.bind_some, fX2_sign, c0, Option.bind_some, thr_l, Option.bind_some, thr_l, if_pos rfl]
    · show fX3_sign M (some 117) (x0) (x1) = _
      rw [fX3_sign, mz M hm, Option.bind_some, m0, Option.bind_some, if_pos rfl, mok (zap M 0) hm, Option.bind_some, q_fz M hm, Option.bind_some]
  · skip
    rcases pow_c x1 with ⟨c1, m1⟩ | ⟨n1, h1, rfl, c1, m1⟩
    · refine Bth.fail hI (code := 2) ?_ (by decide) ?_
      · rw [fL_sign, kk M hc, Option.bind_some, fX2_sign, c0, Option.bind_some, thr_r, c1, Option.bind_some, thr_l, Option.bind_some, thr_l, if_neg (by decide), if_pos rfl]
      · show fX3_sign M (some 117) (nI n0) (x1) = _
        rw [fX3_sign, mz M hm, Option.bind_some, m0, Option.bind_some, if_neg (by decide), m1, Option.bind_some, if_pos rfl, mok (zap M 0) hm, Option.bind_some, q_fz M hm, Option.bind_some]
    · exact v_sign hI h0 h1
theorem b_of {M : Mem} (hI : Inv M) (x0 x1 : Int32) : Bth (fL_of M (some 0) x0 x1 (some 126)) (fun M1 => fX3_of M1 (some 117) x0 x1) := by
  have hc := hI.hc
  have hm := hI.hm
  rcases num_c x0 with ⟨c0, m0⟩ | ⟨n0, h0, rfl, c0, m0⟩
  · refine Bth.fail hI (code := 1) ?_ (by decide) ?_
    · rw [fL_of, kk M hc, Option.bind_some, fX2_of, c0, Option.bind_some, thr_l, Option.bind_some, thr_l, if_pos rfl]
    · show fX3_of M (some 117) (x0) (x1) = _
      rw [fX3_of, mz M hm, Option.bind_some, m0, Option.bind_some, if_pos rfl, mok (zap M 0) hm, Option.bind_some, q_fz M hm, Option.bind_some]
  · skip
    have qq := wha_c x1 (N := 3) (by decide)
    rw [show nI (3 + 1) = (4 : Int32) from rfl, show nI 3 = (3 : Int32) from rfl] at qq
    rcases qq with ⟨c1, m1⟩ | ⟨n1, h1, rfl, c1, m1⟩
    · refine Bth.fail hI (code := 2) ?_ (by decide) ?_
      · rw [fL_of, kk M hc, Option.bind_some, fX2_of, c0, Option.bind_some, thr_r, c1, Option.bind_some, thr_l, Option.bind_some, thr_l, if_neg (by decide), if_pos rfl]
      · show fX3_of M (some 117) (nI n0) (x1) = _
        rw [fX3_of, mz M hm, Option.bind_some, m0, Option.bind_some, if_neg (by decide), m1, Option.bind_some, if_pos rfl, mok (zap M 0) hm, Option.bind_some, q_fz M hm, Option.bind_some]
    · exact v_of hI h0 h1
theorem b_isRoot {M : Mem} (hI : Inv M) (x0 x1 : Int32) : Bth (fL_isRoot M (some 0) x0 x1 (some 126)) (fun M1 => fX3_isRoot M1 (some 117) x0 x1) := by
  have hc := hI.hc
  have hm := hI.hm
  rcases num_c x0 with ⟨c0, m0⟩ | ⟨n0, h0, rfl, c0, m0⟩
  · refine Bth.fail hI (code := 1) ?_ (by decide) ?_
    · rw [fL_isRoot, kk M hc, Option.bind_some, fX2_isRoot, c0, Option.bind_some, thr_l, Option.bind_some, thr_l, if_pos rfl]
    · show fX3_isRoot M (some 117) (x0) (x1) = _
      rw [fX3_isRoot, mz M hm, Option.bind_some, m0, Option.bind_some, if_pos rfl, mok (zap M 0) hm, Option.bind_some, q_fz M hm, Option.bind_some]
  · skip
    rcases sgn_c x1 with ⟨c1, m1⟩ | ⟨h1, c1, m1⟩
    · refine Bth.fail hI (code := 2) ?_ (by decide) ?_
      · rw [fL_isRoot, kk M hc, Option.bind_some, fX2_isRoot, c0, Option.bind_some, thr_r, c1, Option.bind_some, thr_l, Option.bind_some, thr_l, if_neg (by decide), if_pos rfl]
      · show fX3_isRoot M (some 117) (nI n0) (x1) = _
        rw [fX3_isRoot, mz M hm, Option.bind_some, m0, Option.bind_some, if_neg (by decide), m1, Option.bind_some, if_pos rfl, mok (zap M 0) hm, Option.bind_some, q_fz M hm, Option.bind_some]
    · exact v_isRoot hI h0 h1
theorem b_times {M : Mem} (hI : Inv M) (x0 x1 x2 : Int32) : Bth (fL_times M (some 0) x0 x1 x2 (some 126)) (fun M1 => fX3_times M1 (some 117) x0 x1 x2) := by
  have hc := hI.hc
  have hm := hI.hm
  rcases num_c x0 with ⟨c0, m0⟩ | ⟨n0, h0, rfl, c0, m0⟩
  · refine Bth.fail hI (code := 1) ?_ (by decide) ?_
    · rw [fL_times, kk M hc, Option.bind_some, fX2_times, c0, Option.bind_some, thr_l, Option.bind_some, thr_l, if_pos rfl]
    · show fX3_times M (some 117) (x0) (x1) (x2) = _
      rw [fX3_times, mz M hm, Option.bind_some, m0, Option.bind_some, if_pos rfl, mok (zap M 0) hm, Option.bind_some, q_fz M hm, Option.bind_some]
  · skip
    rcases sgn_c x1 with ⟨c1, m1⟩ | ⟨h1, c1, m1⟩
    · refine Bth.fail hI (code := 2) ?_ (by decide) ?_
      · rw [fL_times, kk M hc, Option.bind_some, fX2_times, c0, Option.bind_some, thr_r, c1, Option.bind_some, thr_l, Option.bind_some, thr_l, if_neg (by decide), if_pos rfl]
      · show fX3_times M (some 117) (nI n0) (x1) (x2) = _
        rw [fX3_times, mz M hm, Option.bind_some, m0, Option.bind_some, if_neg (by decide), m1, Option.bind_some, if_pos rfl, mok (zap M 0) hm, Option.bind_some, q_fz M hm, Option.bind_some]
    · skip
      have qq := wha_c x2 (N := 1) (by decide)
      rw [show nI (1 + 1) = (2 : Int32) from rfl, show nI 1 = (1 : Int32) from rfl] at qq
      rcases qq with ⟨c2, m2⟩ | ⟨n2, h2, rfl, c2, m2⟩
      · refine Bth.fail hI (code := 2) ?_ (by decide) ?_
        · rw [fL_times, kk M hc, Option.bind_some, fX2_times, c0, Option.bind_some, thr_r, c1, Option.bind_some, thr_r, c2, Option.bind_some, thr_l, Option.bind_some, thr_l, if_neg (by decide), if_pos rfl]
        · show fX3_times M (some 117) (nI n0) (x1) (x2) = _
          rw [fX3_times, mz M hm, Option.bind_some, m0, Option.bind_some, if_neg (by decide), m1, Option.bind_some, if_neg (by decide), m2, Option.bind_some, if_pos rfl, mok (zap M 0) hm, Option.bind_some, q_fz M hm, Option.bind_some]
      · exact v_times hI h0 h1 h2
theorem b_quotients {M : Mem} (hI : Inv M) (x0 x1 : Int32) : Bth (fL_quotients M (some 0) x0 x1 (some 126)) (fun M1 => fX3_quotients M1 (some 117) x0 x1) := by
  have hc := hI.hc
  have hm := hI.hm
  rcases num_c x0 with ⟨c0, m0⟩ | ⟨n0, h0, rfl, c0, m0⟩
  · refine Bth.fail hI (code := 1) ?_ (by decide) ?_
    · rw [fL_quotients, kk M hc, Option.bind_some, fX2_quotients, c0, Option.bind_some, thr_l, Option.bind_some, thr_l, if_pos rfl]
    · show fX3_quotients M (some 117) (x0) (x1) = _
      rw [fX3_quotients, mz M hm, Option.bind_some, m0, Option.bind_some, if_pos rfl, mok (zap M 0) hm, Option.bind_some, q_fz M hm, Option.bind_some]
  · skip
    rcases sgn_c x1 with ⟨c1, m1⟩ | ⟨h1, c1, m1⟩
    · refine Bth.fail hI (code := 2) ?_ (by decide) ?_
      · rw [fL_quotients, kk M hc, Option.bind_some, fX2_quotients, c0, Option.bind_some, thr_r, c1, Option.bind_some, thr_l, Option.bind_some, thr_l, if_neg (by decide), if_pos rfl]
      · show fX3_quotients M (some 117) (nI n0) (x1) = _
        rw [fX3_quotients, mz M hm, Option.bind_some, m0, Option.bind_some, if_neg (by decide), m1, Option.bind_some, if_pos rfl, mok (zap M 0) hm, Option.bind_some, q_fz M hm, Option.bind_some]
    · exact v_quotients hI h0 h1
theorem b_best {M : Mem} (hI : Inv M) (x0 x1 : Int32) : Bth (fL_best M (some 0) x0 x1 (some 126)) (fun M1 => fX3_best M1 (some 117) x0 x1) := by
  have hc := hI.hc
  have hm := hI.hm
  rcases num_c x0 with ⟨c0, m0⟩ | ⟨n0, h0, rfl, c0, m0⟩
  · refine Bth.fail hI (code := 1) ?_ (by decide) ?_
    · rw [fL_best, kk M hc, Option.bind_some, fX2_best, c0, Option.bind_some, thr_l, Option.bind_some, thr_l, if_pos rfl]
    · show fX3_best M (some 117) (x0) (x1) = _
      rw [fX3_best, mz M hm, Option.bind_some, m0, Option.bind_some, if_pos rfl, mok (zap M 0) hm, Option.bind_some, q_fz M hm, Option.bind_some]
  · skip
    rcases sgn_c x1 with ⟨c1, m1⟩ | ⟨h1, c1, m1⟩
    · refine Bth.fail hI (code := 2) ?_ (by decide) ?_
      · rw [fL_best, kk M hc, Option.bind_some, fX2_best, c0, Option.bind_some, thr_r, c1, Option.bind_some, thr_l, Option.bind_some, thr_l, if_neg (by decide), if_pos rfl]
      · show fX3_best M (some 117) (nI n0) (x1) = _
        rw [fX3_best, mz M hm, Option.bind_some, m0, Option.bind_some, if_neg (by decide), m1, Option.bind_some, if_pos rfl, mok (zap M 0) hm, Option.bind_some, q_fz M hm, Option.bind_some]
    · exact v_best hI h0 h1
theorem b_many {M : Mem} (hI : Inv M) (x0 x1 x2 : Int32) : Bth (fL_many M (some 0) x0 x1 x2 (some 126)) (fun M1 => fX3_many M1 (some 117) x0 x1 x2) := by
  have hc := hI.hc
  have hm := hI.hm
  rcases num_c x0 with ⟨c0, m0⟩ | ⟨n0, h0, rfl, c0, m0⟩
  · refine Bth.fail hI (code := 1) ?_ (by decide) ?_
    · rw [fL_many, kk M hc, Option.bind_some, fX2_many, c0, Option.bind_some, thr_l, Option.bind_some, thr_l, if_pos rfl]
    · show fX3_many M (some 117) (x0) (x1) (x2) = _
      rw [fX3_many, mz M hm, Option.bind_some, m0, Option.bind_some, if_pos rfl, mok (zap M 0) hm, Option.bind_some, q_fz M hm, Option.bind_some]
  · skip
    rcases num_c x1 with ⟨c1, m1⟩ | ⟨n1, h1, rfl, c1, m1⟩
    · refine Bth.fail hI (code := 1) ?_ (by decide) ?_
      · rw [fL_many, kk M hc, Option.bind_some, fX2_many, c0, Option.bind_some, thr_r, c1, Option.bind_some, thr_l, Option.bind_some, thr_l, if_pos rfl]
      · show fX3_many M (some 117) (nI n0) (x1) (x2) = _
        rw [fX3_many, mz M hm, Option.bind_some, m0, Option.bind_some, if_neg (by decide), m1, Option.bind_some, if_pos rfl, mok (zap M 0) hm, Option.bind_some, q_fz M hm, Option.bind_some]
    · skip
      have qq := wha_c x2 (N := 1) (by decide)
      rw [show nI (1 + 1) = (2 : Int32) from rfl, show nI 1 = (1 : Int32) from rfl] at qq
      rcases qq with ⟨c2, m2⟩ | ⟨n2, h2, rfl, c2, m2⟩
      · refine Bth.fail hI (code := 2) ?_ (by decide) ?_
        · rw [fL_many, kk M hc, Option.bind_some, fX2_many, c0, Option.bind_some, thr_r, c1, Option.bind_some, thr_r, c2, Option.bind_some, thr_l, Option.bind_some, thr_l, if_neg (by decide), if_pos rfl]
        · show fX3_many M (some 117) (nI n0) (nI n1) (x2) = _
          rw [fX3_many, mz M hm, Option.bind_some, m0, Option.bind_some, if_neg (by decide), m1, Option.bind_some, if_neg (by decide), m2, Option.bind_some, if_pos rfl, mok (zap M 0) hm, Option.bind_some, q_fz M hm, Option.bind_some]
      · exact v_many hI h0 h1 h2
theorem b_isIn {M : Mem} (hI : Inv M) (x0 x1 x2 x3 : Int32) : Bth (fL_isIn M (some 0) x0 x1 x2 x3 (some 126)) (fun M1 => fX3_isIn M1 (some 117) x0 x1 x2 x3) := by
  have hc := hI.hc
  have hm := hI.hm
  rcases num_c x0 with ⟨c0, m0⟩ | ⟨n0, h0, rfl, c0, m0⟩
  · refine Bth.fail hI (code := 1) ?_ (by decide) ?_
    · rw [fL_isIn, kk M hc, Option.bind_some, fX2_isIn, c0, Option.bind_some, thr_l, Option.bind_some, thr_l, if_pos rfl]
    · show fX3_isIn M (some 117) (x0) (x1) (x2) (x3) = _
      rw [fX3_isIn, mz M hm, Option.bind_some, m0, Option.bind_some, if_pos rfl, mok (zap M 0) hm, Option.bind_some, q_fz M hm, Option.bind_some]
  · skip
    rcases num_c x1 with ⟨c1, m1⟩ | ⟨n1, h1, rfl, c1, m1⟩
    · refine Bth.fail hI (code := 1) ?_ (by decide) ?_
      · rw [fL_isIn, kk M hc, Option.bind_some, fX2_isIn, c0, Option.bind_some, thr_r, c1, Option.bind_some, thr_l, Option.bind_some, thr_l, if_pos rfl]
      · show fX3_isIn M (some 117) (nI n0) (x1) (x2) (x3) = _
        rw [fX3_isIn, mz M hm, Option.bind_some, m0, Option.bind_some, if_neg (by decide), m1, Option.bind_some, if_pos rfl, mok (zap M 0) hm, Option.bind_some, q_fz M hm, Option.bind_some]
    · skip
      rcases num_c x2 with ⟨c2, m2⟩ | ⟨n2, h2, rfl, c2, m2⟩
      · refine Bth.fail hI (code := 1) ?_ (by decide) ?_
        · rw [fL_isIn, kk M hc, Option.bind_some, fX2_isIn, c0, Option.bind_some, thr_r, c1, Option.bind_some, thr_r, c2, Option.bind_some, thr_l, Option.bind_some, thr_l, if_pos rfl]
        · show fX3_isIn M (some 117) (nI n0) (nI n1) (x2) (x3) = _
          rw [fX3_isIn, mz M hm, Option.bind_some, m0, Option.bind_some, if_neg (by decide), m1, Option.bind_some, if_neg (by decide), m2, Option.bind_some, if_pos rfl, mok (zap M 0) hm, Option.bind_some, q_fz M hm, Option.bind_some]
      · skip
        have qq := wha_c x3 (N := 1) (by decide)
        rw [show nI (1 + 1) = (2 : Int32) from rfl, show nI 1 = (1 : Int32) from rfl] at qq
        rcases qq with ⟨c3, m3⟩ | ⟨n3, h3, rfl, c3, m3⟩
        · refine Bth.fail hI (code := 2) ?_ (by decide) ?_
          · rw [fL_isIn, kk M hc, Option.bind_some, fX2_isIn, c0, Option.bind_some, thr_r, c1, Option.bind_some, thr_r, c2, Option.bind_some, thr_r, c3, Option.bind_some, thr_l, Option.bind_some, thr_l, if_neg (by decide), if_pos rfl]
          · show fX3_isIn M (some 117) (nI n0) (nI n1) (nI n2) (x3) = _
            rw [fX3_isIn, mz M hm, Option.bind_some, m0, Option.bind_some, if_neg (by decide), m1, Option.bind_some, if_neg (by decide), m2, Option.bind_some, if_neg (by decide), m3, Option.bind_some, if_pos rfl, mok (zap M 0) hm, Option.bind_some, q_fz M hm, Option.bind_some]
        · exact v_isIn hI h0 h1 h2 h3
theorem b_count {M : Mem} (hI : Inv M) (x0 : Int32) : Bth (fL_count M (some 0) x0 (some 126)) (fun M1 => fX3_count M1 (some 117) x0) := by
  have hc := hI.hc
  have hm := hI.hm
  have qq := wha_c x0 (N := 7) (by decide)
  rw [show nI (7 + 1) = (8 : Int32) from rfl, show nI 7 = (7 : Int32) from rfl] at qq
  rcases qq with ⟨c0, m0⟩ | ⟨n0, h0, rfl, c0, m0⟩
  · refine Bth.fail hI (code := 1) ?_ (by decide) ?_
    · rw [fL_count, kk M hc, Option.bind_some, fX2_count, c0, Option.bind_some, thr_l, Option.bind_some, thr_l, if_pos rfl]
    · show fX3_count M (some 117) (x0) = _
      rw [fX3_count, mz M hm, Option.bind_some, m0, Option.bind_some, if_pos rfl, mok (zap M 0) hm, Option.bind_some, q_fz M hm, Option.bind_some]
  · exact v_count hI h0
