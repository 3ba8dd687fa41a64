/-! ===== what the law asks of a state ===== -/
def lw (x : Int32) (N : Nat) : Nat := x.toBitVec.toNat % 2 ^ 31 % N
theorem lw_lt (x : Int32) {N : Nat} (h : 0 < N) : lw x N < N := Nat.mod_lt _ h
theorem g_low (M : Mem) (x : Int32) {N : Nat} (h0 : 0 < N) (hN : N < 2 ^ 31) : fL_low M x (nI N) = some (nI (lw x N)) := by
  have e1 : x &&& 2147483647 = nI (x.toBitVec.toNat % 2 ^ 31) := pk_and x 31 rfl
  have e2 : (!(nI N == 0)) = true := by
    rw [Bool.not_eq_true', beq_eq_false_iff_ne]
    exact nI_ne0 h0 hN
  unfold fL_low
  rw [chk, if_pos e2, e1, pk_rem (Nat.mod_lt _ (by decide)) h0 hN]
  rfl
theorem h_root {M : Mem} {v : Nat → Int32} {B : BS} (h : Sx M v B) {n m : Nat} (hn : n < 5) {r : Int32} (hr : sgn r) : ∃ M2, Sx M2 v B ∧ ∀ k1 k2 q s, fL_holds_5 (some 0) (nI n) (nI m) k1 k2 (q + 1) M s r = fL_holds_5 (some 0) (nI n) (nI m) k1 k2 q M2 (s + (if 0 ≤ r then nI (cntd (rv v n) r) else 0)) (r + 1) := by
  have hsg := h.sg.row hn
  have hnz := h.nz hn
  obtain ⟨M1, e1, s1⟩ := g_times0 h hn hr
  have e2 := g_isRoot s1 hn hr
  have e3 := g_times1 s1 hn hr
  obtain ⟨M2, e4, s2⟩ := g_quot s1 hn hr
  obtain ⟨M3, e5, s3⟩ := g_best s2 hn hr
  have hc8 : cntd (rv v n) r ≤ 8 := by
    have := cntd_le hsg hnz hr
    have := deg_lt (rv v n)
    omega
  have hb := hasR_iff hsg hnz hr
  have hl := (quo_facts hsg hnz hr).2.1
  have hll := len_0 hsg hnz hr
  have hbf := bfm_neg hsg hnz hr
  have h2r : ¬ (2 : Int32) ≤ r := by rcases hr with rfl | rfl | rfl <;> decide
  generalize hg : cntd (rv v n) r = c at *
  have T : ∀ b : Bool, (if b2 b = 1 then (1 : Int32) else 0) = b2 b := fun b => by cases b <;> rfl
  have hc0 : (nI c ≤ 0) ↔ c = 0 := ⟨fun q => by
    by_cases h0 : c = 0
    · exact h0
    · exact absurd q (nI_nle (by omega) (by omega)), fun q => by rw [q]; decide⟩
  have T1 : (if b2 (hasR (rv v n) r) = 1 then (1 : Int32) else 0) = if nI c ≤ 0 then 0 else 1 := by
    rw [T]
    by_cases h0 : c = 0
    · rw [if_pos (hc0.mpr h0), show hasR (rv v n) r = false from Bool.eq_false_iff.mpr (fun q => hb.mp q h0)]; rfl
    · rw [if_neg (fun q => h0 (hc0.mp q)), hb.mpr h0]; rfl
  have T2 : (if b2 (hasR (rv v n) r) = 1 then (1 : Int32) else 0) = if nI (quo (rv v n) r).length ≤ 0 then 0 else 1 := by
    rw [T]
    by_cases h0 : c = 0
    · rw [hl.mpr h0, show hasR (rv v n) r = false from Bool.eq_false_iff.mpr (fun q => hb.mp q h0)]; rfl
    · have hne : ¬ nI (quo (rv v n) r).length ≤ 0 := by
        intro q
        have hlen : (quo (rv v n) r).length < 2 ^ 31 := by
          have hd := deg_lt (rv v n)
          have h1 : (quo (rv v n) r).length ≤ (allS (deg (rv v n))).length := by
            unfold quo
            rw [show seg (rv v n) 0 (deg (rv v n) + 1) = rv v n 0 :: seg (rv v n) (0 + 1) (deg (rv v n)) from rfl, qE_all, seg_len]
            exact List.length_filter_le _ _
          rw [← dig_all, List.length_map, List.length_range] at h1
          have := p3 _ hd
          omega
        have hpos : 0 < (quo (rv v n) r).length := List.length_pos_iff.mpr (fun q2 => h0 (hl.mp q2))
        exact absurd q (nI_nle hpos hlen)
      rw [if_neg hne, hb.mpr h0]; rfl
  have T3 : (if b2 (hasR (rv v n) r) = 1 then (1 : Int32) else 0) = if bfm (rv v n) r < 0 then 0 else 1 := by
    rw [T]
    by_cases h0 : c = 0
    · rw [if_pos (hbf.mpr h0), show hasR (rv v n) r = false from Bool.eq_false_iff.mpr (fun q => hb.mp q h0)]; rfl
    · rw [if_neg (fun q => h0 (hbf.mp q)), hb.mpr h0]; rfl
  refine ⟨M3, s3, fun k1 k2 q s => ?_⟩
  rw [fL_holds_5, if_neg h2r, kk M h.hc, Option.bind_some, e1, Option.bind_some, kk M1 s1.hc, Option.bind_some, e2, Option.bind_some, Option.bind_some, e3, Option.bind_some, if_pos rfl, if_pos T1, kk M1 s1.hc, Option.bind_some, e4, Option.bind_some, if_pos T2, kk M2 s2.hc, Option.bind_some, e5, Option.bind_some, if_pos T3]
theorem h_zeros {M : Mem} {v : Nat → Int32} {B : BS} (h : Sx M v B) {n m : Nat} (hn : n < 5) (x3 x4 : Int32) : ∀ j i q, i + j = 9 → deg (rv v n) < i → j < q → ∀ k, fL_holds_219 (some 0) (nI n) (nI m) x3 x4 k q M 1 (nI i) = k M 1 (nI 9) := by
  intro j
  induction j with
  | zero =>
    intro i q hi hd hq k
    obtain ⟨q, rfl⟩ := suc_of hq
    have : i = 9 := by omega
    subst this
    rw [fL_holds_219, if_pos ge9_t]
  | succ j ih =>
    intro i q hi hd hq k
    obtain ⟨q, rfl⟩ := suc_of hq
    rw [fL_holds_219, if_neg (ge9_f i (by omega)), if_neg (by decide), kk M h.hc, Option.bind_some, g_sign h hn (show i < 9 by omega), Option.bind_some, if_pos (deg_top (rv v n) hd (by omega)), nI_1]
    exact ih (i + 1) q (by omega) (by omega) (by omega) k
theorem h_pairs {M : Mem} {v : Nat → Int32} {B : BS} (h : Sx M v B) {n m : Nat} (hn : n < 5) (hm : m < 5) (x3 : Int32) (q : Nat) : ∀ k, fL_holds_257 (some 0) (nI n) (nI m) x3 (nI (deg (rv v n))) k (q + 3) M 1 0 = k M 1 2 := by
  intro k
  have hc := h.hc
  have step : ∀ w, w < 2 → ∀ k q, fL_holds_257 (some 0) (nI n) (nI m) x3 (nI (deg (rv v n))) k (q + 1) M 1 (nI w) = fL_holds_257 (some 0) (nI n) (nI m) x3 (nI (deg (rv v n))) k q M 1 (nI (w + 1)) := by
    intro w hw k q
    have e1 := g_many h hn hm hw
    have e2 := g_many h hm hn hw
    rw [rows_comm] at e2
    have e3 := g_isIn h (c := 0) (by decide) hn hm hw
    have e4 := g_isIn h (c := 0) (by decide) hm hn hw
    rw [amg_comm] at e4
    rw [nI_0] at e3 e4
    rw [fL_holds_257, if_neg (show ¬ (2 : Int32) ≤ nI w from ge_f (N := 2) hw (by decide)), if_neg (by decide), kk M hc, Option.bind_some, e1, Option.bind_some, Option.bind_some, e2, Option.bind_some, if_pos rfl, Option.bind_some, e3, Option.bind_some, Option.bind_some, e4, Option.bind_some, if_pos rfl]
    by_cases hw0 : w = 0
    · subst hw0
      rw [if_pos (by decide), nI_1]
    · have hw1 : w = 1 := by omega
      subst hw1
      have e5 : fX2_isIn M (some 0) 0 (nI n) (nI m) 1 = some (b2 (amgV 1 (rv v 0) (rv v n) (rv v m))) := e3
      rw [if_neg (by decide), Option.bind_some, e5, Option.bind_some, nI_1]
      by_cases ha : amgV 1 (rv v 0) (rv v n) (rv v m) = true
      · rw [ha, if_neg (by decide)]
        have f1 : fX2_of M (some 0) 0 0 = some (nI (deg (rv v 0))) := g_of h (n := 0) (w := 0) (by decide) (by decide)
        have f2 : fX2_of M (some 0) (nI m) 0 = some (nI (deg (rv v m))) := g_of h (w := 0) hm (by decide)
        have hd := amg_deg (h.sg.row (n := 0) (by decide)) (h.sg.row hn) (h.sg.row hm) (h.nz hn) (h.nz hm) ha
        rw [Option.bind_some, f1, Option.bind_some, Option.bind_some, f2, Option.bind_some, nI_add, hd, if_pos rfl]
      · rw [Bool.eq_false_iff.mpr ha, if_pos (by decide)]
  have a1 := step 0 (by decide) k (q + 2)
  have a2 := step 1 (by decide) k (q + 1)
  rw [nI_0] at a1
  rw [show q + 3 = q + 2 + 1 from rfl, a1, show q + 2 = q + 1 + 1 from rfl, a2, fL_holds_257, if_pos (by decide)]
  rfl
theorem g_holds {M : Mem} {v : Nat → Int32} {B : BS} (h : Sx M v B) {n m : Nat} (hn : n < 5) (hm : m < 5) : ∃ M2, fL_holds M (some 0) (nI n) (nI m) = some (M2, 1) ∧ Sx M2 v B := by
  have hsg := h.sg.row hn
  have hnz := h.nz hn
  obtain ⟨M1, s1, f1⟩ := h_root (m := m) h hn (r := -1) (sgn_neg sgn_1)
  obtain ⟨M2, s2, f2⟩ := h_root (m := m) s1 hn (r := 0) sgn_0
  obtain ⟨M3, s3, f3⟩ := h_root (m := m) s2 hn (r := 1) sgn_1
  have hsum := sum_le hsg hnz
  have hd9 := deg_lt (rv v n)
  obtain ⟨c8, c45⟩ := h.okc
  obtain ⟨M4, e4, s4⟩ := g_quot s3 hn sgn_0
  obtain ⟨M5, e5, s5⟩ := g_coef s4 (k := cnt v) (by omega)
  rw [whW_top] at e5
  have hsh := okS_sh hsg hnz
  unfold okS at hsh
  simp only [Bool.and_eq_true, decide_eq_true_eq] at hsh
  obtain ⟨q, hq, hq8⟩ : ∃ q, FU = q + 4 ∧ 100 ≤ q := ⟨FU - 4, rfl, Nat.le_of_ble_eq_true rfl⟩
  have c7 : lg_cmp (1 : Int64) 1 = 0 := by decide
  have g1 : fX2_of M3 (some 0) (nI n) 0 = some (nI (deg (rv v n))) := g_of s3 (w := 0) hn (by decide)
  have g2 : fX2_isIn M3 (some 0) (nI n) (nI n) (nI n) 0 = some 1 := (g_isIn s3 hn hn hn (w := 0) (by decide)).trans (congrArg (fun b => some (b2 b)) (amg_self _))
  have g3 : fX2_of M4 (some 0) (nI n) 2 = some (nI (cntd (rv v n) 1)) := g_of s4 (w := 2) hn (by decide)
  have g4 : fX2_of M4 (some 0) (nI n) 1 = some (nI (nzF (rv v n) 9)) := g_of s4 (w := 1) hn (by decide)
  have g5 := g_times1 s4 hn sgn_1
  have g6 := g_sign s4 hn hd9
  have g7 : fX2_count M4 (some 0) 0 = some (nI (cnt v)) := g_count s4 (w := 0) (by decide)
  have g8 : fX2_count M5 (some 0) 1 = some (nI (rtF v 1 (cnt v))) := g_count s5 (w := 1) (by decide)
  have g9 : fX2_count M5 (some 0) 2 = some (nI (rtF v 2 (cnt v))) := g_count s5 (w := 2) (by decide)
  have ga : fX2_count M5 (some 0) 3 = some (nI (rtF v 3 (cnt v))) := g_count s5 (w := 3) (by decide)
  have gb := g_share s5 hn
  have hnz9 : nzF (rv v n) 9 < 2 ^ 31 := by
    have : ∀ g : Nat → Int32, ∀ n, nzF g n ≤ n := by
      intro g n
      induction n with
      | zero => exact Nat.le_refl _
      | succ n ih => unfold nzF; split <;> omega
    have := this (rv v n) 9
    omega
  have t1 : (0 : Int32) + (if (0 : Int32) ≤ -1 then nI (cntd (rv v n) (-1)) else 0) + (if (0 : Int32) ≤ 0 then nI (cntd (rv v n) 0) else 0) + (if (0 : Int32) ≤ 1 then nI (cntd (rv v n) 1) else 0) = nI (cntd (rv v n) 0 + cntd (rv v n) 1) := by
    rw [if_neg (by decide), if_pos (by decide), if_pos (by decide), Int32.add_zero, Int32.zero_add, nI_add]
  have c1 : ¬ (1 : Int32) < nI (quo (rv v n) 0).length := nI_nlt (a := 1) (quo0_len (rv v n)) (by decide)
  have c2 : ¬ nI (deg (rv v n)) < nI (cntd (rv v n) 0 + cntd (rv v n) 1) := nI_nlt (by omega) (by omega)
  have c3 : ¬ nI (nzF (rv v n) 9) ≤ nI (cntd (rv v n) 1) := nI_ge (chs_lt hnz) hnz9
  have c4 : ¬ rv v n (deg (rv v n)) = 0 := deg_ne hnz
  have c5 : nI (cnt v) = nI (rtF v 1 (cnt v)) + nI (rtF v 2 (cnt v)) + nI (rtF v 3 (cnt v)) := by rw [nI_add, nI_add, rt_sum]
  have c6 : ¬ Op.cmpValue (FP.dcmp (shV (rv v n)) FP.dconst0) .l < 0 := fun z => Int32.not_le.mpr z hsh.2
  refine ⟨M5, ?_, s5⟩
  rw [fL_holds, hq, show q + 4 = q + 3 + 1 from rfl, f1, show (-1 : Int32) + 1 = 0 by decide, show q + 3 = q + 2 + 1 from rfl, f2, show (0 : Int32) + 1 = 1 by decide, show q + 2 = q + 1 + 1 from rfl, f3, t1, fL_holds_5, if_pos (by decide), kk M3 s3.hc, Option.bind_some, g1, Option.bind_some, Option.bind_some, g2, Option.bind_some, if_pos rfl, Option.bind_some, e4, Option.bind_some, if_neg c1, if_neg c2, kk M4 s4.hc, Option.bind_some, g3, Option.bind_some, Option.bind_some, g5, Option.bind_some, if_pos rfl, kk M4 s4.hc, Option.bind_some, g3, Option.bind_some, Option.bind_some, g4, Option.bind_some, if_neg c3, Option.bind_some, g6, Option.bind_some, if_neg c4, nI_1, h_zeros s4 hn _ _ (8 - deg (rv v n)) _ _ (by omega) (by omega) (by omega), show q + 1 + 1 + 1 + 1 = (q + 1) + 3 from rfl, h_pairs s4 hn hm, kk M4 s4.hc, Option.bind_some, g7, Option.bind_some, Option.bind_some, e5, Option.bind_some, if_neg (by decide), kk M5 s5.hc, Option.bind_some, g8, Option.bind_some, Option.bind_some, g9, Option.bind_some, Option.bind_some, ga, Option.bind_some, if_pos c5, if_pos c7, Option.bind_some, gb, Option.bind_some, if_neg c6]
