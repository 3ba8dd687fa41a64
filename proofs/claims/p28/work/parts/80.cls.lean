/-! ===== the class's state, told alone ===== -/
def Sx (M : Mem) (v : Nat → Int32) (B : BS) : Prop := (∃ sp, CR M sp v B) ∧ OkV v ∧ OkB B
theorem Sx.hc {M : Mem} {v : Nat → Int32} {B : BS} (h : Sx M v B) : HC0 M := by obtain ⟨⟨sp, h⟩, _⟩ := h; exact h.1
theorem Sx.rep {M : Mem} {v : Nat → Int32} {B : BS} (h : Sx M v B) : Rep M 1 v := by obtain ⟨⟨sp, h⟩, _⟩ := h; exact h.2.2.1
theorem Sx.sg {M : Mem} {v : Nat → Int32} {B : BS} (h : Sx M v B) : SgV v := h.2.1.1
theorem Sx.nz {M : Mem} {v : Nat → Int32} {B : BS} (h : Sx M v B) {n : Nat} (hn : n < 5) : Nz (rv v n) := h.2.1.2.1 n hn
theorem Sx.okc {M : Mem} {v : Nat → Int32} {B : BS} (h : Sx M v B) : OkC v := h.2.1.2.2.1
theorem Sx.c2 {M : Mem} {v : Nat → Int32} {B : BS} (h : Sx M v B) : mI M 0 2 = nI B.1 := by obtain ⟨⟨sp, h⟩, _⟩ := h; exact h.2.2.2.1
theorem Sx.row {M : Mem} {v : Nat → Int32} {B : BS} (h : Sx M v B) {n : Nat} (hn : n < 5) : Row M (1 + 2 + n) ∧ rC M (1 + 2 + n) = rv v n := ⟨bRow hn blk_1 h.hc, h.rep.1 n hn⟩
theorem Sx.now {M M2 : Mem} {v v2 : Nat → Int32} {B : BS} (h : Sx M v B) (hf : Fr (fun x => 1 ≤ x ∧ x < 9) M M2) (hr : Rep M2 1 v2) (o : OkV v2) : Sx M2 v2 B := by
  obtain ⟨⟨sp, h1⟩, h2, h3⟩ := h
  exact ⟨⟨sp, h1.now h3.1 hf hr⟩, o, h3⟩
theorem Sx.scr {M M2 : Mem} {v : Nat → Int32} {B : BS} {S : Nat → Prop} (h : Sx M v B) (hf : Fr S M M2) (hs : ∀ b, S b → 81 ≤ b) : Sx M2 v B := by
  obtain ⟨⟨sp, h1⟩, h2, h3⟩ := h
  exact ⟨⟨sp, h1.fr h3.1 hf hs⟩, h2, h3⟩
theorem Sx.whole {M : Mem} {v : Nat → Int32} {B : BS} (h : Sx M v B) (f : Nat → Int64) : Sx (setJ M 13 f) v B := h
theorem Sx.save {M : Mem} {v : Nat → Int32} {B : BS} (h : Sx M v B) : ∃ M2, fX2_save M (some 0) = some M2 ∧ Sx M2 v (savB B v) := by
  obtain ⟨⟨sp, h1⟩, h2, h3⟩ := h
  obtain ⟨M2, sp2, e, r, -⟩ := s_save h1 h3.1 h2.2.2.1.1
  exact ⟨M2, e, ⟨sp2, r⟩, h2, h3.sav h2⟩
theorem num_v (M : Mem) {n : Nat} (hn : n < 5) : fX2_checkNumber M (nI n) = some () := by
  rw [fX2_checkNumber, if_neg (nI_pos (by omega)), if_pos (show nI n < 5 from nI_lt hn (by decide))]
theorem pow_v (M : Mem) {n : Nat} (hn : n < 9) : fX2_checkPower M (nI n) = some () := by
  rw [fX2_checkPower, if_neg (nI_pos (by omega)), if_pos (show nI n ≤ 8 from nI_le (b := 8) (by omega) (by decide))]
theorem sgn_v (M : Mem) {x : Int32} (h : sgn x) : fX2_checkSign M x = some () := by
  rcases h with rfl | rfl | rfl <;> rfl
theorem slo_v (M : Mem) : fX2_checkSlot M 0 = some () := rfl
theorem wha_v (M : Mem) {N w : Nat} (hw : w < N) (hN : N < 2 ^ 31) : fX2_checkWhat M (nI w) (nI N) = some () := by
  rw [fX2_checkWhat, if_neg (nI_pos (by omega)), if_pos (nI_lt hw hN)]
/-! ===== looks ===== -/
theorem g_sign {M : Mem} {v : Nat → Int32} {B : BS} (h : Sx M v B) {n k : Nat} (hn : n < 5) (hk : k < 9) : fX2_sign M (some 0) (nI n) (nI k) = some (rv v n k) := by
  obtain ⟨hr, er⟩ := h.row hn
  rw [fX2_sign, num_v M hn, Option.bind_some, pow_v M hk, Option.bind_some, now_row h.hc hn, aI_r hr hk, Option.bind_some, er]
theorem g_of {M : Mem} {v : Nat → Int32} {B : BS} (h : Sx M v B) {n w : Nat} (hn : n < 5) (hw : w < 4) : fX2_of M (some 0) (nI n) (nI w) = some (tel (rv v n) w) := by
  obtain ⟨hr, er⟩ := h.row hn
  have f1 := s_degreeOf hr
  have f2 := s_notZero hr
  have f3 := s_changes1 hr (by rw [er]; exact h.sg.row hn)
  have f4 := s_formOf hr
  rw [er] at f1 f2 f3 f4
  rw [fX2_of, num_v M hn, Option.bind_some, show (4 : Int32) = nI 4 from rfl, wha_v M hw (by decide), Option.bind_some, now_row h.hc hn, f1, f2, f3, f4]
  have hw4 : w = 0 ∨ w = 1 ∨ w = 2 ∨ w = 3 := by omega
  rcases hw4 with rfl | rfl | rfl | rfl <;> rfl
theorem g_isRoot {M : Mem} {v : Nat → Int32} {B : BS} (h : Sx M v B) {n : Nat} (hn : n < 5) {r : Int32} (hr0 : sgn r) : fX2_isRoot M (some 0) (nI n) r = some (b2 (hasR (rv v n) r)) := by
  obtain ⟨hr, er⟩ := h.row hn
  have f1 := s_hasRoot hr hr0 (by rw [er]; exact h.sg.row hn)
  rw [er] at f1
  rw [fX2_isRoot, num_v M hn, Option.bind_some, sgn_v M hr0, Option.bind_some, now_row h.hc hn, f1, Option.bind_some]
  by_cases hb : hasR (rv v n) r = true
  · rw [if_pos hb, hb]; rfl
  · rw [if_neg hb, eq_false_of_ne_true hb]; rfl
theorem g_try {M : Mem} {v : Nat → Int32} {B : BS} (h : Sx M v B) {n : Nat} (hn : n < 5) {r : Int32} (hr : sgn r) : ∃ M2, fX2_tryQuotients M (some (1 + 2 + n)) r (some 14) (some 15) 0 = some (M2, nI (cntd (rv v n) r)) ∧ Sx M2 v B ∧ (cntd (rv v n) r ≠ 0 → ∀ k, k < 9 → mI M2 84 k = lrow (bst r (quo (rv v n) r)).2 k) := by
  obtain ⟨hro, er⟩ := h.row hn
  have e := s_try hr 8 0 rfl M (1 + 2 + n) h.hc.hv hro (by omega) (by rw [er]; exact h.sg.row hn) (by rw [er]; exact h.nz hn) (by have := deg_lt (rC M (1 + 2 + n)); omega)
  rw [er] at e
  obtain ⟨M2, e1, f1, w1⟩ := e
  exact ⟨M2, e1, h.scr f1 (fun b hb => hb.1), w1⟩
theorem g_times0 {M : Mem} {v : Nat → Int32} {B : BS} (h : Sx M v B) {n : Nat} (hn : n < 5) {r : Int32} (hr : sgn r) : ∃ M2, fX2_times M (some 0) (nI n) r 0 = some (M2, nI (cntd (rv v n) r)) ∧ Sx M2 v B := by
  obtain ⟨M2, e, s, -⟩ := g_try h hn hr
  refine ⟨M2, ?_, s⟩
  rw [fX2_times, num_v M hn, Option.bind_some, sgn_v M hr, Option.bind_some, show (2 : Int32) = nI 2 from rfl, show fX2_checkWhat M 0 (nI 2) = some () from wha_v M (w := 0) (by decide) (by decide), Option.bind_some, now_row h.hc hn, if_pos rfl, h.hc.hv.g, Option.bind_some, h.hc.hv.t, Option.bind_some, e, Option.bind_some]
theorem g_times1 {M : Mem} {v : Nat → Int32} {B : BS} (h : Sx M v B) {n : Nat} (hn : n < 5) {r : Int32} (hr : sgn r) : fX2_times M (some 0) (nI n) r 1 = some (M, nI (cntd (rv v n) r)) := by
  obtain ⟨hro, er⟩ := h.row hn
  have f1 := s_counted hro hr (by rw [er]; exact h.sg.row hn)
  rw [er] at f1
  rw [fX2_times, num_v M hn, Option.bind_some, sgn_v M hr, Option.bind_some, show (2 : Int32) = nI 2 from rfl, show fX2_checkWhat M 1 (nI 2) = some () from wha_v M (w := 1) (by decide) (by decide), Option.bind_some, now_row h.hc hn, if_neg (by decide), f1, Option.bind_some]
theorem g_quot {M : Mem} {v : Nat → Int32} {B : BS} (h : Sx M v B) {n : Nat} (hn : n < 5) {r : Int32} (hr0 : sgn r) : ∃ M2, fX2_quotients M (some 0) (nI n) r = some (M2, nI (quo (rv v n) r).length) ∧ Sx M2 v B := by
  obtain ⟨hr, er⟩ := h.row hn
  obtain ⟨Mc, e1, f1⟩ := s_quoOf h.hc.hv hr (by omega) hr0 (by rw [er]; exact h.sg.row hn)
  rw [er] at e1
  refine ⟨Mc, ?_, h.scr f1 (fun b hb => by unfold S0 at hb; omega)⟩
  rw [fX2_quotients, num_v M hn, Option.bind_some, sgn_v M hr0, Option.bind_some, now_row h.hc hn, kk M h.hc, Option.bind_some, e1, Option.bind_some]
theorem g_best {M : Mem} {v : Nat → Int32} {B : BS} (h : Sx M v B) {n : Nat} (hn : n < 5) {r : Int32} (hr : sgn r) : ∃ M2, fX2_best M (some 0) (nI n) r = some (M2, bfm (rv v n) r) ∧ Sx M2 v B := by
  obtain ⟨M2, e, s, w⟩ := g_try h hn hr
  have eb := s_bestForm s.hc.hv (h.sg.row hn) (h.nz hn) hr w
  refine ⟨M2, ?_, s⟩
  rw [fX2_best, num_v M hn, Option.bind_some, sgn_v M hr, Option.bind_some, now_row h.hc hn, h.hc.hv.g, Option.bind_some, h.hc.hv.t, Option.bind_some, e, Option.bind_some, kk M2 s.hc, Option.bind_some, eb, Option.bind_some]
theorem g_many {M : Mem} {v : Nat → Int32} {B : BS} (h : Sx M v B) {n m w : Nat} (hn : n < 5) (hm : m < 5) (hw : w < 2) : fX2_many M (some 0) (nI n) (nI m) (nI w) = some (rowsV (nI w) (rv v n) (rv v m)) := by
  obtain ⟨hr, er⟩ := h.row hn
  obtain ⟨hr2, er2⟩ := h.row hm
  have f1 := s_rowsOf hr hr2 (by rw [er]; exact h.sg.row hn) (by rw [er2]; exact h.sg.row hm) (nI w)
  rw [er, er2] at f1
  rw [fX2_many, num_v M hn, Option.bind_some, num_v M hm, Option.bind_some, show (2 : Int32) = nI 2 from rfl, wha_v M hw (by decide), Option.bind_some, now_row h.hc hn, now_row h.hc hm, f1, Option.bind_some]
theorem g_isIn {M : Mem} {v : Nat → Int32} {B : BS} (h : Sx M v B) {c n m w : Nat} (hc : c < 5) (hn : n < 5) (hm : m < 5) (hw : w < 2) : fX2_isIn M (some 0) (nI c) (nI n) (nI m) (nI w) = some (b2 (amgV (nI w) (rv v c) (rv v n) (rv v m))) := by
  obtain ⟨hr0, er0⟩ := h.row hc
  obtain ⟨hr, er⟩ := h.row hn
  obtain ⟨hr2, er2⟩ := h.row hm
  have f1 := s_isAmong hr0 hr hr2 (by rw [er0]; exact h.sg.row hc) (by rw [er]; exact h.sg.row hn) (by rw [er2]; exact h.sg.row hm) (nI w)
  rw [er0, er, er2] at f1
  rw [fX2_isIn, num_v M hc, Option.bind_some, num_v M hn, Option.bind_some, num_v M hm, Option.bind_some, show (2 : Int32) = nI 2 from rfl, wha_v M hw (by decide), Option.bind_some, now_row h.hc hc, now_row h.hc hn, now_row h.hc hm, f1, Option.bind_some]
  by_cases hb : amgV (nI w) (rv v c) (rv v n) (rv v m) = true
  · rw [if_pos hb, hb]; rfl
  · rw [if_neg hb, eq_false_of_ne_true hb]; rfl
theorem g_coef {M : Mem} {v : Nat → Int32} {B : BS} (h : Sx M v B) {k : Nat} (hk : k < 9) : ∃ M2, fX2_coefficient M (some 0) (nI k) = some (M2, whW v (cnt v) k) ∧ Sx M2 v B := by
  have ew := s_expand M h.hc h.rep h.okc h.2.1.2.2.2
  have hw := (h.whole (cutW (mJ M 13) (whW v (cnt v)))).hc
  refine ⟨_, ?_, h.whole (cutW (mJ M 13) (whW v (cnt v)))⟩
  rw [fX2_coefficient, pow_v M hk, Option.bind_some, kk M h.hc, Option.bind_some, ew, Option.bind_some, k7 _ hw, Option.bind_some, aw _ hk hw, Option.bind_some, mJ_eq, cut_lt _ _ hk]
theorem g_roots {M : Mem} {v : Nat → Int32} {B : BS} (h : Sx M v B) {w : Int32} (hw : sgn w) : fX2_rootsOfSign M (some 0) w = some (nI (rtF v (clsOf w) (cnt v))) := by
  unfold fX2_rootsOfSign
  have hc := h.hc
  obtain ⟨_, e2, e3, _, _⟩ := h.rep
  obtain ⟨c8, c45⟩ := h.okc
  rw [c45] at e2
  have e := loopA (fX2_rootsOfSign_4 M (some 0) w) (cnt v) (fun i => nI (rtF v (clsOf w) i)) (fun i hi k m => by
    rw [fX2_rootsOfSign_4, k0 M hc, Option.bind_some, bg M 1 2 blk_1 hc, Option.bind_some, e2, if_neg (ge_f hi (by omega)), if_neg (show ¬ (8 : Int32) ≤ nI i from ge_f (N := 8) (by omega) (by decide)), Option.bind_some, bk1 M 1 blk_1 hc, Option.bind_some, ba7 M 1 i (by omega) blk_1 hc, Option.bind_some, e3 i hi, s_signOf, Option.bind_some, nI_1, nI_1]
    by_cases hr : rcl (v (46 + i)) = clsOf w
    · rw [if_pos ((cls_iff hw).mpr hr), show rtF v (clsOf w) (i + 1) = rtF v (clsOf w) i + 1 by simp [rtF, hr]]
    · rw [if_neg (fun q => hr ((cls_iff hw).mp q)), show rtF v (clsOf w) (i + 1) = rtF v (clsOf w) i by simp [rtF, hr]]) (fun k m => by
    rw [fX2_rootsOfSign_4, k0 M hc, Option.bind_some, bg M 1 2 blk_1 hc, Option.bind_some, e2, if_pos (nI_le (Nat.le_refl _) (by omega))]) (cnt v) 0 FU (by omega) (fu_9 (by omega))
  exact e _
theorem g_one {M : Mem} {v : Nat → Int32} {B : BS} (h : Sx M v B) : fX2_withRootOne M (some 0) = some (nI (w1F v 5)) := by
  unfold fX2_withRootOne
  have hc := h.hc
  have e := loopA (fX2_withRootOne_4 M (some 0)) 5 (fun i => nI (w1F v i)) (fun i hi k m => by
    obtain ⟨hr, er⟩ := h.row hi
    have f1 := s_hasRoot hr sgn_1 (by rw [er]; exact h.sg.row hi)
    rw [er] at f1
    rw [fX2_withRootOne_4, if_neg (lt5_f i hi), now_row hc hi, f1, Option.bind_some, nI_1, nI_1]
    by_cases hb : hasR (rv v i) 1 = true
    · rw [if_pos hb, if_neg (by decide), show w1F v (i + 1) = w1F v i + 1 by simp [w1F, hb]]
    · rw [if_neg hb, if_pos rfl, show w1F v (i + 1) = w1F v i by simp [w1F, hb]]) (fun k m => by rw [fX2_withRootOne_4, if_pos (by decide)]) 5 0 FU rfl (fu_9 (by decide))
  exact e _
theorem g_count {M : Mem} {v : Nat → Int32} {B : BS} (h : Sx M v B) {w : Nat} (hw : w < 8) : fX2_count M (some 0) (nI w) = some (tcV v B.1 w) := by
  have hc := h.hc
  obtain ⟨_, e2, e3, e4, e5⟩ := h.rep
  obtain ⟨c8, c45⟩ := h.okc
  rw [c45] at e2
  have f1 := g_roots h sgn_1
  have f2 := g_roots h (sgn_neg sgn_1)
  have f3 := g_roots h sgn_0
  rw [fX2_count, show (8 : Int32) = nI 8 from rfl, wha_v M hw (by decide), Option.bind_some, k0 M hc, Option.bind_some, bg M 1 2 blk_1 hc, Option.bind_some, Option.bind_some, bg M 1 3 blk_1 hc, Option.bind_some, Option.bind_some, bg M 1 4 blk_1 hc, Option.bind_some, kk M hc, f1, f2, f3, g_one h, kg M 2 hc, e2, e4, e5, h.c2]
  have hw2 : w = 0 ∨ w = 1 ∨ w = 2 ∨ w = 3 ∨ w = 4 ∨ w = 5 ∨ w = 6 ∨ w = 7 := by omega
  rcases hw2 with rfl | rfl | rfl | rfl | rfl | rfl | rfl | rfl <;> rfl
/-! the share -/
def okS (x : UInt64) : Bool := n64b x && decide (0 ≤ Op.cmpValue (FP.dcmp x FP.dconst0) .l)
theorem okS_1 : okS FP.dconst1 = true := by decide +kernel
theorem okS_q : ∀ d : Nat, d < 9 → 0 < d → ∀ t : Nat, t < 9 → t ≤ d → okS (FP.ddiv (FP.i2d (nI t)) (FP.i2d (nI d))) = true := by decide +kernel
theorem okS_sh {g : Nat → Int32} (hs : SgR g) (hz : Nz g) : okS (shV g) = true := by
  unfold shV
  split
  · exact okS_1
  · have h1 := sum_le hs hz
    have h2 := deg_lt g
    exact okS_q _ h2 (by omega) _ (by omega) h1
theorem g_share {M : Mem} {v : Nat → Int32} {B : BS} (h : Sx M v B) {n : Nat} (hn : n < 5) : fX2_takenShare M (some 0) (nI n) = some (shV (rv v n)) := by
  obtain ⟨hr, er⟩ := h.row hn
  have hs := h.sg.row hn
  have hk := okS_sh hs (h.nz hn)
  have f0 := s_degreeOf hr
  have f1 := s_counted hr sgn_1 (by rw [er]; exact hs)
  have f2 := s_counted hr (sgn_neg sgn_1) (by rw [er]; exact hs)
  have f3 := s_counted hr sgn_0 (by rw [er]; exact hs)
  rw [er] at f0 f1 f2 f3
  have e0 : (nI (deg (rv v n)) = 0) ↔ deg (rv v n) = 0 := nI_eq (b := 0) (by have := deg_lt (rv v n); omega) (by decide)
  rw [fX2_takenShare, num_v M hn, Option.bind_some, now_row h.hc hn, fX2_shareOf, f0, Option.bind_some]
  unfold shV at hk ⊢
  by_cases h0 : deg (rv v n) = 0
  · rw [if_pos (e0.mpr h0), if_pos h0, Option.bind_some]
  · rw [if_neg h0] at hk
    unfold okS at hk
    simp only [Bool.and_eq_true] at hk
    rw [if_neg (fun q => h0 (e0.mp q)), if_neg h0, f1, Option.bind_some, f2, Option.bind_some, f3, Option.bind_some, nI_add, nI_add, chk, if_pos hk.1, Option.bind_some]
