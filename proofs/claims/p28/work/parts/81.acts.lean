/-! ===== what the calls make of the state, as functions of the state alone ===== -/
def refV (v : Nat → Int32) : Nat → Int32 := uq v 55 (v 55 + 1)
def putR (v : Nat → Int32) (n k : Nat) (s : Int32) : (Nat → Int32) × Int32 := if uq (rv v n) k s (deg (uq (rv v n) k s)) = 0 then (refV v, -9) else (uq v (9 * n + k) s, nI (deg (uq (rv v n) k s)))
def copyR (v : Nat → Int32) (n m : Nat) : (Nat → Int32) × Int32 := (cpV v n m, nI (deg (rv v n)))
def divV (v : Nat → Int32) (n : Nat) (r : Int32) : Nat → Int32 := uq (bq v (9 * n) 9 (lrow (bst r (quo (rv v n) r)).2)) 54 (v 54 + 1)
def divR (v : Nat → Int32) (n : Nat) (r : Int32) : (Nat → Int32) × Int32 := if cntd (rv v n) r = 0 then (refV v, -9) else (divV v n r, nI (deg (rv (divV v n r) n)))
def rootR (v : Nat → Int32) (x : Int32) : (Nat → Int32) × Int32 := if cnt v < 8 then (uq (uq v (46 + cnt v) x) 45 (nI (cnt v + 1)), nI (cnt v + 1)) else (refV v, -9)
def unrR (v : Nat → Int32) : (Nat → Int32) × Int32 := if cnt v = 0 then (refV v, 99) else (uq v 45 (nI (cnt v - 1)), v (46 + (cnt v - 1)))
def lowV (v : Nat → Int32) (m : Nat) : Nat → Int32 := bq v (9 * m) 9 (fun k => sg (whW v (cnt v) k))
def lowR (v : Nat → Int32) (m : Nat) : (Nat → Int32) × Int32 := (lowV v m, nI (deg (rv (lowV v m) m)))
def backR (w : Nat → Int32) : (Nat → Int32) × Int32 := (w, nI (dgs w 5))
/-- a call that saves, then makes r of the state -/
def Act (B : BS) (v : Nat → Int32) (r : (Nat → Int32) × Int32) (o : Option (Mem × Int32)) : Prop := ∃ M2, o = some (M2, r.2) ∧ Sx M2 r.1 (savB B v)
theorem ref_ok {M : Mem} {v : Nat → Int32} {B : BS} (h : Sx M v B) : Sx (setA M 1 (uq (mI M 1) 4 (v 55 + 1))) (refV v) B :=
  h.now (Fr.set ⟨by omega, by omega⟩) (rep_sc h.rep h.okc.1 (Or.inr ⟨rfl, rfl⟩) _) (okv_sc h.2.1 (Or.inr rfl) _)
theorem o_put {M : Mem} {v : Nat → Int32} {B : BS} (h0 : Sx M v B) {n k : Nat} (hn : n < 5) (hk : k < 9) {s : Int32} (hs : sgn s) : Act B v (putR v n k s) (fX2_put M (some 0) (nI n) (nI k) s) := by
  obtain ⟨Mc, es, h⟩ := h0.save
  have hc := h.hc
  obtain ⟨hr, er⟩ := h.row hn
  have hz := h.nz hn
  have hal := alone (g := rv v n) hk s hz
  have hrvn : rv (uq v (9 * n + k) s) n = uq (rv v n) k s := by rw [rv_uq _ hk, if_pos rfl]
  unfold putR
  by_cases hnz : Nz (uq (rv v n) k s)
  · rw [if_neg (fun q => deg0.mp q hnz)]
    have hv2 := okv_row h.2.1 hn hk hs hnz
    have hC2 : Sx (setA Mc (1 + 2 + n) (uq (mI Mc (1 + 2 + n)) k s)) (uq v (9 * n + k) s) (savB B v) := h.now (Fr.set ⟨by omega, by omega⟩) (rep_row h.rep hn hk s) hv2
    obtain ⟨hr2, er2⟩ := hC2.row hn
    refine ⟨_, ?_, hC2⟩
    have ed := s_degreeOf hr2
    rw [er2, hrvn] at ed
    have hw := wI_w (M := Mc) (k := k) (v := s) hr hk
    rw [fX2_put, num_v M hn, Option.bind_some, pow_v M hk, Option.bind_some, sgn_v M hs, Option.bind_some, kk M h0.hc, Option.bind_some, es, Option.bind_some, now_row hc hn, s_isAlone hr hk, er, hw]
    by_cases hs0 : s = 0
    · rw [if_pos hs0, Option.bind_some]
      have hq : (if rv v n k = 0 then (0 : Int32) else if nzF (rv v n) 9 = 1 then 1 else 0) = 0 := by
        by_cases hg : rv v n k = 0
        · rw [if_pos hg]
        · rw [if_neg hg, if_neg (fun q => (hal.mpr ⟨hs0, hg, q⟩) hnz)]
      rw [if_pos hq, Option.bind_some, ed, Option.bind_some]
    · rw [if_neg hs0, Option.bind_some, ed, Option.bind_some]
  · rw [if_pos (deg0.mpr hnz)]
    obtain ⟨hs0, hg, h1⟩ := hal.mp hnz
    refine ⟨_, ?_, ref_ok h⟩
    rw [fX2_put, num_v M hn, Option.bind_some, pow_v M hk, Option.bind_some, sgn_v M hs, Option.bind_some, kk M h0.hc, Option.bind_some, es, Option.bind_some, now_row hc hn, if_pos hs0, s_isAlone hr hk, er, if_neg hg, if_pos h1, Option.bind_some, if_neg (by decide), k0 Mc hc, Option.bind_some, bg Mc 1 4 blk_1 hc, Option.bind_some, bp Mc 1 4 _ blk_1 hc, Option.bind_some, h.rep.2.2.2.2]
theorem o_copy {M : Mem} {v : Nat → Int32} {B : BS} (h0 : Sx M v B) {n m : Nat} (hn : n < 5) (hm : m < 5) : Act B v (copyR v n m) (fX2_copy M (some 0) (nI n) (nI m)) := by
  obtain ⟨Mc, es, h⟩ := h0.save
  have hc := h.hc
  obtain ⟨hr, er⟩ := h.row hn
  obtain ⟨hr2, er2⟩ := h.row hm
  have hok : OkV (cpV v n m) := okv_blk h.2.1 hm (fun i _ => h.sg.row hn i) (h.nz hn)
  have hC2 : Sx (setA Mc (1 + 2 + m) (bq (mI Mc (1 + 2 + m)) 0 9 (mI Mc (1 + 2 + n)))) (cpV v n m) (savB B v) := by
    refine h.now (Fr.set ⟨by omega, by omega⟩) (rep_blk h.rep hm _ (Fr.set rfl) (fun k hk => ?_)) hok
    rw [mI_eq, bq, if_pos (by omega), ← er]
    exact mI_rC hk
  obtain ⟨hr3, er3⟩ := hC2.row hm
  have hrvm : rv (cpV v n m) m = rv v n := by rw [rv_cp, if_pos rfl]
  rw [hrvm] at er3
  have ed := s_degreeOf hr3
  rw [er3] at ed
  refine ⟨_, ?_, hC2⟩
  rw [fX2_copy, num_v M hn, Option.bind_some, num_v M hm, Option.bind_some, kk M h0.hc, Option.bind_some, es, Option.bind_some, now_row hc hn, now_row hc hm, cp_9 hr hr2, Option.bind_some, now_row hC2.hc hm, ed, Option.bind_some]
  rfl
theorem o_div {M : Mem} {v : Nat → Int32} {B : BS} (h0 : Sx M v B) {n : Nat} (hn : n < 5) {r : Int32} (hr0 : sgn r) : Act B v (divR v n r) (fX2_divide M (some 0) (nI n) r) := by
  obtain ⟨Mc, es, h⟩ := h0.save
  have hc := h.hc
  have hsg := h.sg.row hn
  have hnz := h.nz hn
  obtain ⟨Mt, et, hT, wt⟩ := g_try h hn hr0
  have hct := hT.hc
  have hK := cnt_0 hsg hnz hr0
  unfold divR
  by_cases hq : cntd (rv v n) r = 0
  · rw [if_pos hq]
    refine ⟨_, ?_, ref_ok hT⟩
    rw [fX2_divide, num_v M hn, Option.bind_some, sgn_v M hr0, Option.bind_some, kk M h0.hc, Option.bind_some, es, Option.bind_some, now_row hc hn, hc.hv.g, Option.bind_some, hc.hv.t, Option.bind_some, et, Option.bind_some, if_pos (hK.mpr hq), k0 Mt hct, Option.bind_some, bg Mt 1 4 blk_1 hct, Option.bind_some, bp Mt 1 4 _ blk_1 hct, Option.bind_some, hT.rep.2.2.2.2]
  · rw [if_neg hq]
    obtain ⟨b1, b2'⟩ := best_ok hsg hnz hr0 hq
    unfold divV
    generalize hF : lrow (bst r (quo (rv v n) r)).2 = F at b1 b2' wt
    have hok1 : OkV (bq v (9 * n) 9 F) := okv_blk h.2.1 hn b1 b2'
    have v54 : bq v (9 * n) 9 F 54 = v 54 := blk_hi _ hn _ (by decide)
    have hok : OkV (uq (bq v (9 * n) 9 F) 54 (v 54 + 1)) := okv_sc hok1 (Or.inl rfl) _
    have hD := (hct.hv.2 0 (by decide)).1
    have hC1 : Sx (setA Mt (1 + 2 + n) (bq (mI Mt (1 + 2 + n)) 0 9 (mI Mt 84))) (bq v (9 * n) 9 F) (savB B v) := by
      refine hT.now (Fr.set ⟨by omega, by omega⟩) (rep_blk hT.rep hn _ (Fr.set rfl) (fun k hk => ?_)) hok1
      rw [mI_eq, bq, if_pos (by omega)]
      exact wt hq k hk
    generalize hM1 : setA Mt (1 + 2 + n) (bq (mI Mt (1 + 2 + n)) 0 9 (mI Mt 84)) = Md at hC1
    have hcd := hC1.hc
    have hC2 : Sx (setA Md 1 (uq (mI Md 1) 3 (v 54 + 1))) (uq (bq v (9 * n) 9 F) 54 (v 54 + 1)) (savB B v) := hC1.now (Fr.set ⟨by omega, by omega⟩) (rep_sc hC1.rep hC1.okc.1 (Or.inl ⟨rfl, rfl⟩) _) hok
    obtain ⟨hr3, er3⟩ := hC2.row hn
    have ed := s_degreeOf hr3
    rw [er3] at ed
    have hcp := cp_9 (M := Mt) (a := 84) (b := 1 + 2 + n) (show Row Mt 84 from rw82 hD) (hT.row hn).1
    rw [hM1] at hcp
    refine ⟨_, ?_, hC2⟩
    rw [fX2_divide, num_v M hn, Option.bind_some, sgn_v M hr0, Option.bind_some, kk M h0.hc, Option.bind_some, es, Option.bind_some, now_row hc hn, hc.hv.g, Option.bind_some, hc.hv.t, Option.bind_some, et, Option.bind_some, if_neg (fun q => hq (hK.mp q)), hct.hv.g, Option.bind_some, hct.hv.a0, Option.bind_some, show gR 0 2 Mt (some 81) = some (some 84) from dv2 Mt 0 hD, Option.bind_some, hcp, Option.bind_some, k0 Md hcd, Option.bind_some, bg Md 1 3 blk_1 hcd, Option.bind_some, bp Md 1 3 _ blk_1 hcd, Option.bind_some, hC1.rep.2.2.2.1, v54, ed, Option.bind_some]
theorem o_root {M : Mem} {v : Nat → Int32} {B : BS} (h0 : Sx M v B) {x : Int32} (h1 : ¬ x < -9) (h2 : x ≤ 9) : Act B v (rootR v x) (fX2_root M (some 0) x) := by
  have hrt : rtok x := ⟨by
    rw [le_i]
    have : ¬ x.toInt < (-9 : Int32).toInt := fun q => h1 (lt_i.mpr q)
    omega, h2⟩
  obtain ⟨Mc, es, h⟩ := h0.save
  have hc := h.hc
  obtain ⟨o1, o2, ⟨o8, o45⟩, o4⟩ := h.2.1
  have e2c : mI Mc 1 2 = nI (cnt v) := by rw [h.rep.2.1, ← o45]
  unfold rootR
  by_cases h8 : cnt v < 8
  · rw [if_pos h8]
    have hv2 : cnt (uq (uq v (46 + cnt v) x) 45 (nI (cnt v + 1))) = cnt v + 1 := cnt_eq (uq_eq _ _ _) (by omega)
    have hrv : ∀ t, t < 5 → rv (uq (uq v (46 + cnt v) x) 45 (nI (cnt v + 1))) t = rv v t := fun t ht => by
      rw [rv_sc _ (by decide) _ ht, rv_sc _ (by omega) _ ht]
    have hok : OkV (uq (uq v (46 + cnt v) x) 45 (nI (cnt v + 1))) := by
      refine ⟨fun i hi => by rw [uq_ne _ _ (by omega), uq_ne _ _ (by omega)]; exact o1 i hi, fun t ht => by rw [hrv t ht]; exact o2 t ht, ?_, fun i hi => ?_⟩
      · unfold OkC
        rw [hv2, uq_eq]
        exact ⟨by omega, rfl⟩
      · rw [hv2] at hi
        rw [uq_ne _ _ (by omega)]
        by_cases hi2 : i = cnt v
        · rw [hi2, uq_eq]; exact hrt
        · rw [uq_ne _ _ (by omega)]; exact o4 i (by omega)
    have hC2 : Sx (setA (setA Mc (1 + 7) (uq (mI Mc (1 + 7)) (cnt v) x)) 1 (uq (mI Mc 1) 2 (nI (cnt v + 1)))) (uq (uq v (46 + cnt v) x) 45 (nI (cnt v + 1))) (savB B v) := by
      obtain ⟨r1, r2, r3, r4, r5⟩ := h.rep
      refine h.now ((Fr.set ⟨by omega, by omega⟩).trans (Fr.set ⟨by omega, by omega⟩)) ⟨fun t ht => ?_, by rw [mI_eq, uq_eq, uq_eq], fun i hi => ?_, ?_, ?_⟩ hok
      · rw [hrv t ht, ← r1 t ht]
        unfold rC
        rw [mI_ne _ _ (by omega), mI_ne _ _ (by omega)]
      · rw [hv2] at hi
        rw [mI_ne _ _ (by omega), mI_eq, uq_ne _ _ (by omega : 46 + i ≠ 45)]
        by_cases hi2 : i = cnt v
        · rw [hi2, uq_eq, uq_eq]
        · rw [uq_ne _ _ hi2, uq_ne _ _ (by omega)]; exact r3 i (by omega)
      · rw [mI_eq, uq_ne _ _ (by decide), uq_ne _ _ (by decide), uq_ne _ _ (by omega)]; exact r4
      · rw [mI_eq, uq_ne _ _ (by decide), uq_ne _ _ (by decide), uq_ne _ _ (by omega)]; exact r5
    have k1 : HC0 (setA Mc (1 + 7) (uq (mI Mc (1 + 7)) (cnt v) x)) := hc
    have k2 := hC2.hc
    refine ⟨_, ?_, hC2⟩
    rw [fX2_root, if_neg h1, if_pos h2, kk M h0.hc, Option.bind_some, es, Option.bind_some, k0 Mc hc, Option.bind_some, bg Mc 1 2 blk_1 hc, Option.bind_some, e2c, if_pos (show nI (cnt v) < 8 from nI_lt h8 (by decide)), Option.bind_some, bk1 Mc 1 blk_1 hc, Option.bind_some, Option.bind_some, bg Mc 1 2 blk_1 hc, Option.bind_some, e2c, bw7 Mc 1 _ x h8 blk_1 hc, Option.bind_some, k0 _ k1, Option.bind_some, bg _ 1 2 blk_1 k1, Option.bind_some, mI_ne _ _ (by decide), e2c, nI_1, bp _ 1 2 _ blk_1 k1, Option.bind_some, mI_ne _ _ (by decide), k0 _ k2, Option.bind_some, bg _ 1 2 blk_1 k2, Option.bind_some, mI_eq, uq_eq]
  · rw [if_neg h8]
    refine ⟨_, ?_, ref_ok h⟩
    rw [fX2_root, if_neg h1, if_pos h2, kk M h0.hc, Option.bind_some, es, Option.bind_some, k0 Mc hc, Option.bind_some, bg Mc 1 2 blk_1 hc, Option.bind_some, e2c, if_neg (show ¬ nI (cnt v) < 8 from nI_nlt (a := cnt v) (b := 8) (by omega) (by omega)), Option.bind_some, bg Mc 1 4 blk_1 hc, Option.bind_some, bp Mc 1 4 _ blk_1 hc, Option.bind_some, h.rep.2.2.2.2]
theorem o_unr {M : Mem} {v : Nat → Int32} {B : BS} (h0 : Sx M v B) : Act B v (unrR v) (fX2_unroot M (some 0)) := by
  obtain ⟨Mc, es, h⟩ := h0.save
  have hc := h.hc
  obtain ⟨o1, o2, ⟨o8, o45⟩, o4⟩ := h.2.1
  have e2c : mI Mc 1 2 = nI (cnt v) := by rw [h.rep.2.1, ← o45]
  unfold unrR
  by_cases hq0 : cnt v = 0
  · rw [if_pos hq0]
    refine ⟨_, ?_, ref_ok h⟩
    rw [fX2_unroot, kk M h0.hc, Option.bind_some, es, Option.bind_some, k0 Mc hc, Option.bind_some, bg Mc 1 2 blk_1 hc, Option.bind_some, e2c, hq0, if_neg (by decide), Option.bind_some, bg Mc 1 4 blk_1 hc, Option.bind_some, bp Mc 1 4 _ blk_1 hc, Option.bind_some, h.rep.2.2.2.2]
  · rw [if_neg hq0]
    obtain ⟨q, hq⟩ : ∃ q, cnt v = q + 1 := ⟨cnt v - 1, by omega⟩
    rw [hq, Nat.add_sub_cancel]
    rw [hq] at e2c o8 o45
    have hv2 : cnt (uq v 45 (nI q)) = q := cnt_eq (uq_eq _ _ _) (by omega)
    have hok : OkV (uq v 45 (nI q)) := by
      refine ⟨fun i hi => by rw [uq_ne _ _ (by omega)]; exact o1 i hi, fun t ht => by rw [rv_sc _ (by decide) _ ht]; exact o2 t ht, ?_, fun i hi => ?_⟩
      · unfold OkC
        rw [hv2, uq_eq]
        exact ⟨by omega, rfl⟩
      · rw [hv2] at hi
        rw [uq_ne _ _ (by omega)]; exact o4 i (by omega)
    have hC2 : Sx (setA Mc 1 (uq (mI Mc 1) 2 (nI q))) (uq v 45 (nI q)) (savB B v) := by
      obtain ⟨r1, r2, r3, r4, r5⟩ := h.rep
      refine h.now (Fr.set ⟨by omega, by omega⟩) ⟨fun t ht => ?_, by rw [mI_eq, uq_eq, uq_eq], fun i hi => ?_, ?_, ?_⟩ hok
      · rw [rv_sc _ (by decide) _ ht, ← r1 t ht]
        unfold rC
        rw [mI_ne _ _ (by omega)]
      · rw [hv2] at hi
        rw [mI_ne _ _ (by decide), uq_ne _ _ (by omega)]; exact r3 i (by omega)
      · rw [mI_eq, uq_ne _ _ (by decide), uq_ne _ _ (by decide)]; exact r4
      · rw [mI_eq, uq_ne _ _ (by decide), uq_ne _ _ (by decide)]; exact r5
    have hc2 := hC2.hc
    refine ⟨_, ?_, hC2⟩
    rw [fX2_unroot, kk M h0.hc, Option.bind_some, es, Option.bind_some, k0 Mc hc, Option.bind_some, bg Mc 1 2 blk_1 hc, Option.bind_some, e2c, if_pos (show 0 < nI (q + 1) from nI_lt (a := 0) (by omega) (by omega)), Option.bind_some, bg Mc 1 2 blk_1 hc, Option.bind_some, e2c, nI_pred, bp Mc 1 2 _ blk_1 hc, Option.bind_some, k0 _ hc2, Option.bind_some, bk1 _ 1 blk_1 hc2, Option.bind_some, Option.bind_some, bg _ 1 2 blk_1 hc2, Option.bind_some, mI_eq, uq_eq, ba7 _ 1 q (by omega) blk_1 hc2, Option.bind_some, mI_ne _ _ (by decide), h.rep.2.2.1 q (by omega)]
theorem o_low {M : Mem} {v : Nat → Int32} {B : BS} (h0 : Sx M v B) {m : Nat} (hm : m < 5) : Act B v (lowR v m) (fX2_lower M (some 0) (nI m)) := by
  obtain ⟨Mc, es, h⟩ := h0.save
  obtain ⟨o1, o2, ⟨o8, o45⟩, o4⟩ := h.2.1
  have ew := s_expand Mc h.hc h.rep ⟨o8, o45⟩ o4
  have hW := h.whole (cutW (mJ Mc 13) (whW v (cnt v)))
  generalize hMw : setJ Mc 13 (cutW (mJ Mc 13) (whW v (cnt v))) = Mw at ew hW
  have hw := hW.hc
  obtain ⟨hr, er⟩ := hW.row hm
  have hwh : ∀ k, k < 9 → mJ Mw 13 k = whW v (cnt v) k := fun k hk => by rw [← hMw, mJ_eq, cut_lt _ _ hk]
  unfold lowR lowV
  generalize hF : (fun k => sg (whW v (cnt v) k)) = F
  have hFk : ∀ k, F k = sg (whW v (cnt v) k) := fun k => by rw [← hF]
  have hok : OkV (bq v (9 * m) 9 F) := okv_blk h.2.1 hm (fun i _ => by rw [hFk]; exact sg_sgn _) ⟨cnt v, by omega, by rw [hFk, whW_top]; decide⟩
  have e := loopF (fX2_lower_24 (some 0) (nI m) (some (1 + 2 + m))) 9 (fun i => setA Mw (1 + 2 + m) (bq (mI Mw (1 + 2 + m)) 0 i F)) (fun i hi k n => by
    have e2 := bq_s (mI Mw (1 + 2 + m)) 0 i F
    rw [Nat.zero_add] at e2
    have hC3 : HC0 (setA Mw (1 + 2 + m) (bq (mI Mw (1 + 2 + m)) 0 i F)) := hw
    have hw2 := wI_w (M := setA Mw (1 + 2 + m) (bq (mI Mw (1 + 2 + m)) 0 i F)) (k := i) (v := F i) hr hi
    rw [mI_eq, setA_setA, e2] at hw2
    rw [fX2_lower_24, if_neg (ge9_f i hi), k7 _ hC3, Option.bind_some, aw _ hi hC3, Option.bind_some, mJ_setA, hwh i hi, show fX2_signOf (setA Mw (1 + 2 + m) (bq (mI Mw (1 + 2 + m)) 0 i F)) (whW v (cnt v) i) = some (F i) from congrArg some (hFk i).symm, Option.bind_some, hw2, Option.bind_some, nI_1]) (fun k n => by rw [fX2_lower_24, if_pos ge9_t]) 9 0 FU rfl (fu_9 (by decide))
  rw [bq_0, setA_id, nI_0] at e
  have hC2 : Sx (setA Mw (1 + 2 + m) (bq (mI Mw (1 + 2 + m)) 0 9 F)) (bq v (9 * m) 9 F) (savB B v) := by
    refine hW.now (Fr.set ⟨by omega, by omega⟩) (rep_blk hW.rep hm _ (Fr.set rfl) (fun k hk => ?_)) hok
    rw [mI_eq, bq, if_pos (by omega)]; rfl
  obtain ⟨hr3, er3⟩ := hC2.row hm
  have ed := s_degreeOf hr3
  rw [er3] at ed
  refine ⟨_, ?_, hC2⟩
  rw [fX2_lower, num_v M hm, Option.bind_some, kk M h0.hc, Option.bind_some, es, Option.bind_some, kk Mc h.hc, Option.bind_some, ew, Option.bind_some, now_row hw hm, e, ed, Option.bind_some]
theorem o_back {M : Mem} {v : Nat → Int32} {B : BS} (h0 : Sx M v B) (hk : B.2.2.1 0 ≠ 0) : Act B v (backR (B.2.2.2.1 0)) (fX2_goBack M (some 0) 0) := by
  obtain ⟨Mc, es, h⟩ := h0.save
  have hc := h.hc
  have hk11 : aZ M (some 11) 0 = some (B.2.2.1 0) := by
    obtain ⟨⟨sp, i4⟩, _⟩ := h0
    exact (aZ_at (k := 0) (n := 2) (i4.1.lt (by decide)) rfl rfl (by decide) (by decide)).trans (congrArg some (i4.2.2.2.2.2.1 0 (by decide)).1)
  have hokS : OkV (B.2.2.2.1 0) := (h0.2.2.2.2.1 0 (by decide)).2 hk
  have hslot : Rep Mc (65 + 8 * 0) (B.2.2.2.1 0) := by
    obtain ⟨⟨sp, i4⟩, _⟩ := h
    exact (i4.2.2.2.2.2.1 0 (by decide)).2 hk
  obtain ⟨M1, e1, r1, f1⟩ := s_takeOver hc blk_1 (blk_t (s := 0) (by decide)) (by omega) hslot hokS.2.2.1.1
  have hC2 : Sx M1 (B.2.2.2.1 0) (savB B v) := h.now (f1.mono (fun x hx => ⟨hx.1, by omega⟩)) r1 hokS
  refine ⟨M1, ?_, hC2⟩
  rw [fX2_goBack, slo_v, Option.bind_some, k4 M h0.hc, Option.bind_some, hk11, Option.bind_some, if_neg hk, kk M h0.hc, Option.bind_some, es, Option.bind_some, k0 Mc hc, Option.bind_some, k3 Mc hc, Option.bind_some, show aR 8 Mc (some 10) 0 = some (some (65 + 8 * 0)) from ksl Mc 0 (by decide) hc, Option.bind_some, bk Mc 1 blk_1 hc, Option.bind_some, e1, Option.bind_some, kk M1 hC2.hc, Option.bind_some, s_degs hC2.hc hC2.rep, Option.bind_some]
  rfl
theorem o_undo {M : Mem} {v : Nat → Int32} {B : BS} (h : Sx M v B) {q : Nat} (hq : B.1 = q + 1) : ∃ M2, fX2_undo M (some 0) = some (M2, nI q) ∧ Sx M2 (B.2.1 q) (q, B.2) := by
  have hc := h.hc
  obtain ⟨⟨sp, a1, a2, a3, a4, a5, a6, a7, a8⟩, i5, i6⟩ := h
  rw [hq] at a4
  have hc6 : q + 1 ≤ 6 := hq ▸ i6.1
  have hsq := (a2.1 q (by omega)).2
  have f0 : Fr (fun b => b = 0) M (setA M 0 (uq (mI M 0) 2 (nI q))) := Fr.set rfl
  generalize hM0 : setA M 0 (uq (mI M 0) 2 (nI q)) = M0' at f0
  have e00 : mI M0' 0 = uq (mI M 0) 2 (nI q) := by rw [← hM0, mI_eq]
  have hc0 : HC0 M0' := hc.fr f0
  have hokQ : OkV (B.2.1 q) := i6.2.1 q (by omega)
  have rq : Rep M0' (17 + 8 * sp q) (B.2.1 q) := (a5 q (by omega)).fr f0 (fun x h1 h2 q => by omega)
  obtain ⟨M1, e1, r1, f1⟩ := s_takeOver hc0 blk_1 (blk_s hsq) (by omega) rq hokQ.2.2.1.1
  have f01 : Fr (fun b => b = 0 ∨ (1 ≤ b ∧ b < 9)) M M1 := (f0.mono (fun x hx => Or.inl hx)).trans (f1.mono (fun x hx => Or.inr ⟨hx.1, by omega⟩))
  have hc1 : HC0 M1 := hc0.fr f1
  have e10 : mI M1 0 = uq (mI M 0) 2 (nI q) := by rw [f1.2.2.2.2 0 (by omega), e00]
  have hC2 : CR M1 sp (B.2.1 q) (q, B.2) := by
    refine ⟨hc1, (a2.fr f0).fr f1, r1, by rw [e10, uq_eq], fun j hj => (a5 j (by have hj' : j < q := hj; omega)).fr f01 (fun x h1 h2 q => by omega), fun t ht => ⟨by rw [f01.2.2.2.2 11 (by omega)]; exact (a6 t ht).1, fun hk => ((a6 t ht).2 hk).fr f01 (fun x h1 h2 q => by omega)⟩, by rw [e10, uq_ne _ _ (by decide)]; exact a7, fun i hi => by rw [f01.2.2.2.2 12 (by omega)]; exact a8 i hi⟩
  refine ⟨M1, ?_, ⟨sp, hC2⟩, hokQ, ⟨show q ≤ 6 by omega, fun j hj => i6.2.1 j (by have hj' : j < q := hj; omega), i6.2.2.1, i6.2.2.2⟩⟩
  rw [fX2_undo, kg M 2 hc, Option.bind_some, a4, if_pos (show 0 < nI (q + 1) from nI_lt (a := 0) (by omega) (by omega)), Option.bind_some, nI_pred, kp M 2 _ hc, Option.bind_some, hM0, k0 M0' hc0, Option.bind_some, k1 M0' hc0, Option.bind_some, kg M0' 2 hc0, Option.bind_some, e00, uq_eq, ksv hc0 (a2.fr f0) (by omega), Option.bind_some, bk M0' 1 blk_1 hc0, Option.bind_some, e1, Option.bind_some, kg M1 2 hc1, Option.bind_some, e10, uq_eq]
/-- a snapshot into the first slot -/
theorem o_keep {M : Mem} {v : Nat → Int32} {B : BS} (h : Sx M v B) : ∃ M2, fX2_keep M (some 0) 0 = some (M2, nI (dgs v 5)) ∧ Sx M2 v (B.1, B.2.1, uq B.2.2.1 0 1, (fun t => if t = 0 then v else B.2.2.2.1 t), B.2.2.2.2) := by
  have hc := h.hc
  obtain ⟨⟨sp, a1, a2, a3, a4, a5, a6, a7, a8⟩, i5, i6⟩ := h
  obtain ⟨M1, e1, r1, f1⟩ := s_takeOver hc (blk_t (s := 0) (by decide)) blk_1 (by omega) a3 i5.2.2.1.1
  have hc1 : HC0 M1 := hc.fr f1
  have e11 : mI M1 11 = mI M 11 := f1.2.2.2.2 11 (by omega)
  have f2 : Fr (fun x => x = 11) M1 (setA M1 11 (uq (mI M1 11) 0 1)) := Fr.set rfl
  have ez : wZ M1 (some 11) 0 1 = some (setA M1 11 (uq (mI M1 11) 0 1)) := (wZ_at (k := 0) (n := 2) (hc1.lt (by decide)) rfl rfl (by decide) (by decide)).trans (congrArg some (sI_setA _ _ _ _))
  generalize hM2 : setA M1 11 (uq (mI M1 11) 0 1) = M2 at f2 ez
  have hc2 : HC0 M2 := hc1.fr f2
  have f12 : Fr (fun x => x = 11 ∨ (65 ≤ x ∧ x < 73)) M M2 := (f1.mono (fun x hx => Or.inr ⟨by omega, by omega⟩)).trans (f2.mono (fun x hx => Or.inl hx))
  have e211 : mI M2 11 = uq (mI M 11) 0 1 := by rw [← hM2, mI_eq, e11]
  have hr2 : Rep M2 1 v := a3.fr f12 (fun x h1 h2 q => by omega)
  have hC2 : CR M2 sp v (B.1, B.2.1, uq B.2.2.1 0 1, (fun t => if t = 0 then v else B.2.2.2.1 t), B.2.2.2.2) := by
    refine ⟨hc2, (a2.fr f1).fr f2, hr2, by rw [f12.2.2.2.2 0 (by omega)]; exact a4, fun j hj => (a5 j hj).fr f12 (fun x h1 h2 q => ?_), fun t ht => ⟨?_, fun hk => ?_⟩, by rw [f12.2.2.2.2 0 (by omega)]; exact a7, fun i hi => by rw [f12.2.2.2.2 12 (by omega)]; exact a8 i hi⟩
    · have := (a2.1 j (by have := i6.1; have hj' : j < B.1 := hj; omega)).2
      omega
    · rw [e211]
      show uq (mI M 11) 0 1 t = uq B.2.2.1 0 1 t
      by_cases ht0 : t = 0
      · rw [ht0, uq_eq, uq_eq]
      · rw [uq_ne _ _ ht0, uq_ne _ _ ht0]; exact (a6 t ht).1
    · show Rep M2 (65 + 8 * t) (if t = 0 then v else B.2.2.2.1 t)
      by_cases ht0 : t = 0
      · rw [if_pos ht0, ht0]
        exact r1.fr f2 (fun x h1 h2 q => by omega)
      · rw [if_neg ht0]
        have hk' : uq B.2.2.1 0 1 t ≠ 0 := hk
        rw [uq_ne _ _ ht0] at hk'
        exact ((a6 t ht).2 hk').fr f12 (fun x h1 h2 q => by omega)
  refine ⟨M2, ?_, ⟨sp, hC2⟩, i5, ⟨i6.1, i6.2.1, fun t ht => ⟨?_, fun hk => ?_⟩, i6.2.2.2⟩⟩
  · rw [fX2_keep, slo_v, Option.bind_some, k3 M hc, Option.bind_some, show aR 8 M (some 10) 0 = some (some (65 + 8 * 0)) from ksl M 0 (by decide) hc, Option.bind_some, k0 M hc, Option.bind_some, bk M _ (blk_t (s := 0) (by decide)) hc, Option.bind_some, e1, Option.bind_some, k4 M1 hc1, Option.bind_some, ez, Option.bind_some, kk M2 hc2, Option.bind_some, s_degs hc2 hr2, Option.bind_some]
  · show uq B.2.2.1 0 1 t = 0 ∨ uq B.2.2.1 0 1 t = 1
    by_cases ht0 : t = 0
    · rw [ht0, uq_eq]; exact Or.inr rfl
    · rw [uq_ne _ _ ht0]; exact (i6.2.2.1 t ht).1
  · show OkV (if t = 0 then v else B.2.2.2.1 t)
    by_cases ht0 : t = 0
    · rw [if_pos ht0]; exact i5
    · rw [if_neg ht0]
      have hk' : uq B.2.2.1 0 1 t ≠ 0 := hk
      rw [uq_ne _ _ ht0] at hk'
      exact (i6.2.2.1 t ht).2 hk'
