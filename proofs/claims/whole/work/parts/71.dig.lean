/-! ===== the digest: both fold the same list ===== -/
def mx (h v : Int64) : Int64 := 31 * h + v
def hx (h : Int64) (xs : List Int64) : Int64 := xs.foldl mx h
theorem hx_nil (h : Int64) : hx h [] = h := rfl
theorem hx_cons (h v : Int64) (xs : List Int64) : hx h (v :: xs) = hx (mx h v) xs := rfl
theorem hx_app (h : Int64) (xs ys : List Int64) : hx h (xs ++ ys) = hx (hx h xs) ys := List.foldl_append
theorem hx_one (h v : Int64) : hx h [v] = mx h v := rfl
def bfm (g : Nat → Int32) (r : Int32) : Int32 := if cntd g r = 0 then -9 else form (lrow (bst r (quo g r)).2)
def rootL (g : Nat → Int32) (r : Int32) : List Int64 := [(b2 (hasR g r)).toInt64, (nI (cntd g r)).toInt64, (nI (cntd g r)).toInt64, (nI (quo g r).length).toInt64, (bfm g r).toInt64]
def sgL (g : Nat → Int32) (i : Nat) : List Int64 := (List.range i).map fun k => (g k).toInt64
def telL (g : Nat → Int32) (i : Nat) : List Int64 := (List.range i).map fun w => (tel g w).toInt64
def rowL (g : Nat → Int32) : List Int64 := telL g 4 ++ (sgL g 9 ++ (rootL g (-1) ++ (rootL g 0 ++ (rootL g 1 ++ [(shV g).toInt64]))))
theorem Inv.fr {M M2 : Mem} (hI : Inv M) {S : Nat → Prop} (hf : Fr S M M2) (hs : ∀ b, S b → 81 ≤ b ∧ b < 117) : Inv M2 ∧ mI M2 118 = mI M 118 := by
  obtain ⟨sp, c, l, i1, i2, i3, i4, i5, i6⟩ := hI
  have hc := hf.frC (fun b hb q => by have := hs b q; omega)
  have e : ∀ b, 117 ≤ b → mI M2 b = mI M b := fun b hb => (hc.2.2 b hb).1
  refine ⟨Inv.same (M := M) (i4.fr i6.1 hf (fun b hb => (hs b hb).1)) (i1.frC hc) (FrM.refl M2) ?_ ?_ (e _ (by decide)) (e _ (by decide)) (e _ (by decide)) (e _ (by decide)) (e _ (by decide)) i5 i6, e 118 (by decide)⟩
  · rw [e 117 (by decide), i2]
  · rw [e 117 (by decide), i3]
theorem s_mixed (M : Mem) (h v : Int64) : fX2_mixed M h v = some (mx h v) := rfl
theorem b64 (b : Bool) : (if b2 b = 0 then (0 : Int64) else 1) = (b2 b).toInt64 := by cases b <;> decide
def Kp (M M2 : Mem) : Prop := Inv M2 ∧ ∀ b, 117 ≤ b → mI M2 b = mI M b
theorem kp_fr {M M2 : Mem} (hI : Inv M) {S : Nat → Prop} (hf : Fr S M M2) (hs : ∀ b, S b → 81 ≤ b ∧ b < 117) : Kp M M2 := ⟨(hI.fr hf hs).1, fun b hb => hf.2.2.2.2 b (fun q => by have := hs b q; omega)⟩
theorem kp_tr {M M2 M3 : Mem} (h : Kp M M2) (h2 : Kp M2 M3) : Kp M M3 := ⟨h2.1, fun b hb => (h2.2 b hb).trans (h.2 b hb)⟩
theorem s_bestForm {Mc : Mem} (hV : HV Mc) {g : Nat → Int32} (hs : SgR g) (hz : Nz g) {r : Int32} (hr : sgn r) (w1 : cntd g r ≠ 0 → ∀ k, k < 9 → mI Mc 84 k = lrow (bst r (quo g r)).2 k) : fX2_bestForm Mc (some 0) (nI (cntd g r)) = some (bfm g r) := by
  have hK := cnt_0 hs hz hr
  unfold fX2_bestForm bfm
  by_cases h0 : cntd g r = 0
  · rw [if_pos (hK.mpr h0), if_pos h0]
  · rw [if_neg (fun q => h0 (hK.mp q)), if_neg h0, hV.g, Option.bind_some, hV.a0, Option.bind_some, show gR 0 2 Mc (some 81) = some (some 84) from dv2 Mc 0 (hV.2 0 (by decide)).1, Option.bind_some, s_formOf (show Row Mc 84 from rw82 (hV.2 0 (by decide)).1), Option.bind_some]
    refine congrArg some (form_cg fun i hi => ?_)
    rw [rC, if_pos hi, w1 h0 i hi]
theorem c_root {M : Mem} (hI : Inv M) {n : Nat} (hn : n < 5) {r : Int32} (hr : sgn r) : ∃ M2, Kp M M2 ∧ ∀ (x1 : Int64) k m h, fX2_mixedPolynomial_79 (some 0) x1 (some (1 + 2 + n)) k (m + 1) M h r = fX2_mixedPolynomial_79 (some 0) x1 (some (1 + 2 + n)) k m M2 (hx h (rootL (rv (mI M 118) n) r)) (r + 1) := by
  have hsg := hI.sg.row hn
  have hnz := hI.nz n hn
  have hc := hI.hc
  obtain ⟨Mc, e1, f1, w1⟩ := s_try0 hI hn hr
  have hs1 : ∀ b, Sd 0 b → 81 ≤ b ∧ b < 117 := fun b hb => ⟨by have := hb.1; omega, hb.2⟩
  have kp1 := kp_fr hI f1 hs1
  have hV := kp1.1.hc.hv
  obtain ⟨hro, er⟩ := kp1.1.row hn
  rw [kp1.2 118 (by decide)] at er
  have eb := s_bestForm hV hsg hnz hr w1
  have eh := s_hasRoot hro hr (by rw [er]; exact hsg)
  rw [er, show (if hasR (rv (mI M 118) n) r = true then (1 : Int32) else 0) = b2 (hasR (rv (mI M 118) n) r) from rfl] at eh
  have ec := s_counted hro hr (by rw [er]; exact hsg)
  rw [er] at ec
  obtain ⟨M2, e2, f2⟩ := s_quoOf hV hro (by omega) hr (by rw [er]; exact hsg)
  rw [er] at e2
  have hs0 : ∀ b, S0 b → 81 ≤ b ∧ b < 117 := fun b hb => by unfold S0 at hb; omega
  refine ⟨M2, kp_tr kp1 (kp_fr kp1.1 f2 hs0), fun x1 k m h => ?_⟩
  have hr1 : ¬ (1 : Int32) < r := by rcases hr with rfl | rfl | rfl <;> decide
  rw [fX2_mixedPolynomial_79, if_neg hr1, hc.hv.g, Option.bind_some, hc.hv.t, Option.bind_some, e1, Option.bind_some]
  simp only [kk Mc kp1.1.hc, eb, eh, ec, e2, s_mixed, Option.bind_some, b64]
  rfl
theorem bits_M (M N : Mem) (x : UInt64) : fX2_bitsOf M x = fX2_bitsOf N x := by
  have key : ∀ (k : UInt64 → Int64 → Int32 → Option Int64) n x2 x4 x6, fX2_bitsOf_18 M x k n x2 x4 x6 = fX2_bitsOf_18 N x k n x2 x4 x6 := by
    intro k n
    induction n with
    | zero => intro x2 x4 x6; rfl
    | succ n ih => intro x2 x4 x6; rw [fX2_bitsOf_18, fX2_bitsOf_18, ih]
  unfold fX2_bitsOf
  rw [key]
theorem sgL_s (g : Nat → Int32) (i : Nat) : sgL g (i + 1) = sgL g i ++ [(g i).toInt64] := by
  unfold sgL
  rw [List.range_succ, List.map_append]; rfl
theorem c_poly {M : Mem} (hI : Inv M) {n : Nat} (hn : n < 5) : ∃ M2, Kp M M2 ∧ ∀ h, fX2_mixedPolynomial M (some 0) h (some (1 + 2 + n)) = some (M2, hx h (rowL (rv (mI M 118) n))) := by
  have hsg := hI.sg.row hn
  have hnz := hI.nz n hn
  obtain ⟨hro, er⟩ := hI.row hn
  obtain ⟨M1, p1, e1⟩ := c_root hI hn (sgn_neg sgn_1)
  obtain ⟨M2, p2, e2⟩ := c_root p1.1 hn sgn_0
  obtain ⟨M3, p3, e3⟩ := c_root p2.1 hn sgn_1
  rw [p1.2 118 (by decide)] at e2
  rw [p2.2 118 (by decide), p1.2 118 (by decide)] at e3
  have kp := kp_tr p1 (kp_tr p2 p3)
  obtain ⟨hro3, er3⟩ := kp.1.row hn
  rw [kp.2 118 (by decide)] at er3
  have f1 := s_degreeOf hro
  have f2 := s_notZero hro
  have f3 := s_changes1 hro (by rw [er]; exact hsg)
  have f4 := s_formOf hro
  rw [er] at f1 f2 f3 f4
  have fs := s_shareOf hro3 (by rw [er3]; exact hsg) (by rw [er3]; exact hnz)
  rw [er3] at fs
  have hk := okSh_sh hsg hnz
  unfold okSh at hk
  simp only [Bool.and_eq_true, decide_eq_true_eq] at hk
  have fb : fX2_bitsOf M3 (shV (rv (mI M 118) n)) = some (shV (rv (mI M 118) n)).toInt64 := (bits_M M3 M0 _).trans hk.2
  refine ⟨M3, kp, fun h => ?_⟩
  have el : ∀ (k : Mem → Int64 → Int32 → Option (Mem × Int64)) (h0 : Int64), fX2_mixedPolynomial_51 (some 0) h (some (1 + 2 + n)) k FU M h0 0 = k M (hx h0 (sgL (rv (mI M 118) n) 9)) (nI 9) := by
    intro k h0
    have go : ∀ j i m, i + j = 9 → j < m → fX2_mixedPolynomial_51 (some 0) h (some (1 + 2 + n)) k m M (hx h0 (sgL (rv (mI M 118) n) i)) (nI i) = k M (hx h0 (sgL (rv (mI M 118) n) 9)) (nI 9) := by
      intro j
      induction j with
      | zero =>
        intro i m hi hm
        obtain ⟨m, rfl⟩ := suc_of hm
        have : i = 9 := by omega
        subst this
        rw [fX2_mixedPolynomial_51, if_pos ge9_t]
      | succ j ih =>
        intro i m hi hm
        obtain ⟨m, rfl⟩ := suc_of hm
        have e := ih (i + 1) m (by omega) (by omega)
        rw [sgL_s, hx_app, hx_one] at e
        rw [fX2_mixedPolynomial_51, if_neg (ge9_f i (by omega)), aI_r hro (by omega), er, Option.bind_some, s_mixed, Option.bind_some, nI_1]
        exact e
    exact go 9 0 FU rfl (fu_9 (by decide))
  have hF3 : 3 < FU := fu_9 (by decide)
  obtain ⟨m, hm⟩ : ∃ m, FU = m + 1 + 1 + 1 + 1 := ⟨FU - 4, by omega⟩
  have et : ∀ (k : Mem → Int64 → Int32 → Option (Mem × Int64)) (h0 : Int64), fX2_mixedPolynomial_79 (some 0) h (some (1 + 2 + n)) k FU M h0 (-1) = k M3 (hx (hx (hx h0 (rootL (rv (mI M 118) n) (-1))) (rootL (rv (mI M 118) n) 0)) (rootL (rv (mI M 118) n) 1)) (1 + 1) := by
    intro k h0
    rw [hm, e1, show (-1 : Int32) + 1 = 0 by decide, e2, show (0 : Int32) + 1 = 1 by decide, e3, fX2_mixedPolynomial_79, if_pos (by decide)]
  rw [fX2_mixedPolynomial, f1, Option.bind_some, s_mixed, Option.bind_some, f2, Option.bind_some, s_mixed, Option.bind_some, f3, Option.bind_some, s_mixed, Option.bind_some, f4, Option.bind_some, s_mixed, Option.bind_some, el, et, fs, Option.bind_some, fb, Option.bind_some, s_mixed, Option.bind_some]
  unfold rowL
  rw [hx_app, hx_app, hx_app, hx_app, hx_app, hx_one]
  rfl
