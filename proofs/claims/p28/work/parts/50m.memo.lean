def dg (x : Int32) : Nat := if x = 1 then 2 else if x = 0 then 1 else 0
theorem dg_le (x : Int32) : dg x ≤ 2 := by
  unfold dg
  split
  · exact Nat.le_refl _
  split
  · exact Nat.le_succ _
  · exact Nat.zero_le _
theorem dg_inj {x y : Int32} (hx : sgn x) (hy : sgn y) (h : dg x = dg y) : x = y := by
  rcases hx with rfl | rfl | rfl <;> rcases hy with rfl | rfl | rfl <;> first | rfl | exact absurd h (by decide)
theorem dg_I {x : Int32} (h : sgn x) (m : Nat) : 3 * nI m + x + 1 = nI (3 * m + dg x) := by
  have e : (3 : Int32) * nI m = nI (3 * m) := pk_mul 3 m
  rw [e]
  rcases h with rfl | rfl | rfl
  · rw [Int32.add_assoc, show (-1 : Int32) + 1 = 0 by decide, Int32.add_zero]; rfl
  · rw [Int32.add_zero, nI_1]; rfl
  · rw [nI_1, nI_1]; rfl
def fD (g : Nat → Int32) : Nat → Nat → Nat
  | 0, m => m
  | k + 1, m => fD g k (3 * m + dg (g k))
theorem form_fD {g : Nat → Int32} (hs : SgR g) : ∀ k m, formD g k (nI m) = nI (fD g k m) := by
  intro k
  induction k with
  | zero => intro m; rfl
  | succ k ih =>
    intro m
    rw [formD, fD, dg_I (hs k), ih]
theorem form_N {g : Nat → Int32} (hs : SgR g) : form g = nI (fD g 9 0) := by
  have e := form_fD hs 9 0
  rw [nI_0] at e
  exact e
theorem fD_9 (g : Nat → Int32) : fD g 9 0 = 3 * (3 * (3 * (3 * (3 * (3 * (3 * (3 * (3 * 0 + dg (g 8)) + dg (g 7)) + dg (g 6)) + dg (g 5)) + dg (g 4)) + dg (g 3)) + dg (g 2)) + dg (g 1)) + dg (g 0) := rfl
def plc (g : Nat → Int32) (r : Int32) : Nat := (fD g 9 0 - 6561) * 3 + dg r
/-- the row of a quotient -/
def Rw (g : Nat → Int32) : Prop := SgR g ∧ ∀ k, 8 ≤ k → g k = 0
theorem fD_rng {g : Nat → Int32} (h : Rw g) : 6561 ≤ fD g 9 0 ∧ fD g 9 0 < 13122 := by
  have h8 : dg (g 8) = 1 := by rw [h.2 8 (Nat.le_refl _)]; rfl
  have e := fD_9 g
  rw [h8] at e
  have a0 := dg_le (g 0)
  have a1 := dg_le (g 1)
  have a2 := dg_le (g 2)
  have a3 := dg_le (g 3)
  have a4 := dg_le (g 4)
  have a5 := dg_le (g 5)
  have a6 := dg_le (g 6)
  have a7 := dg_le (g 7)
  omega
theorem plc_lt {g : Nat → Int32} (h : Rw g) (r : Int32) : plc g r < 19683 := by
  have h1 := fD_rng h
  have h2 := dg_le r
  unfold plc
  omega
theorem peel {x y a b : Nat} (ha : a ≤ 2) (hb : b ≤ 2) (h : 3 * x + a = 3 * y + b) : x = y ∧ a = b := by omega
theorem plc_inj {g g2 : Nat → Int32} {r r2 : Int32} (h : Rw g) (h2 : Rw g2) (hr : sgn r) (hr2 : sgn r2) (e : plc g r = plc g2 r2) : g = g2 ∧ r = r2 := by
  have r1 := fD_rng h
  have r3 := fD_rng h2
  unfold plc at e
  obtain ⟨e, er⟩ := peel (x := fD g 9 0 - 6561) (y := fD g2 9 0 - 6561) (dg_le r) (dg_le r2) (by omega)
  have e : fD g 9 0 = fD g2 9 0 := by omega
  rw [fD_9, fD_9] at e
  obtain ⟨e, d0⟩ := peel (dg_le _) (dg_le _) e
  obtain ⟨e, d1⟩ := peel (dg_le _) (dg_le _) e
  obtain ⟨e, d2⟩ := peel (dg_le _) (dg_le _) e
  obtain ⟨e, d3⟩ := peel (dg_le _) (dg_le _) e
  obtain ⟨e, d4⟩ := peel (dg_le _) (dg_le _) e
  obtain ⟨e, d5⟩ := peel (dg_le _) (dg_le _) e
  obtain ⟨e, d6⟩ := peel (dg_le _) (dg_le _) e
  obtain ⟨e, d7⟩ := peel (dg_le _) (dg_le _) e
  refine ⟨?_, dg_inj hr hr2 er⟩
  funext k
  by_cases hk : 8 ≤ k
  · rw [h.2 k hk, h2.2 k hk]
  · have h9 : k = 0 ∨ k = 1 ∨ k = 2 ∨ k = 3 ∨ k = 4 ∨ k = 5 ∨ k = 6 ∨ k = 7 := by omega
    rcases h9 with rfl | rfl | rfl | rfl | rfl | rfl | rfl | rfl
    · exact dg_inj (h.1 _) (h2.1 _) d0
    · exact dg_inj (h.1 _) (h2.1 _) d1
    · exact dg_inj (h.1 _) (h2.1 _) d2
    · exact dg_inj (h.1 _) (h2.1 _) d3
    · exact dg_inj (h.1 _) (h2.1 _) d4
    · exact dg_inj (h.1 _) (h2.1 _) d5
    · exact dg_inj (h.1 _) (h2.1 _) d6
    · exact dg_inj (h.1 _) (h2.1 _) d7
def nbN (v : Int64) (s : Nat) : Nat := (v.toBitVec.toNat >>> (4 * s)) &&& 15
theorem nbN_or (v w : Int64) (s : Nat) : nbN (v ||| w) s = nbN v s ||| nbN w s := by
  unfold nbN
  rw [Int64.toBitVec_or, BitVec.toNat_or, Nat.shiftRight_or_distrib, Nat.and_or_distrib_right]
theorem nbN_0 (s : Nat) : nbN 0 s = 0 := by
  unfold nbN
  rw [show (0 : Int64).toBitVec.toNat = 0 from rfl, Nat.zero_shiftRight, Nat.zero_and]
theorem nbN_lt (v : Int64) (s : Nat) : nbN v s < 16 := Nat.lt_of_le_of_lt Nat.and_le_right (by decide)
theorem sh_u : ∀ s : Nat, s < 16 → ((nI s * 4).toInt64.toUInt64 &&& Int64.toUInt64 63) = UInt64.ofNat (4 * s) := by decide +kernel
def wrd (t s : Nat) : Int64 := ((nI t).toInt64 + 1) <<< ((nI s * 4).toInt64 &&& 63)
theorem nbN_w : ∀ t : Nat, t < 9 → ∀ s : Nat, s < 16 → ∀ z : Nat, z < 16 → nbN (wrd t s) z = if z = s then t + 1 else 0 := by decide +kernel
theorem held (v : Int64) {s : Nat} (hs : s < 16) : (((v.toUInt64 >>> ((nI s * 4).toInt64.toUInt64 &&& Int64.toUInt64 63)).toInt64) &&& 15).toInt32 = nI (nbN v s) := by
  rw [sh_u s hs]
  apply Int32.toBitVec_inj.mp
  apply BitVec.eq_of_toNat_eq
  have h1 := nbN_lt v s
  rw [pk_tn (by omega)]
  have h2 : (UInt64.ofNat (4 * s)).toNat = 4 * s := by
    rw [UInt64.toNat_ofNat']
    exact Nat.mod_eq_of_lt (by omega)
  have h3 : (v.toUInt64 >>> UInt64.ofNat (4 * s)).toNat = v.toBitVec.toNat >>> (4 * s) := by
    rw [UInt64.toNat_shiftRight, h2, Nat.mod_eq_of_lt (by omega)]
    rfl
  have h4 : (((v.toUInt64 >>> UInt64.ofNat (4 * s)).toInt64) &&& 15).toBitVec.toNat = nbN v s := by
    rw [Int64.toBitVec_and, BitVec.toNat_and]
    show (v.toUInt64 >>> UInt64.ofNat (4 * s)).toNat &&& 15 = _
    rw [h3]
    rfl
  rw [Int64.toBitVec_toInt32, BitVec.signExtend_eq_setWidth_of_le _ (by decide), BitVec.toNat_setWidth, h4]
  exact Nat.mod_eq_of_lt (by omega)
/-- what is held is right, where it is known -/
def TI (P : Nat → Int64) : Prop := ∀ g r, Rw g → sgn r → nbN (P (plc g r / 16)) (plc g r % 16) = 0 ∨ nbN (P (plc g r / 16)) (plc g r % 16) = cntd g r + 1
theorem TI_0 {P : Nat → Int64} (h : ∀ k, k < 1231 → P k = 0) : TI P := fun g r hg hr => Or.inl (by
  have := plc_lt hg r
  rw [h _ (by omega)]
  exact nbN_0 _)
def rmb (P : Nat → Int64) (g : Nat → Int32) (r : Int32) : Nat → Int64 := uq P (plc g r / 16) (P (plc g r / 16) ||| wrd (cntd g r) (plc g r % 16))
theorem TI_rmb {P : Nat → Int64} (h : TI P) {g : Nat → Int32} {r : Int32} (hg : Rw g) (hr : sgn r) (hc : cntd g r < 9) : TI (rmb P g r) := by
  intro g2 r2 hg2 hr2
  have h2 := h g2 r2 hg2 hr2
  unfold rmb
  by_cases he : plc g2 r2 / 16 = plc g r / 16
  · rw [he, uq_eq, nbN_or, nbN_w _ hc _ (Nat.mod_lt _ (by decide)) _ (Nat.mod_lt _ (by decide))]
    rw [he] at h2
    by_cases hm : plc g2 r2 % 16 = plc g r % 16
    · obtain ⟨rfl, rfl⟩ := plc_inj hg2 hg hr2 hr (by omega)
      rw [if_pos rfl]
      rcases h2 with h2 | h2
      · rw [h2, Nat.zero_or]; exact Or.inr rfl
      · rw [h2, Nat.or_self]; exact Or.inr rfl
    · rw [if_neg hm, Nat.or_zero]
      exact h2
  · rw [uq_ne _ _ he]
    exact h2
def HT (M : Mem) : Prop := M.1 = 117 ∧ mR M 0 9 = some 15 ∧ mR M 15 0 = some 16
theorem HT.g (M : Mem) (h : HT M) : gR 2 9 M (some 0) = some (some 15) := (gR_at (by rw [h.1]; decide) rfl).trans (congrArg some h.2.1)
theorem HT.k (M : Mem) (h : HT M) : ck 11 M (some 15) = some () := ck_at (by rw [h.1]; decide) rfl
theorem HT.p (M : Mem) (h : HT M) : gR 11 0 M (some 15) = some (some 16) := (gR_at (by rw [h.1]; decide) rfl).trans (congrArg some h.2.2)
theorem HT.a (M : Mem) (h : HT M) {k : Nat} (hk : k < 1231) : aJ M (some 16) (nI k) = some (mJ M 16 k) := aJ_at (n := 1231) (by rw [h.1]; decide) rfl rfl hk (by decide)
theorem HT.w (M : Mem) (h : HT M) {k : Nat} (hk : k < 1231) (v : Int64) : wJ M (some 16) (nI k) v = some (setJ M 16 (uq (mJ M 16) k v)) := (wJ_at (n := 1231) (by rw [h.1]; decide) rfl rfl hk (by decide)).trans (congrArg some (sJ_setJ _ _ _ _))
theorem s_placeOf (M : Mem) {g : Nat → Int32} (hg : Rw g) {r : Int32} (hr : sgn r) : fXT_placeOf M (form g) r = some (nI (plc g r)) := by
  unfold fXT_placeOf
  have h1 := fD_rng hg
  have e1 : nI (fD g 9 0) - 6561 = nI (fD g 9 0 - 6561) := pk_sub (b := 6561) h1.1
  have e2 : nI (fD g 9 0 - 6561) * 3 = nI ((fD g 9 0 - 6561) * 3) := pk_mul _ 3
  rw [form_N hg.1, e1, e2]
  unfold plc
  rcases hr with rfl | rfl | rfl
  · rw [Int32.add_assoc, show (-1 : Int32) + 1 = 0 by decide, Int32.add_zero, show dg (-1) = 0 by decide, Nat.add_zero]
  · rw [Int32.add_zero, nI_1, show dg 0 = 1 by decide]
  · rw [nI_1, nI_1, show dg 1 = 2 by decide, Nat.add_assoc]
theorem s_timesOf {M : Mem} (h : HT M) {g : Nat → Int32} (hg : Rw g) {r : Int32} (hr : sgn r) : fXT_timesOf M (some 15) (form g) r = some (nI (nbN (mJ M 16 (plc g r / 16)) (plc g r % 16)) - 1) := by
  have hp := plc_lt hg r
  have hd : nI (plc g r) / 16 = nI (plc g r / 16) := pk_div (d := 16) (by omega) (by decide) (by decide)
  have hm : nI (plc g r) - nI (plc g r) / 16 * 16 = nI (plc g r % 16) := pk_rem (d := 16) (by omega) (by decide) (by decide)
  unfold fXT_timesOf
  rw [s_placeOf M hg hr, Option.bind_some, if_neg (nI_pos (by omega)), if_pos (show nI (plc g r) < 19683 from nI_lt hp (by decide)), h.p M, Option.bind_some, hm, hd, h.a M (by omega), Option.bind_some, held _ (Nat.mod_lt _ (by decide))]
theorem s_rmb {M : Mem} (h : HT M) {g : Nat → Int32} (hg : Rw g) {r : Int32} (hr : sgn r) : fXT_remember M (some 15) (form g) r (nI (cntd g r)) = some (setJ M 16 (rmb (mJ M 16) g r)) := by
  have hp := plc_lt hg r
  have hd : nI (plc g r) / 16 = nI (plc g r / 16) := pk_div (d := 16) (by omega) (by decide) (by decide)
  have hm : nI (plc g r) - nI (plc g r) / 16 * 16 = nI (plc g r % 16) := pk_rem (d := 16) (by omega) (by decide) (by decide)
  unfold fXT_remember
  rw [s_placeOf M hg hr, Option.bind_some, if_neg (nI_pos (by omega)), if_neg (show ¬ (19683 : Int32) ≤ nI (plc g r) from ge_f (N := 19683) hp (by decide)), h.p M, Option.bind_some, hm, hd, h.a M (by omega), Option.bind_some, h.w M (by omega), Option.bind_some]
  rfl
/-- which case: not known, or right -/
theorem s_known {M : Mem} (h : HT M) (ht : TI (mJ M 16)) {g : Nat → Int32} (hg : Rw g) {r : Int32} (hr : sgn r) : fXT_timesOf M (some 15) (form g) r = some (-1) ∨ fXT_timesOf M (some 15) (form g) r = some (nI (cntd g r)) := by
  rw [s_timesOf h hg hr]
  rcases ht g r hg hr with e | e
  · rw [e]; exact Or.inl (congrArg some (by decide))
  · rw [e, nI_pred]; exact Or.inr rfl
