/-! ===== the model's digest ===== -/
theorem Inv.mq {M M2 : Mem} (hI : Inv M) (hq : Mqy M M2) : Inv M2 := by
  obtain ⟨sp, c, l, i1, i3, i7, i4, i5, i6⟩ := hI
  exact Inv.same (M := M) i4 i1 hq.1 (by rw [hq.2.1, i3]) (by rw [hq.2.2.1, i7]) (hq.2.2.2 118 (by decide) (by decide)) (hq.2.2.2 119 (by decide) (by decide)) (hq.2.2.2 120 (by decide) (by decide)) (hq.2.2.2 121 (by decide) (by decide)) (hq.2.2.2 122 (by decide) (by decide)) i5 i6
def Dg (M Q : Mem) (h : Int64) : Prop := Mqy M Q ∧ mJ Q 117 12 = h
theorem Dg.hm {M Q : Mem} {h : Int64} (hd : Dg M Q h) (hI : Inv M) : HM Q := hI.hm.frM hd.1.1
theorem Dg.v {M Q : Mem} {h : Int64} (hd : Dg M Q h) : mI Q 118 = mI M 118 := hd.1.2.2.2 118 (by decide) (by decide)
theorem d_hash {M Q : Mem} {h : Int64} (hI : Inv M) (hd : Dg M Q h) (x : Int64) : ∃ Q2, Dg M Q2 (mx h x) ∧ fX3_hashes Q (some 117) x = some Q2 ∧ mI Q2 = mI Q ∧ mJ Q2 125 = mJ Q 125 := by
  refine ⟨setJ Q 117 (uq (mJ Q 117) 12 (mx (mJ Q 117 12) x)), ⟨mq_trans hd.1 (mq_setJ Q _ (by decide)), ?_⟩, ?_, rfl, mJ_ne _ _ (by decide)⟩
  · rw [mJ_eq, uq_eq, hd.2]
  · rw [fX3_hashes, mogJ Q 12 (hd.hm hI), Option.bind_some, mopJ Q 12 _ (hd.hm hI), Option.bind_some]
    rfl
theorem d_often {M Q : Mem} {h : Int64} (hI : Inv M) (hd : Dg M Q h) {n : Nat} (hn : n < 5) {r : Int32} (hr : sgn r) : ∃ Q2, Dg M Q2 h ∧ fX3_often Q (some 117) (nI n) r = some (Q2, nI (cntd (rv (mI M 118) n) r)) := by
  have e := q_often Q (hd.hm hI) (by rw [hd.v]; exact hI.sg) (by rw [hd.v]; exact hI.nz) hn hr
  rw [hd.v] at e
  exact ⟨oftM Q n, ⟨mq_trans hd.1 (mq_oft Q n), hd.2⟩, e⟩
theorem d_tells {M Q : Mem} {h : Int64} (hI : Inv M) (hd : Dg M Q h) {n : Nat} (hn : n < 5) {w : Nat} (hw : w < 4) : ∃ Q2, Dg M Q2 h ∧ fX3_tells Q (some 117) (nI n) (nI w) = some (Q2, tel (rv (mI M 118) n) w) := by
  have e := q_tells Q (hd.hm hI) (by rw [hd.v]; exact hI.sg) (by rw [hd.v]; exact hI.nz) hn hw
  rw [hd.v] at e
  refine ⟨telM Q n w, ?_, e⟩
  unfold telM
  split
  · exact hd
  · exact ⟨mq_trans hd.1 (mq_oft Q n), hd.2⟩
theorem d_div {M Q : Mem} {h : Int64} (hI : Inv M) (hd : Dg M Q h) {n : Nat} (hn : n < 5) {r : Int32} (hr : sgn r) : ∃ Q2, Dg M Q2 h ∧ fX3_divides Q (some 117) (nI n) r = some (Q2, nI (quo (rv (mI M 118) n) r).length) ∧ (cntd (rv (mI M 118) n) r ≠ 0 → form (mI Q2 124) = bfm (rv (mI M 118) n) r) := by
  obtain ⟨f2, g2, x2, e, w⟩ := q_divides Q (hd.hm hI) hn hr
  rw [hd.v] at e w
  refine ⟨scr Q f2 g2 x2, ⟨mq_trans hd.1 (mq_scr Q f2 g2 x2), hd.2⟩, e, fun h0 => ?_⟩
  rw [scr_122]
  unfold bfm
  rw [if_neg h0]
  refine form_cg (w ?_)
  rw [(quo_facts (hI.sg.row hn) (hI.nz n hn) hr).1]
  exact h0
theorem d_root {M Q : Mem} {h : Int64} (hI : Inv M) (hd : Dg M Q h) {n : Nat} (hn : n < 5) {r : Int32} (hr : sgn r) : ∃ Q2, Dg M Q2 (hx h (rootL (rv (mI M 118) n) r)) ∧ ∀ k m, fX3_hashesPoly_51 (some 117) (nI n) k (m + 1) Q r = fX3_hashesPoly_51 (some 117) (nI n) k m Q2 (r + 1) := by
  have e0 := q_has Q (hd.hm hI) (by rw [hd.v]; exact hI.sg) hn hr
  rw [hd.v] at e0
  obtain ⟨Q1, d1, e1, -, -⟩ := d_hash hI hd (b2 (hasR (rv (mI M 118) n) r)).toInt64
  obtain ⟨Q2, d2, e2⟩ := d_often hI d1 hn hr
  obtain ⟨Q3, d3, e3, -, -⟩ := d_hash hI d2 (nI (cntd (rv (mI M 118) n) r)).toInt64
  obtain ⟨Q4, d4, e4⟩ := d_often hI d3 hn hr
  obtain ⟨Q5, d5, e5, -, -⟩ := d_hash hI d4 (nI (cntd (rv (mI M 118) n) r)).toInt64
  obtain ⟨Q6, d6, e6, w6⟩ := d_div hI d5 hn hr
  obtain ⟨Q7, d7, e7, m7, -⟩ := d_hash hI d6 (nI (quo (rv (mI M 118) n) r).length).toInt64
  obtain ⟨Q8, d8, e8, -, -⟩ := d_hash hI d7 (bfm (rv (mI M 118) n) r).toInt64
  have hl := len_0 (hI.sg.row hn) (hI.nz n hn) hr
  have hr2 : ¬ (2 : Int32) ≤ r := by rcases hr with rfl | rfl | rfl <;> decide
  refine ⟨Q8, d8, fun k m => ?_⟩
  rw [fX3_hashesPoly_51, if_neg hr2, mok Q (hd.hm hI), Option.bind_some, e0, Option.bind_some, Option.bind_some, b64, e1, Option.bind_some, mok Q1 (d1.hm hI), Option.bind_some, e2, Option.bind_some, mok Q2 (d2.hm hI), Option.bind_some, e3, Option.bind_some, mok Q3 (d3.hm hI), Option.bind_some, e4, Option.bind_some, mok Q4 (d4.hm hI), Option.bind_some, e5, Option.bind_some, mok Q5 (d5.hm hI), Option.bind_some, e6, Option.bind_some, mok Q6 (d6.hm hI), Option.bind_some, e7, Option.bind_some]
  by_cases h0 : cntd (rv (mI M 118) n) r = 0
  · have eb : bfm (rv (mI M 118) n) r = -9 := if_pos h0
    rw [eb, show (-9 : Int32).toInt64 = -9 by decide] at e8
    rw [if_pos (hl.mpr h0), mok Q7 (d7.hm hI), Option.bind_some, e8, Option.bind_some]
  · rw [if_neg (fun q => h0 (hl.mp q)), mo9 Q7 (d7.hm hI), Option.bind_some, q_form Q7 (d7.hm hI) lm2, Option.bind_some, mok Q7 (d7.hm hI), Option.bind_some, m7, w6 h0, e8, Option.bind_some]
/-- a loop that folds, under any relation of memory and hash -/
theorem loopDg {α : Type} (D : Mem → Int64 → Prop) (F : (Mem → Int32 → Option α) → Nat → Mem → Int32 → Option α) (N : Nat) (L f : Nat → List Int64) (h0 : L 0 = []) (hL : ∀ i, L (i + 1) = L i ++ f i)
    (hs : ∀ i, i < N → ∀ Q h, D Q h → ∃ Q2, D Q2 (hx h (f i)) ∧ ∀ k n, F k (n + 1) Q (nI i) = F k n Q2 (nI (i + 1)))
    (he : ∀ Q h, D Q h → ∀ k n, F k (n + 1) Q (nI N) = k Q (nI N)) : ∀ n, N < n → ∀ Q h, D Q h → ∃ Q2, D Q2 (hx h (L N)) ∧ ∀ k, F k n Q 0 = k Q2 (nI N) := by
  have go : ∀ j i n, i + j = N → j < n → ∀ Q h, D Q (hx h (L i)) → ∃ Q2, D Q2 (hx h (L N)) ∧ ∀ k, F k n Q (nI i) = k Q2 (nI N) := by
    intro j
    induction j with
    | zero =>
      intro i n hi hn Q h hd
      obtain ⟨n, rfl⟩ := suc_of hn
      have : i = N := by omega
      subst this
      exact ⟨Q, hd, fun k => he Q _ hd k n⟩
    | succ j ih =>
      intro i n hi hn Q h hd
      obtain ⟨n, rfl⟩ := suc_of hn
      obtain ⟨Q2, d2, e2⟩ := hs i (by omega) Q _ hd
      rw [← hx_app, ← hL] at d2
      obtain ⟨Q3, d3, e3⟩ := ih (i + 1) n (by omega) (by omega) Q2 h d2
      exact ⟨Q3, d3, fun k => by rw [e2, e3]⟩
  intro n hn Q h hd
  exact go N 0 n (by omega) hn Q h (by rw [h0]; exact hd)
theorem telL_s (g : Nat → Int32) (i : Nat) : telL g (i + 1) = telL g i ++ [(tel g i).toInt64] := by
  unfold telL
  rw [List.range_succ, List.map_append]; rfl
theorem ge4_f : ∀ k : Nat, k < 4 → ¬ (4 : Int32) ≤ nI k := by decide
theorem d_poly {M Q : Mem} {h : Int64} (hI : Inv M) (hd : Dg M Q h) {n : Nat} (hn : n < 5) : ∃ Q2, Dg M Q2 (hx h (rowL (rv (mI M 118) n))) ∧ fX3_hashesPoly Q (some 117) (nI n) = some Q2 := by
  obtain ⟨Q1, d1, e1⟩ := loopDg (Dg M) (fX3_hashesPoly_2 (some 117) (nI n)) 4 (telL (rv (mI M 118) n)) (fun w => [(tel (rv (mI M 118) n) w).toInt64]) rfl (telL_s _) (fun i hi Q h hd => by
    obtain ⟨Q2, d2, e2⟩ := d_tells hI hd hn hi
    obtain ⟨Q3, d3, e3, -, -⟩ := d_hash hI d2 (tel (rv (mI M 118) n) i).toInt64
    refine ⟨Q3, d3, fun k m => ?_⟩
    rw [fX3_hashesPoly_2, if_neg (ge4_f i hi), mok Q (hd.hm hI), Option.bind_some, e2, Option.bind_some, mok Q2 (d2.hm hI), Option.bind_some, e3, Option.bind_some, nI_1]) (fun Q h hd k m => by rw [fX3_hashesPoly_2, if_pos (by decide)]) FU (fu_9 (by decide)) Q h hd
  obtain ⟨Q2, d2, e2⟩ := loopDg (Dg M) (fX3_hashesPoly_26 (some 117) (nI n)) 9 (sgL (rv (mI M 118) n)) (fun i => [(rv (mI M 118) n i).toInt64]) rfl (sgL_s _) (fun i hi Q h hd => by
    obtain ⟨Q3, d3, e3, -, -⟩ := d_hash hI hd (rv (mI M 118) n i).toInt64
    refine ⟨Q3, d3, fun k m => ?_⟩
    rw [fX3_hashesPoly_26, if_neg (ge9_f i hi), mok Q (hd.hm hI), Option.bind_some, q_signAt Q (hd.hm hI) hn (by omega), hd.v, Option.bind_some, Option.bind_some, e3, Option.bind_some, nI_1]) (fun Q h hd k m => by rw [fX3_hashesPoly_26, if_pos ge9_t]) FU (fu_9 (by decide)) Q1 _ d1
  obtain ⟨Q3, d3, e3⟩ := d_root hI d2 hn (sgn_neg sgn_1)
  obtain ⟨Q4, d4, e4⟩ := d_root hI d3 hn sgn_0
  obtain ⟨Q5, d5, e5⟩ := d_root hI d4 hn sgn_1
  have es := q_share Q5 (d5.hm hI) (by rw [d5.v]; exact hI.sg) (by rw [d5.v]; exact hI.nz) hn
  rw [d5.v] at es
  have d6 : Dg M (oftM Q5 n) _ := ⟨mq_trans d5.1 (mq_oft Q5 n), d5.2⟩
  generalize oftM Q5 n = Q6 at es d6
  obtain ⟨Q7, d7, e7, -, -⟩ := d_hash hI d6 (shV (rv (mI M 118) n)).toInt64
  have hk := okSh_sh (hI.sg.row hn) (hI.nz n hn)
  unfold okSh at hk
  simp only [Bool.and_eq_true, decide_eq_true_eq] at hk
  have eb : ∀ N, fJxe99ae_doubleToLongBits_ccdee N (shV (rv (mI M 118) n)) = some (shV (rv (mI M 118) n)).toInt64 := fun N => by
    rw [fJxe99ae_doubleToLongBits_ccdee, fJxe99ae_isNaN_b9ae7, if_pos hk.1.2, Option.bind_some, if_pos rfl]
  have hF3 : 3 < FU := fu_9 (by decide)
  obtain ⟨m, hm⟩ : ∃ m, FU = m + 1 + 1 + 1 + 1 := ⟨FU - 4, by omega⟩
  have et : ∀ k, fX3_hashesPoly_51 (some 117) (nI n) k FU Q2 (-1) = k Q5 (1 + 1) := fun k => by
    rw [hm, e3, show (-1 : Int32) + 1 = 0 by decide, e4, show (0 : Int32) + 1 = 1 by decide, e5, fX3_hashesPoly_51, if_pos (by decide)]
  refine ⟨Q7, ?_, ?_⟩
  · unfold rowL
    rw [hx_app, hx_app, hx_app, hx_app, hx_app, hx_one]
    exact d7
  · rw [fX3_hashesPoly, e1, e2, et, mok Q5 (d5.hm hI), Option.bind_some, es, Option.bind_some, eb, Option.bind_some, mok Q6 (d6.hm hI), Option.bind_some, e7, Option.bind_some]
