theorem aL_14 {M : Mem} (h : HV M) : aL M (some 14) = some (nI 9) := by
  unfold aL
  rw [Option.bind_some, if_pos ⟨by rw [h.n]; decide, by decide, by decide⟩]
  rfl
theorem Fr.rmb {S : Nat → Prop} {M : Mem} {g : Nat → Int32} {r : Int32} (hg : Rw g) (hr : sgn r) (hc : cntd g r < 9) : Fr S M (setJ M 16 (rmb (mJ M 16) g r)) := by
  refine ⟨rfl, ⟨fun b hb => mJ_ne _ _ hb, fun h => ?_⟩, rfl, rfl, fun _ _ => rfl⟩
  rw [mJ_eq]
  exact TI_rmb h hg hr hc
theorem nI_m1 {k : Nat} (h : k < 2 ^ 31) : ¬ nI k = -1 := fun q => absurd (nI_pos h) (by rw [q]; decide)
theorem s_tryB {r : Int32} (hr : sgn r) {rec : Mem → Option Nat → Int32 → Option Nat → Option Nat → Int32 → Option (Mem × Int32)} {d D : Nat} (hd9 : d < 9) (hdD : d + D ≤ 8)
    (hrec : ∀ (M : Mem) (a : Nat), HV M → Row M a → a < 81 + 4 * (d + 1) → SgR (rC M a) → Nz (rC M a) → deg (rC M a) < D → ∃ M2, rec M (some a) r (some 14) (some 15) (nI (d + 1)) = some (M2, nI (cntd (rC M a) r)) ∧ Fr (Sd (d + 1)) M M2)
    (M : Mem) (a : Nat) (hV : HV M) (ha : Row M a) (hn : a < 81 + 4 * d) (hs : SgR (rC M a)) (hz : Nz (rC M a)) (hde : deg (rC M a) ≤ D) :
    ∃ M2, fX2_tryQuotients_B rec M (some a) r (some 14) (some 15) (nI d) = some (M2, nI (cntd (rC M a) r)) ∧ Fr (Sd d) M M2 ∧ (cntd (rC M a) r ≠ 0 → ∀ k, k < 9 → mI M2 (84 + 4 * d) k = lrow (bst r (quo (rC M a) r)).2 k) := by
  rw [fX2_tryQuotients_B]
  obtain ⟨hb1, hb2, hq⟩ := quo_facts hs hz hr
  have hK9 : cntd (rC M a) r ≤ 8 := by have := cntd_le hs hz hr; omega
  have hHD := (hV.2 d hd9).1
  obtain ⟨M2, f0, P0, e1, hDS, hDV, hrem, hfr⟩ := s_start hHD ha (by omega) (by omega) (by omega) hr hs
  rw [aL_14 hV, Option.bind_some, if_pos (nI_lt hd9 (by decide)), hV.a M hd9, Option.bind_some, dvk M d hHD, Option.bind_some, e1, Option.bind_some]
  have go : ∀ (n : Nat) (M3 : Mem) (f : Nat → Int32) (P b c : Nat) (row : List Int32), HV M3 → DS M3 d r (deg (rC M a)) (rC M a) f P → DV r (deg (rC M a)) (rC M a) f P → mu (deg (rC M a)) f P < n → c + mu (deg (rC M a)) f P < 1000000 → b ≤ 9 →
      (∀ q ∈ rem r (rC M a) (deg (rC M a)) f P, q ∈ quo (rC M a) r) → (b ≠ 0 → ∀ k, k < 9 → mI M3 (84 + 4 * d) k = lrow row k) →
      ∃ M4, fX2_tryQuotients_28 rec (some a) r (some 14) (some 15) (nI d) (some (81 + 4 * d)) (fun M19 x20 x21 => some (M19, x20)) n M3 (nI b) (nI c) = some (M4, nI ((rem r (rC M a) (deg (rC M a)) f P).foldl (stp r) (b, row)).1) ∧ Fr (Sd d) M3 M4 ∧
        (((rem r (rC M a) (deg (rC M a)) f P).foldl (stp r) (b, row)).1 ≠ 0 → ∀ k, k < 9 → mI M4 (84 + 4 * d) k = lrow ((rem r (rC M a) (deg (rC M a)) f P).foldl (stp r) (b, row)).2 k) := by
    intro n
    induction n with
    | zero => intro M3 f P b c row _ _ _ hm; omega
    | succ n ih =>
      intro M3 f P b c row hV3 h1 h2 hm hc hb9 hsub hrow
      obtain ⟨f2, P2, ea, hv2, hm2, hnil, hcons⟩ := s_advance h1 h2
      have hd2 := dsm_DS h1 f2 P2
      have hf2 : Fr (Sd d) M3 (dsm M3 d f2 (nI P2 + (-1))) := Fr.dsm ⟨by omega, by omega⟩ ⟨by omega, by omega⟩
      rw [fX2_tryQuotients_28, if_neg (show ¬ (1000000 : Int32) ≤ nI c from ge_f (N := 1000000) (by omega) (by decide)), dvk M3 d h1.1, Option.bind_some, ea, Option.bind_some]
      by_cases hr0 : rem r (rC M a) (deg (rC M a)) f P = []
      · rw [hr0, if_pos rfl, if_pos rfl]
        refine ⟨_, rfl, hf2, fun hb => ?_⟩
        intro k hk
        rw [dsm_o _ _ _ _ (by omega) (by omega)]
        exact hrow hb k hk
      · rw [if_neg hr0, if_neg (show ¬ (1 : Int32) = 0 by decide)]
        obtain ⟨q, t, hqt⟩ : ∃ q t, rem r (rC M a) (deg (rC M a)) f P = q :: t := by
          cases hcase : rem r (rC M a) (deg (rC M a)) f P with
          | nil => exact absurd hcase hr0
          | cons q t => exact ⟨q, t, rfl⟩
        obtain ⟨j1, j2, j3⟩ := hcons q t hqt
        obtain ⟨q1, q2, q3, q4⟩ := hq q (hsub q (by rw [hqt]; exact List.mem_cons_self))
        have hd8 : deg (rC M a) ≤ 8 := by omega
        obtain ⟨z1, z2, z3⟩ := lrow_deg q3 (by omega)
        -- the state behind the step
        generalize hM5 : dsm M3 d f2 (nI P2 + (-1)) = M5 at hd2 hf2 ⊢
        have hV5 : HV M5 := hV3.fr hf2
        have hR5 : Row M5 (83 + 4 * d) := rw81 hd2.1
        have hrC : rC M5 (83 + 4 * d) = lrow q := by
          funext k
          unfold rC
          by_cases hk9 : k < 9
          · rw [if_pos hk9, hd2.2.2.2.2.2]
            by_cases hk : k < deg (rC M a)
            · rw [← j1, lrow_seg, if_pos hk]
            · rw [hv2.2.2.2.2.1 k (by omega) hk9, lrow_out (by omega)]
          · rw [if_neg hk9, lrow_out (by omega)]
        have hRw : Rw (lrow q) := ⟨lrow_sgn q2, fun k hk => lrow_out (by omega)⟩
        have hrow5 : b ≠ 0 → ∀ k, k < 9 → mI M5 (84 + 4 * d) k = lrow row k := fun hb k hk => by
          rw [← hM5, dsm_o _ _ _ _ (by omega) (by omega)]; exact hrow hb k hk
        have hsub2 : ∀ x ∈ rem r (rC M a) (deg (rC M a)) f2 P2, x ∈ quo (rC M a) r := fun x hx => hsub x (by rw [hqt]; rw [j2] at hx; exact List.mem_cons_of_mem _ hx)
        have hfm := s_formOf hR5
        rw [hrC] at hfm
        have e84 : ¬ Sd (d + 1) (84 + 4 * d) := fun q => by have := q.1; omega
        have e83 : ¬ Sd (d + 1) (83 + 4 * d) := fun q => by have := q.1; omega
        -- once it is known how often
        have fin : ∀ M6 : Mem, HV M6 → DS M6 d r (deg (rC M a)) (rC M a) f2 P2 → Fr (Sd d) M5 M6 → mI M6 (83 + 4 * d) = mI M5 (83 + 4 * d) → mI M6 (84 + 4 * d) = mI M5 (84 + 4 * d) →
            ∃ M4, (if nI (cl r q) + 1 ≤ nI b then fX2_tryQuotients_28 rec (some a) r (some 14) (some 15) (nI d) (some (81 + 4 * d)) (fun M19 x20 x21 => some (M19, x20)) n M6 (nI b) (nI c + 1) else (ck 0 M6 (some (81 + 4 * d))).bind fun _ => (fX0_rememberBest M6 (some (81 + 4 * d))).bind fun w => fX2_tryQuotients_28 rec (some a) r (some 14) (some 15) (nI d) (some (81 + 4 * d)) (fun M19 x20 x21 => some (M19, x20)) n w (nI (cl r q) + 1) (nI c + 1)) = some (M4, nI ((rem r (rC M a) (deg (rC M a)) f P).foldl (stp r) (b, row)).1) ∧ Fr (Sd d) M3 M4 ∧
              (((rem r (rC M a) (deg (rC M a)) f P).foldl (stp r) (b, row)).1 ≠ 0 → ∀ k, k < 9 → mI M4 (84 + 4 * d) k = lrow ((rem r (rC M a) (deg (rC M a)) f P).foldl (stp r) (b, row)).2 k) := by
          intro M6 hV6 hd6 f6 g83 g84
          rw [hqt, List.foldl_cons, nI_1, nI_1]
          have hf6 : Fr (Sd d) M3 M6 := hf2.trans f6
          by_cases hle : cl r q + 1 ≤ b
          · rw [if_pos (nI_le hle (by omega)), show stp r (b, row) q = (b, row) from if_pos hle]
            obtain ⟨M4, e4, f4, w4⟩ := ih M6 f2 P2 b (c + 1) row hV6 hd6 hv2 (by omega) (by omega) hb9 hsub2 (fun hb k hk => by rw [g84]; exact hrow5 hb k hk)
            rw [j2] at e4 w4
            exact ⟨M4, e4, hf6.trans f4, w4⟩
          · rw [if_neg (ge_f (by omega) (by omega)), show stp r (b, row) q = (cl r q + 1, q) from if_neg hle, dvk M6 d hd6.1, Option.bind_some, s_remember hd6.1, Option.bind_some]
            generalize hM7 : setA M6 (84 + 4 * d) (bq (mI M6 (84 + 4 * d)) 0 9 (mI M6 (83 + 4 * d))) = M7
            have f7 : Fr (fun b => b = 84 + 4 * d) M6 M7 := hM7 ▸ Fr.set rfl
            have hd7 : DS M7 d r (deg (rC M a)) (rC M a) f2 P2 := hd6.fr f7 (by omega) (by omega) (by omega)
            obtain ⟨M4, e4, f4, w4⟩ := ih M7 f2 P2 (cl r q + 1) (c + 1) q (hV6.fr f7) hd7 hv2 (by omega) (by omega) (by omega) hsub2 (fun _ k hk => by
              rw [← hM7, mI_eq, bq, if_pos (by omega), g83, ← hrC, rC, if_pos hk]; rfl)
            rw [j2] at e4 w4
            exact ⟨M4, e4, hf6.trans ((f7.mono (fun b hb => ⟨by omega, by omega⟩)).trans f4), w4⟩
        rw [dv1 M5 d hd2.1, Option.bind_some, hfm, Option.bind_some, hV5.1.2.1.k, Option.bind_some]
        rcases s_known hV5.1.2.1 hV5.1.2.2 hRw hr with hk | hk
        · rw [hk, Option.bind_some, if_pos rfl, Option.bind_some, nI_1]
          obtain ⟨M6, e6, f6⟩ := hrec M5 (83 + 4 * d) hV5 hR5 (by omega) (by rw [hrC]; exact lrow_sgn q2) (by rw [hrC]; exact z1) (by rw [hrC]; omega)
          rw [hrC] at e6
          have hV6 : HV M6 := hV5.fr f6
          have hc9 : cntd (lrow q) r < 9 := by rw [z3]; omega
          have f7 : Fr (Sd (d + 1)) M6 (setJ M6 16 (rmb (mJ M6 16) (lrow q) r)) := Fr.rmb hRw hr hc9
          have f67 := f6.trans f7
          rw [e6, Option.bind_some, hV6.1.2.1.k, Option.bind_some, s_rmb hV6.1.2.1 hRw hr, Option.bind_some, z3]
          exact fin _ (hV6.fr f7) (hd2.fr f67 (fun q => by have := q.1; omega) (fun q => by have := q.1; omega) e83) (f67.mono (fun b hb => ⟨by have := hb.1; omega, hb.2⟩)) (f67.2.2.2.2 _ e83) (f67.2.2.2.2 _ e84)
        · rw [z3] at hk
          rw [hk, Option.bind_some, if_neg (nI_m1 (by omega))]
          exact fin M5 hV5 hd2 (Fr.refl _ _) rfl rfl
  have hm := mu_lt f0 hDV.2.1 hDV.2.2.2.1
  have hV2 : HV M2 := hV.fr hfr
  obtain ⟨M4, e4, f4, w4⟩ := go FU M2 f0 P0 0 0 [] hV2 hDS hDV (fu_9 (by omega)) (by omega) (by omega) (by rw [hrem]; exact fun q hq => hq) (fun q => absurd rfl q)
  rw [nI_0, hrem] at e4
  rw [hrem] at w4
  have hbb : ((quo (rC M a) r).foldl (stp r) (0, [])) = bst r (quo (rC M a) r) := rfl
  rw [hbb, hb1] at e4
  rw [hbb, hb1] at w4
  exact ⟨M4, e4, (hfr.mono (fun b hb => ⟨by omega, by omega⟩)).trans f4, w4⟩
theorem s_try {r : Int32} (hr : sgn r) : ∀ (e d : Nat), d + e = 8 → ∀ (M : Mem) (a : Nat), HV M → Row M a → a < 81 + 4 * d → SgR (rC M a) → Nz (rC M a) → deg (rC M a) ≤ e →
    ∃ M2, fX2_tryQuotients_D (e + 4) M (some a) r (some 14) (some 15) (nI d) = some (M2, nI (cntd (rC M a) r)) ∧ Fr (Sd d) M M2 ∧ (cntd (rC M a) r ≠ 0 → ∀ k, k < 9 → mI M2 (84 + 4 * d) k = lrow (bst r (quo (rC M a) r)).2 k) := by
  intro e
  induction e with
  | zero =>
    intro d hd M a hV ha hn hs hz hde
    rw [show (0 + 4) = 3 + 1 from rfl, fX2_tryQuotients_D]
    exact s_tryB hr (D := 0) (by omega) (by omega) (fun M a _ _ _ _ _ h => absurd h (Nat.not_lt_zero _)) M a hV ha hn hs hz hde
  | succ e ihe =>
    intro d hd M a hV ha hn hs hz hde
    rw [show e + 1 + 4 = (e + 4) + 1 by omega, fX2_tryQuotients_D]
    refine s_tryB hr (D := e + 1) (by omega) (by omega) (fun M a h1 h2 h3 h4 h5 h6 => ?_) M a hV ha hn hs hz hde
    obtain ⟨M2, e2, f2, _⟩ := ihe (d + 1) (by omega) M a h1 h2 h3 h4 h5 (by omega)
    exact ⟨M2, e2, f2⟩
