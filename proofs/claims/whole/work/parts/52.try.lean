/-! ===== the class's tries: the most that can be divided out, and the first quotient that lets it ===== -/
theorem aL_14 {M : Mem} (h : HV M) : aL M (some 14) = some (nI 9) := by
  unfold aL
  rw [Option.bind_some, if_pos ⟨by rw [h.n]; decide, by decide, by decide⟩]
  rfl
theorem bst_snd {r : Int32} {Q : List (List Int32)} {s : Nat × List Int32} : True := trivial
theorem s_try {r : Int32} (hr : sgn r) : ∀ (e d : Nat), d + e = 8 → ∀ (M : Mem) (a : Nat), HV M → Row M a → a < 79 + 4 * d → SgR (rC M a) → Nz (rC M a) → deg (rC M a) ≤ e →
    ∃ M2, fX2_tryQuotients_D (e + 4) M (some a) r (some 14) (nI d) = some (M2, nI (cntd (rC M a) r)) ∧ Fr (Sd d) M M2 ∧ (cntd (rC M a) r ≠ 0 → ∀ k, k < 9 → mI M2 (82 + 4 * d) k = lrow (bst r (quo (rC M a) r)).2 k) := by
  intro e
  induction e with
  | zero =>
    intro d hd M a hV ha hn hs hz hde
    have hK : cntd (rC M a) r = 0 := by have := cntd_le hs hz hr; omega
    refine ⟨M, ?_, Fr.refl _ _, fun q => absurd hK q⟩
    rw [show (0 + 4) = 3 + 1 from rfl, fX2_tryQuotients_D, fX2_tryQuotients_B, s_counted ha hr hs, Option.bind_some, hK, if_pos (by decide)]
    rfl
  | succ e ihe =>
    intro d hd M a hV ha hn hs hz hde
    rw [show e + 1 + 4 = (e + 4) + 1 by omega, fX2_tryQuotients_D, fX2_tryQuotients_B, s_counted ha hr hs, Option.bind_some]
    obtain ⟨hb1, hb2, hq⟩ := quo_facts hs hz hr
    have hK9 : cntd (rC M a) r ≤ 8 := by have := cntd_le hs hz hr; omega
    by_cases hK : cntd (rC M a) r = 0
    · rw [hK, if_pos (by decide)]
      exact ⟨M, rfl, Fr.refl _ _, fun q => absurd rfl q⟩
    · have hKI : ¬ nI (cntd (rC M a) r) = 0 := fun q => hK ((nI_eq (b := 0) (by omega) (by decide)).mp q)
      have hHD := (hV.2 d (by omega)).1
      obtain ⟨M2, f0, P0, e1, hDS, hDV, hrem, hfr⟩ := s_start hHD ha (by omega) (by omega) (by omega) hr hs
      rw [if_neg hKI, aL_14 hV, Option.bind_some, if_pos (nI_lt (show d < 9 by omega) (by decide)), hV.a M (i := d) (by omega), Option.bind_some, dvk M d hHD, Option.bind_some, e1, Option.bind_some]
      have go : ∀ (n : Nat) (M3 : Mem) (f : Nat → Int32) (P b c : Nat) (row : List Int32), HV M3 → DS M3 d r (deg (rC M a)) (rC M a) f P → DV r (deg (rC M a)) (rC M a) f P → mu (deg (rC M a)) f P < n → c + mu (deg (rC M a)) f P < 1000000 → b ≤ 9 →
          (∀ q ∈ rem r (rC M a) (deg (rC M a)) f P, q ∈ quo (rC M a) r) → (b ≠ 0 → ∀ k, k < 9 → mI M3 (82 + 4 * d) k = lrow row k) →
          ∃ M4, fX2_tryQuotients_38 (fX2_tryQuotients_D (e + 4)) (some a) r (some 14) (nI d) (nI (cntd (rC M a) r)) (some (79 + 4 * d)) (fun M18 x19 x20 => some (M18, x19)) n M3 (nI b) (nI c) = some (M4, nI ((rem r (rC M a) (deg (rC M a)) f P).foldl (stp r) (b, row)).1) ∧ Fr (Sd d) M3 M4 ∧
            (((rem r (rC M a) (deg (rC M a)) f P).foldl (stp r) (b, row)).1 ≠ 0 → ∀ k, k < 9 → mI M4 (82 + 4 * d) k = lrow ((rem r (rC M a) (deg (rC M a)) f P).foldl (stp r) (b, row)).2 k) := by
        intro n
        induction n with
        | zero => intro M3 f P b c row _ _ _ hm; omega
        | succ n ih =>
          intro M3 f P b c row hV3 h1 h2 hm hc hb9 hsub hrow
          rw [fX2_tryQuotients_38, if_neg (show ¬ (1000000 : Int32) ≤ nI c from ge_f (N := 1000000) (by omega) (by decide))]
          by_cases hKb : cntd (rC M a) r ≤ b
          · rw [if_pos (nI_le hKb (by omega))]
            have hid := fold_le r (rem r (rC M a) (deg (rC M a)) f P) (b, row) (fun q hq2 => by have := (hq q (hsub q hq2)).2.2.2; show cl r q + 1 ≤ b; omega)
            rw [hid]
            exact ⟨M3, rfl, Fr.refl _ _, hrow⟩
          · rw [if_neg (ge_f (by omega) (by omega))]
            obtain ⟨f2, P2, ea, hv2, hm2, hnil, hcons⟩ := s_advance h1 h2
            have hd2 := dsm_DS h1 f2 P2
            have hf2 : Fr (Sd d) M3 (dsm M3 d f2 (nI P2 + (-1))) := Fr.dsm ⟨by omega, by omega⟩ ⟨by omega, by omega⟩
            rw [dvk M3 d h1.1, Option.bind_some, ea, Option.bind_some]
            by_cases hr0 : rem r (rC M a) (deg (rC M a)) f P = []
            · rw [hr0, if_pos rfl, if_pos rfl]
              refine ⟨_, rfl, hf2, fun hb => ?_⟩
              intro k hk
              rw [dsm_o _ _ _ _ (by omega) (by omega)]
              exact hrow hb k hk
            · rw [if_neg hr0, if_neg (show ¬ (1 : Int32) = 0 by decide)]
              obtain ⟨q, t, hqt⟩ : ∃ q t, rem r (rC M a) (deg (rC M a)) f P = q :: t := by
                cases hcase : rem r (rC M a) (deg (rC M a)) f P with
                | nil => exact absurd hcase hr0
                | cons q t => exact ⟨q, t, rfl⟩
              obtain ⟨j1, j2, j3⟩ := hcons q t hqt
              obtain ⟨q1, q2, q3, q4⟩ := hq q (hsub q (by rw [hqt]; exact List.mem_cons_self))
              obtain ⟨z1, z2, z3⟩ := lrow_deg q3 (by rw [q1]; have := deg_lt (rC M a); omega)
              -- the state behind the step
              generalize hM5 : dsm M3 d f2 (nI P2 + (-1)) = M5 at hd2 hf2 ⊢
              have hV5 : HV M5 := hV3.fr hf2
              have hR5 : Row M5 (81 + 4 * d) := rw81 hd2.1
              have hrC : rC M5 (81 + 4 * d) = lrow q := by
                funext k
                unfold rC
                by_cases hk9 : k < 9
                · rw [if_pos hk9, hd2.2.2.2.2.2]
                  by_cases hk : k < deg (rC M a)
                  · rw [← j1, lrow_seg, if_pos hk]
                  · rw [hv2.2.2.2.2.1 k (by omega) hk9, lrow_out (by omega)]
                · rw [if_neg hk9, lrow_out (by have := deg_lt (rC M a); omega)]
              have hrow5 : b ≠ 0 → ∀ k, k < 9 → mI M5 (82 + 4 * d) k = lrow row k := fun hb k hk => by
                rw [← hM5, dsm_o _ _ _ _ (by omega) (by omega)]; exact hrow hb k hk
              have hsub2 : ∀ x ∈ rem r (rC M a) (deg (rC M a)) f2 P2, x ∈ quo (rC M a) r := fun x hx => hsub x (by rw [hqt]; rw [j2] at hx; exact List.mem_cons_of_mem _ hx)
              have hct := s_counted hR5 hr (by rw [hrC]; exact lrow_sgn q2)
              rw [hrC, z3] at hct
              rw [dv1 M5 d hd2.1, Option.bind_some, hct, Option.bind_some, nI_1]
              rw [hqt, List.foldl_cons]
              by_cases hlt : cl r q < b
              · rw [if_pos (nI_lt hlt (by omega)), show stp r (b, row) q = (b, row) from if_pos hlt]
                obtain ⟨M4, e4, f4, w4⟩ := ih M5 f2 P2 b (c + 1) row hV5 hd2 hv2 (by omega) (by omega) hb9 hsub2 hrow5
                rw [j2] at e4 w4
                exact ⟨M4, e4, hf2.trans f4, w4⟩
              · rw [if_neg (nI_nlt (by omega) (by omega))]
                obtain ⟨M6, e6, f6, _⟩ := ihe (d + 1) (by omega) M5 (81 + 4 * d) hV5 hR5 (by omega) (by rw [hrC]; exact lrow_sgn q2) (by rw [hrC]; exact z1) (by rw [hrC]; omega)
                rw [hrC, z3] at e6
                have hd6 : DS M6 d r (deg (rC M a)) (rC M a) f2 P2 := hd2.fr f6 (fun q => by have := q.1; omega) (fun q => by have := q.1; omega) (fun q => by have := q.1; omega)
                have hf6 : Fr (Sd d) M3 M6 := hf2.trans (f6.mono (fun b hb => ⟨by have := hb.1; omega, hb.2⟩))
                have hV6 : HV M6 := hV5.fr f6
                have e82 : ¬ Sd (d + 1) (82 + 4 * d) := fun q => by have := q.1; omega
                rw [nI_1, Option.bind_some, e6, Option.bind_some]
                rw [show 1 + nI (cl r q) = nI (cl r q + 1) from (nI_add 1 (cl r q)).trans (congrArg nI (Nat.add_comm _ _))]
                by_cases hle : cl r q + 1 ≤ b
                · rw [if_pos (nI_le hle (by omega)), show stp r (b, row) q = (b, row) from if_pos hle]
                  obtain ⟨M4, e4, f4, w4⟩ := ih M6 f2 P2 b (c + 1) row hV6 hd6 hv2 (by omega) (by omega) hb9 hsub2 (fun hb k hk => by rw [f6.2.2.2.2 _ e82]; exact hrow5 hb k hk)
                  rw [j2] at e4 w4
                  exact ⟨M4, e4, hf6.trans f4, w4⟩
                · rw [if_neg (ge_f (by omega) (by omega)), show stp r (b, row) q = (cl r q + 1, q) from if_neg hle, dvk M6 d hd6.1, Option.bind_some, s_remember hd6.1, Option.bind_some]
                  generalize hM7 : setA M6 (82 + 4 * d) (bq (mI M6 (82 + 4 * d)) 0 9 (mI M6 (81 + 4 * d))) = M7
                  have f7 : Fr (fun b => b = 82 + 4 * d) M6 M7 := hM7 ▸ Fr.set rfl
                  have hd7 : DS M7 d r (deg (rC M a)) (rC M a) f2 P2 := hd6.fr f7 (by omega) (by omega) (by omega)
                  obtain ⟨M4, e4, f4, w4⟩ := ih M7 f2 P2 (cl r q + 1) (c + 1) q (hV6.fr f7) hd7 hv2 (by omega) (by omega) (by omega) hsub2 (fun _ k hk => by
                    rw [← hM7, mI_eq, bq, if_pos (by omega), hd6.2.2.2.2.2, ← hrC, rC, if_pos hk, hd2.2.2.2.2.2]; rfl)
                  rw [j2] at e4 w4
                  exact ⟨M4, e4, hf6.trans ((f7.mono (fun b hb => ⟨by omega, by omega⟩)).trans f4), w4⟩
      have hm := mu_lt f0 hDV.2.1 hDV.2.2.2.1
      have hV2 : HV M2 := hV.fr hfr
      obtain ⟨M4, e4, f4, w4⟩ := go FU M2 f0 P0 0 0 [] hV2 hDS hDV (fu_9 (by omega)) (by omega) (by omega) (by rw [hrem]; exact fun q hq => hq) (fun q => absurd rfl q)
      rw [nI_0, hrem] at e4
      rw [hrem] at w4
      have hbb : ((quo (rC M a) r).foldl (stp r) (0, [])) = bst r (quo (rC M a) r) := rfl
      rw [hbb, hb1] at e4
      rw [hbb, hb1] at w4
      exact ⟨M4, e4, (hfr.mono (fun b hb => ⟨by omega, by omega⟩)).trans f4, w4⟩
