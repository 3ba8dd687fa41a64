/-- of the longs, only what is remembered may change -/
def FJ (M M2 : Mem) : Prop := (∀ b, b ≠ 16 → mJ M2 b = mJ M b) ∧ (TI (mJ M 16) → TI (mJ M2 16))
theorem FJ.refl (M : Mem) : FJ M M := ⟨fun _ _ => rfl, fun h => h⟩
theorem FJ.trans {M M2 M3 : Mem} (h : FJ M M2) (h2 : FJ M2 M3) : FJ M M3 := ⟨fun b hb => (h2.1 b hb).trans (h.1 b hb), fun q => h2.2 (h.2 q)⟩
def Fr (S : Nat → Prop) (M M2 : Mem) : Prop := M2.1 = M.1 ∧ FJ M M2 ∧ mR M2 = mR M ∧ mD M2 = mD M ∧ ∀ b, ¬ S b → mI M2 b = mI M b
theorem Fr.refl (S : Nat → Prop) (M : Mem) : Fr S M M := ⟨rfl, FJ.refl M, rfl, rfl, fun _ _ => rfl⟩
theorem Fr.trans {S : Nat → Prop} {M M2 M3 : Mem} (h : Fr S M M2) (h2 : Fr S M2 M3) : Fr S M M3 := ⟨h2.1.trans h.1, h.2.1.trans h2.2.1, h2.2.2.1.trans h.2.2.1, h2.2.2.2.1.trans h.2.2.2.1, fun b hb => (h2.2.2.2.2 b hb).trans (h.2.2.2.2 b hb)⟩
theorem Fr.mono {S T : Nat → Prop} {M M2 : Mem} (h : Fr S M M2) (hst : ∀ b, S b → T b) : Fr T M M2 := ⟨h.1, h.2.1, h.2.2.1, h.2.2.2.1, fun b hb => h.2.2.2.2 b (fun q => hb (hst b q))⟩
theorem Fr.set {S : Nat → Prop} {M : Mem} {a : Nat} {f : Nat → Int32} (h : S a) : Fr S M (setA M a f) := ⟨rfl, FJ.refl M, rfl, rfl, fun b hb => mI_ne _ _ (fun q => hb (q ▸ h))⟩
theorem HD.fr {S : Nat → Prop} {M M2 : Mem} {i : Nat} (h : HD M i) (hf : Fr S M M2) : HD M2 i := by
  unfold HD
  rw [hf.1, hf.2.2.1]
  exact h
theorem Row.fr {S : Nat → Prop} {M M2 : Mem} {a : Nat} (h : Row M a) (hf : Fr S M M2) : Row M2 a := by
  unfold Row
  rw [hf.1]
  exact h
theorem rC_fr {S : Nat → Prop} {M M2 : Mem} {a : Nat} (hf : Fr S M M2) (hs : ¬ S a) : rC M2 a = rC M a := by
  unfold rC
  rw [hf.2.2.2.2 a hs]
theorem Fr.dsm {S : Nat → Prop} {M : Mem} {i : Nat} {f : Nat → Int32} {v : Int32} (h1 : S (81 + 4 * i)) (h2 : S (83 + 4 * i)) : Fr S M (dsm M i f v) := (Fr.set h2).trans (Fr.set h1)
def mb (H : Nat) : Nat → Nat
  | 0 => 0
  | p + 1 => 3 * wj (H - (p + 1)) + 1 + mb H p
theorem mu_mb (H : Nat) (f : Nat → Int32) : ∀ P, mu H f P ≤ mb H P := by
  intro P
  induction P with
  | zero => exact Nat.le_refl _
  | succ P ih =>
    have hn : nv (f P) ≤ 3 := by unfold nv; split; · omega
                                 split; · omega
                                 split <;> omega
    have := Nat.mul_le_mul_right (wj (H - (P + 1))) hn
    rw [mu, mb]; omega
theorem mb_lt : ∀ H : Nat, H < 9 → ∀ P : Nat, P < 9 → mb H P < 20000 := by decide
theorem mu_lt {H P : Nat} (f : Nat → Int32) (h : H < 9) (h2 : P ≤ H) : mu H f P < 20000 := Nat.lt_of_le_of_lt (mu_mb H f P) (mb_lt H h P (by omega))
theorem s_advance {M : Mem} {i : Nat} {a : Int32} {H : Nat} {g f : Nat → Int32} {P : Nat} (h : DS M i a H g f P) (hv : DV a H g f P) : AdvR M i a H g f P (fX0_advance M (some (81 + 4 * i))) := by
  have hm := mu_lt f hv.2.1 hv.2.2.2.1
  have e := adv_go M h.1 h.2.1 h.2.2.1 h.2.2.2.2.1 FU 0 f P hv (fu_9 (by omega)) (by omega)
  rw [DS_dsm h, nI_0] at e
  exact e
theorem s_start {M : Mem} {i a : Nat} (h : HD M i) (ha : Row M a) (h0 : a ≠ 81 + 4 * i) (h1 : a ≠ 82 + 4 * i) (h2 : a ≠ 83 + 4 * i) {r : Int32} (hr : sgn r) (hs : SgR (rC M a)) :
    ∃ M2 f P, fX0_start M (some (81 + 4 * i)) (some a) r = some M2 ∧ DS M2 i r (deg (rC M a)) (rC M a) f P ∧ DV r (deg (rC M a)) (rC M a) f P ∧ rem r (rC M a) (deg (rC M a)) f P = quo (rC M a) r ∧ Fr (fun b => b = 81 + 4 * i ∨ b = 82 + 4 * i ∨ b = 83 + 4 * i) M M2 := by
  have hd := deg_lt (rC M a)
  have e := loopF (fX0_start_2 (some (81 + 4 * i)) (some a) r) 9 (fun j => setA (setA M (82 + 4 * i) (bq (mI M (82 + 4 * i)) 0 j (mI M a))) (83 + 4 * i) (bq (mI M (83 + 4 * i)) 0 j (fun _ => 0))) (fun j hj k m => by
    have e2 := bq_s (mI M (82 + 4 * i)) 0 j (mI M a)
    have e3 := bq_s (mI M (83 + 4 * i)) 0 j (fun _ => (0 : Int32))
    rw [Nat.zero_add] at e2 e3
    have e4 := aI_w (M := setA (setA M (82 + 4 * i) (bq (mI M (82 + 4 * i)) 0 j (mI M a))) (83 + 4 * i) (bq (mI M (83 + 4 * i)) 0 j (fun _ => 0))) (a := a) (k := j) ha hj
    rw [mI_ne _ _ h2, mI_ne _ _ h1] at e4
    rw [fX0_start_2, if_neg (ge9_f j hj)]
    simp (disch := first | omega | (simp only [HD_setA, HD_dsm, h]; done)) only [dvg, dv0, dv1, dv2, dvp, dvk, da80, da81, dw80, dw81, Option.bind_some, dsm_d, dsm_q, dsm_wq, dsm_wp2, uq_eq, mI_eq, mI_ne, setA_setA, uq_uq, e4]
    rw [setA_comm _ (a := 83 + 4 * i) (b := 82 + 4 * i) _ _ (by omega)]
    simp (disch := first | omega | (simp only [HD_setA, HD_dsm, h]; done)) only [dvg, dv0, dv1, dv2, dvp, dvk, da80, da81, dw80, dw81, Option.bind_some, dsm_d, dsm_q, dsm_wq, dsm_wp2, uq_eq, mI_eq, mI_ne, setA_setA, uq_uq, e2, e3, nI_1]) (fun k m => by rw [fX0_start_2, if_pos ge9_t]) 9 0 FU rfl (fu_9 (by decide))
  rw [bq_0, bq_0, setA_id, show setA M (83 + 4 * i) (mI M (83 + 4 * i)) = M from setA_id M _] at e
  rw [nI_0] at e
  have ed := s_degreeOf (M := setA (setA (setA M (82 + 4 * i) (bq (mI M (82 + 4 * i)) 0 9 (mI M a))) (83 + 4 * i) (bq (mI M (83 + 4 * i)) 0 9 (fun _ => 0))) (81 + 4 * i) (uq (mI M (81 + 4 * i)) 3 r)) (a := a) ha
  rw [show rC (setA (setA (setA M (82 + 4 * i) (bq (mI M (82 + 4 * i)) 0 9 (mI M a))) (83 + 4 * i) (bq (mI M (83 + 4 * i)) 0 9 (fun _ => 0))) (81 + 4 * i) (uq (mI M (81 + 4 * i)) 3 r)) a = rC M a by unfold rC; rw [mI_ne _ _ h0, mI_ne _ _ h2, mI_ne _ _ h1]] at ed
  unfold fX0_start
  rw [e]
  have ew : ∀ (N : Mem) (v : Int32), HD N i → wI N (some (83 + 4 * i)) 0 v = some (setA N (83 + 4 * i) (uq (mI N (83 + 4 * i)) 0 v)) := fun N v hN => dw81 N i 0 v (by decide) hN
  simp (disch := first | omega | (simp only [HD_setA, HD_dsm, h]; done)) only [dvg, dv0, dv1, dv2, dvp, dvk, da80, da81, dw80, dw81, Option.bind_some, dsm_d, dsm_q, dsm_wq, dsm_wp2, uq_eq, mI_eq, mI_ne, setA_setA, uq_uq, ed, ew]
  generalize hH : deg (rC M a) = H at hd ⊢
  have hcells : ∀ k, k < 9 → bq (mI M (82 + 4 * i)) 0 9 (mI M a) k = rC M a k := by
    intro k hk
    unfold bq rC
    rw [if_pos (by omega), if_pos hk]; rfl
  have hz : ∀ v k, k < 9 → k ≠ 0 → uq (bq (mI M (83 + 4 * i)) 0 9 (fun _ => (0 : Int32))) 0 v k = 0 := by
    intro v k hk hk0
    rw [uq_ne _ _ hk0, bq, if_pos (by omega)]
  have hfr : ∀ f2 f3 f4 f5 : Nat → Int32, Fr (fun b => b = 81 + 4 * i ∨ b = 82 + 4 * i ∨ b = 83 + 4 * i) M (setA (setA (setA (setA M (82 + 4 * i) f2) (83 + 4 * i) f3) (81 + 4 * i) f4) (83 + 4 * i) f5) := fun f2 f3 f4 f5 =>
    (Fr.set (Or.inr (Or.inl rfl))).trans ((Fr.set (Or.inr (Or.inr rfl))).trans ((Fr.set (Or.inl rfl)).trans (Fr.set (Or.inr (Or.inr rfl)))))
  have hquo : quo (rC M a) r = qE r 0 (seg (rC M a) 0 (H + 1)) := by rw [quo, hH]
  rw [hquo, uq_ne _ _ (show (4 : Nat) ≠ 5 by decide), uq_eq]
  cases H with
  | zero =>
    rw [if_neg (by decide), if_neg (by decide)]
    refine ⟨_, uq (bq (mI M (83 + 4 * i)) 0 9 (fun _ => 0)) 0 0, 0, rfl, ⟨h, ?_, ?_, ?_, ?_, mI_eq _ _ _⟩, ⟨hr, by decide, hs, Nat.le_refl _, ?_, fun k hk => by omega, fun k hk => by omega⟩, ?_, hfr _ _ _ _⟩
    · rw [mI_ne _ _ (by omega), mI_eq, uq_ne _ _ (by decide), uq_ne _ _ (by decide), uq_eq]
    · rw [mI_ne _ _ (by omega), mI_eq, uq_ne _ _ (by decide), uq_eq]; decide
    · rw [mI_ne _ _ (by omega), mI_eq, uq_eq]; decide
    · intro k hk
      rw [mI_ne _ _ (by omega), mI_ne _ _ (by omega), mI_ne _ _ (by omega), mI_eq, hcells k hk]
    · intro k _ hk
      by_cases hk0 : k = 0
      · subst hk0; exact uq_eq _ _ _
      · exact hz 0 k hk hk0
    · exact (if_pos rfl).symm
  | succ H =>
    rw [nI_pred, if_pos (nI_pos' (by omega)), if_pos (nI_pos' (by omega))]
    refine ⟨_, uq (bq (mI M (83 + 4 * i)) 0 9 (fun _ => 0)) 0 (-2), 1, rfl, ⟨h, ?_, ?_, ?_, ?_, mI_eq _ _ _⟩, ⟨hr, hd, hs, by omega, ?_, fun k hk => by omega, ?_⟩, ?_, hfr _ _ _ _⟩
    · rw [mI_ne _ _ (by omega), mI_eq, uq_ne _ _ (by decide), uq_ne _ _ (by decide), uq_eq]
    · rw [mI_ne _ _ (by omega), mI_eq, uq_ne _ _ (by decide), uq_eq, pk_m1]
    · rw [mI_ne _ _ (by omega), mI_eq, uq_eq]; decide
    · intro k hk
      rw [mI_ne _ _ (by omega), mI_ne _ _ (by omega), mI_ne _ _ (by omega), mI_eq, hcells k hk]
    · intro k hk1 hk
      exact hz _ k hk (by omega)
    · intro k hk
      have : k = 0 := by omega
      subst this
      exact Or.inl (uq_eq _ _ _)
    · show lev r (rC M a) (H + 1) _ 0 ++ [] = _
      rw [List.append_nil]
      unfold lev
      rw [uq_eq]
      show gts (-2) _ = fl3 _
      show _ ++ (_ ++ _) = _ ++ (_ ++ _)
      have km : ∀ x, (qE r x (seg (rC M a) (0 + 1) (H + 1 - 0))).map (fun t => seg (uq (bq (mI M (83 + 4 * i)) 0 9 (fun _ => 0)) 0 (-2)) 0 0 ++ x :: t) = (qE r x (seg (rC M a) (0 + 1) (H + 1))).map (x :: ·) := fun x => rfl
      rfl
theorem b8 {M : Mem} (h1 : M.1 = 117) (h : mR M 0 8 = some 14) : gR 2 8 M (some 0) = some (some 14) := (gR_at (by omega) rfl).trans (congrArg some h)
def HV (M : Mem) : Prop := (mR M 0 8 = some 14 ∧ HT M ∧ TI (mJ M 16)) ∧ ∀ i, i < 9 → HD M i ∧ mR M 14 i = some (81 + 4 * i)
theorem HV.n {M : Mem} (h : HV M) : M.1 = 117 := (h.2 0 (by decide)).1.1
theorem HV.fr {S : Nat → Prop} {M M2 : Mem} (h : HV M) (hf : Fr S M M2) : HV M2 := by
  refine ⟨⟨by rw [hf.2.2.1]; exact h.1.1, by unfold HT; rw [hf.1, hf.2.2.1]; exact h.1.2.1, hf.2.1.2 h.1.2.2⟩, fun i hi => ⟨(h.2 i hi).1.fr hf, by rw [hf.2.2.1]; exact (h.2 i hi).2⟩⟩
theorem HV.g (M : Mem) (h : HV M) : gR 2 8 M (some 0) = some (some 14) := b8 h.n h.1.1
theorem HV.t (M : Mem) (h : HV M) : gR 2 9 M (some 0) = some (some 15) := h.1.2.1.g
theorem HV.a (M : Mem) (h : HV M) {i : Nat} (hi : i < 9) : aR 7 M (some 14) (nI i) = some (some (81 + 4 * i)) := (aR_at (by rw [h.n]; decide) rfl rfl hi (by decide)).trans (congrArg some (h.2 i hi).2)
theorem HV.a0 (M : Mem) (h : HV M) : aR 7 M (some 14) 0 = some (some 81) := h.a (i := 0) M (by decide)
def S0 (b : Nat) : Prop := b = 81 ∨ b = 82 ∨ b = 83
theorem s_quoOf {M : Mem} (h : HV M) {a : Nat} (ha : Row M a) (hn : a < 81) {r : Int32} (hr : sgn r) (hs : SgR (rC M a)) : ∃ M2, fX2_quotientsOf M (some 0) (some a) r = some (M2, nI (quo (rC M a) r).length) ∧ Fr S0 M M2 := by
  obtain ⟨M2, f, P, e1, hDS, hDV, hrem, hfr⟩ := s_start (h.2 0 (by decide)).1 ha (by omega) (by omega) (by omega) hr hs
  have go : ∀ (n : Nat) (M3 : Mem) (f : Nat → Int32) (P c : Nat), DS M3 0 r (deg (rC M a)) (rC M a) f P → DV r (deg (rC M a)) (rC M a) f P → mu (deg (rC M a)) f P < n → c + mu (deg (rC M a)) f P < 1000000 → ∃ M4, fX2_quotientsOf_19 (some 0) (some a) r (some 81) (fun M7 x8 x9 => some (M7, x8)) n M3 (nI c) (nI c) = some (M4, nI (c + (rem r (rC M a) (deg (rC M a)) f P).length)) ∧ Fr S0 M3 M4 := by
    intro n
    induction n with
    | zero => intro M3 f P c _ _ hm; omega
    | succ n ih =>
      intro M3 f P c h1 h2 hm hc
      obtain ⟨f2, P2, ea, hv2, hm2, hnil, hcons⟩ := s_advance h1 h2
      have hd2 := dsm_DS h1 f2 P2
      have hf2 : Fr S0 M3 (dsm M3 0 f2 (nI P2 + (-1))) := Fr.dsm (Or.inl rfl) (Or.inr (Or.inr rfl))
      rw [fX2_quotientsOf_19, if_neg (show ¬ (1000000 : Int32) ≤ nI c from ge_f (N := 1000000) (by omega) (by decide)), show ck 0 M3 (some 81) = some () from dvk M3 0 h1.1, Option.bind_some, show fX0_advance M3 (some 81) = _ from ea, Option.bind_some]
      by_cases hr0 : rem r (rC M a) (deg (rC M a)) f P = []
      · rw [hr0, if_pos rfl, if_pos rfl]
        exact ⟨_, rfl, hf2⟩
      · rw [if_neg hr0, if_neg (show ¬ (1 : Int32) = 0 by decide)]
        obtain ⟨q, t, hqt⟩ : ∃ q t, rem r (rC M a) (deg (rC M a)) f P = q :: t := by
          cases hcase : rem r (rC M a) (deg (rC M a)) f P with
          | nil => exact absurd hcase hr0
          | cons q t => exact ⟨q, t, rfl⟩
        obtain ⟨_, k2, k3⟩ := hcons q t hqt
        obtain ⟨M4, e4, f4⟩ := ih (dsm M3 0 f2 (nI P2 + (-1))) f2 P2 (c + 1) hd2 hv2 (by omega) (by omega)
        refine ⟨M4, ?_, hf2.trans f4⟩
        rw [nI_1, e4, k2, hqt, List.length_cons, show c + 1 + t.length = c + (t.length + 1) by omega]
  have hm := mu_lt f hDV.2.1 hDV.2.2.2.1
  obtain ⟨M4, e4, f4⟩ := go FU M2 f P 0 hDS hDV (fu_9 (by omega)) (by omega)
  refine ⟨M4, ?_, (hfr.mono (fun b hb => hb)).trans f4⟩
  unfold fX2_quotientsOf
  rw [nI_0, hrem, Nat.zero_add] at e4
  rw [h.g, Option.bind_some, h.a0, Option.bind_some, show ck 0 M (some 81) = some () from dvk M 0 (h.2 0 (by decide)).1, Option.bind_some, show fX0_start M (some 81) (some a) r = some M2 from e1, Option.bind_some, e4]
theorem cp_n {M : Mem} {a b n : Nat} (h : a < M.1 ∧ kd a = 4) (h2 : b < M.1 ∧ kd b = 4) (hn : n ≤ ln a) (hn2 : n ≤ ln b) (hn3 : n < 2 ^ 31) : cpI M (some a) 0 (some b) 0 (nI n) = some (setA M b (bq (mI M b) 0 n (mI M a))) := by
  unfold cpI
  rw [Option.bind_some, Option.bind_some, if_pos ⟨⟨h.1, h.2, h2.1, h2.2⟩, ⟨by decide, by decide, nI_pos hn3⟩, by rw [nI_clamp hn3]; exact (Nat.zero_add n).symm ▸ hn, by rw [nI_clamp hn3]; exact (Nat.zero_add n).symm ▸ hn2⟩]
  refine congrArg some (Prod.ext rfl (Prod.ext ?_ rfl))
  funext c j
  show (if c = b then _ else mI M c j) = (if c = b then _ else mI M c) j
  by_cases hc : c = b
  · rw [if_pos hc, if_pos hc, nI_clamp hn3]
    show va_cpy (mI M a) (mI M b) 0 0 n j = bq (mI M b) 0 n (mI M a) j
    unfold va_cpy bq
    by_cases hj : 0 ≤ j ∧ j < 0 + n
    · rw [if_pos hj, if_pos hj, Nat.zero_add]
    · rw [if_neg hj, if_neg hj]
  · rw [if_neg hc, if_neg hc]
theorem cp_9 {M : Mem} {a b : Nat} (h : Row M a) (h2 : Row M b) : cpI M (some a) 0 (some b) 0 9 = some (setA M b (bq (mI M b) 0 9 (mI M a))) :=
  cp_n (n := 9) ⟨h.1, h.2.1⟩ ⟨h2.1, h2.2.1⟩ (by rw [h.2.2]; decide) (by rw [h2.2.2]; decide) (by decide)
theorem s_remember {M : Mem} {i : Nat} (h : HD M i) : fX0_rememberBest M (some (81 + 4 * i)) = some (setA M (84 + 4 * i) (bq (mI M (84 + 4 * i)) 0 9 (mI M (83 + 4 * i)))) := by
  unfold fX0_rememberBest
  rw [dv1 M i h, Option.bind_some, dv2 M i h, Option.bind_some, cp_9 (rw81 h) (rw82 h), Option.bind_some]
theorem seg_sh (g : Nat → Int32) : ∀ j i, seg (fun k => g (k + 1)) i j = seg g (i + 1) j := by
  intro j
  induction j with
  | zero => intro i; rfl
  | succ j ih => intro i; rw [seg, seg, ih]
theorem seg_lrow : ∀ q : List Int32, seg (lrow q) 0 q.length = q := by
  intro q
  induction q with
  | nil => rfl
  | cons x q ih =>
    rw [List.length_cons, seg, ← seg_sh]
    have e : (fun k => lrow (x :: q) (k + 1)) = lrow q := by funext k; rfl
    rw [e, ih]; rfl
theorem lrow_lst : ∀ (q : List Int32) (p : Int32), q ≠ [] → lrow q (q.length - 1) = lst p q := by
  intro q
  induction q with
  | nil => intro p h; exact absurd rfl h
  | cons x q ih =>
    intro p _
    cases q with
    | nil => rfl
    | cons y q => exact ih x (by simp)
theorem lrow_out {q : List Int32} {k : Nat} (h : q.length ≤ k) : lrow q k = 0 := by
  unfold lrow
  rw [List.getD_eq_getElem?_getD, List.getElem?_eq_none h]; rfl
theorem lrow_sgn {q : List Int32} (h : sgns q) : SgR (lrow q) := by
  intro k
  rcases Nat.lt_or_ge k q.length with h1 | h1
  · unfold lrow
    rw [List.getD_eq_getElem?_getD, List.getElem?_eq_getElem h1]
    exact h _ (List.getElem_mem h1)
  · rw [lrow_out h1]; exact sgn_0
theorem deg_is {g : Nat → Int32} {j : Nat} (hj : j < 9) (h : g j ≠ 0) (h2 : ∀ k, j < k → k < 9 → g k = 0) : deg g = j := by
  have hz : Nz g := ⟨j, hj, h⟩
  have h3 := deg_ne hz
  have h4 := deg_lt g
  rcases Nat.lt_trichotomy (deg g) j with hl | hl | hl
  · exact absurd (deg_top g hl hj) h
  · exact hl
  · exact absurd (h2 _ hl h4) h3
theorem lrow_deg {q : List Int32} (h : lst 0 q ≠ 0) (hl : q.length ≤ 9) : Nz (lrow q) ∧ deg (lrow q) + 1 = q.length ∧ ∀ r, cntd (lrow q) r = cl r q := by
  have hne : q ≠ [] := by rintro rfl; exact h rfl
  have hpos : 0 < q.length := List.length_pos_iff.mpr hne
  have hv : lrow q (q.length - 1) ≠ 0 := by rw [lrow_lst q 0 hne]; exact h
  have hz : Nz (lrow q) := ⟨q.length - 1, by omega, hv⟩
  have hd : deg (lrow q) = q.length - 1 := deg_is (by omega) hv (fun k h1 _ => lrow_out (by omega))
  refine ⟨hz, by omega, fun r => ?_⟩
  rw [← ccd_deg hz, ccd_cl, hd, show q.length - 1 + 1 = q.length by omega, seg_lrow]
def Sd (d : Nat) (b : Nat) : Prop := 81 + 4 * d ≤ b ∧ b < 117
theorem DS.fr {M M2 : Mem} {S : Nat → Prop} {i : Nat} {a : Int32} {H : Nat} {g f : Nat → Int32} {P : Nat} (h : DS M i a H g f P) (hf : Fr S M M2) (h1 : ¬ S (81 + 4 * i)) (h2 : ¬ S (82 + 4 * i)) (h3 : ¬ S (83 + 4 * i)) : DS M2 i a H g f P := by
  obtain ⟨a1, a2, a3, a4, a5, a6⟩ := h
  refine ⟨a1.fr hf, ?_, ?_, ?_, ?_, ?_⟩
  · rw [hf.2.2.2.2 _ h1, a2]
  · rw [hf.2.2.2.2 _ h1, a3]
  · rw [hf.2.2.2.2 _ h1, a4]
  · intro k hk; rw [hf.2.2.2.2 _ h2, a5 k hk]
  · rw [hf.2.2.2.2 _ h3, a6]
theorem cntd_le {g : Nat → Int32} (hs : SgR g) (hz : Nz g) {r : Int32} (hr : sgn r) : cntd g r ≤ deg g := by
  have := sum_le hs hz
  rcases hr with rfl | rfl | rfl <;> omega
theorem quo_facts {g : Nat → Int32} (hs : SgR g) (hz : Nz g) {r : Int32} (hr : sgn r) : (bst r (quo g r)).1 = cntd g r ∧ (quo g r = [] ↔ cntd g r = 0) ∧ ∀ q ∈ quo g r, q.length = deg g ∧ sgns q ∧ lst 0 q ≠ 0 ∧ cl r q + 1 ≤ cntd g r := by
  have e : cntd g r = cl r (seg g 0 (deg g + 1)) := by rw [← ccd_deg hz, ccd_cl]
  have es : seg g 0 (deg g + 1) = g 0 :: seg g 1 (deg g) := rfl
  have h1 : sgns (g 0 :: seg g 1 (deg g)) := es ▸ seg_sgns hs _ _
  have h2 : lead (g 0 :: seg g 1 (deg g)) := by
    rw [lead_lst]
    have := lst_seg g (deg g) 0 (g 0)
    rw [es, lst, Nat.zero_add] at this
    rw [this]; exact deg_ne hz
  unfold quo
  rw [e, es]
  refine ⟨bst_1 hr h1 h2, qE_nil hr h1 h2, fun q hq => ?_⟩
  obtain ⟨k1, k2, k3, _⟩ := qE_mem.mp hq
  rw [seg_len] at k1
  exact ⟨k1, k2, k3, cl_lt hr h1 h2 hq⟩
