/-! ===== class and model say the same ===== -/
def rtok (x : Int32) : Prop := -9 ≤ x ∧ x ≤ 9
def OkV (v : Nat → Int32) : Prop := SgV v ∧ NzV v ∧ OkC v ∧ ∀ i, i < cnt v → rtok (v (46 + i))
def OkB (B : BS) : Prop := B.1 ≤ 6 ∧ (∀ j, j < B.1 → OkV (B.2.1 j)) ∧ (∀ s, s < 2 → (B.2.2.1 s = 0 ∨ B.2.2.1 s = 1) ∧ (B.2.2.1 s ≠ 0 → OkV (B.2.2.2.1 s))) ∧ B.2.2.2.2.1 ≤ 60
def svM (M : Mem) : Nat → Nat → Int32 := fun j i => mI M 119 (56 * j + i)
def slM (M : Mem) : Nat → Nat → Int32 := fun s i => mI M 120 (56 * s + i)
def BM (M : Mem) (c l : Nat) : BS := (c, svM M, mI M 121, slM M, l, mI M 122)
def Inv (M : Mem) : Prop := ∃ sp c l, HM M ∧ mI M 117 3 = nI c ∧ mI M 117 7 = nI l ∧ CR M sp (mI M 118) (BM M c l) ∧ OkV (mI M 118) ∧ OkB (BM M c l)
def FrM (M M2 : Mem) : Prop := M2.1 = M.1 ∧ (mD M2 = mD M ∧ mJ M2 16 = mJ M 16) ∧ mR M2 = mR M ∧ (∀ b, b < 117 → mI M2 b = mI M b) ∧ mJ M2 126 = mJ M 126
theorem FrM.refl (M : Mem) : FrM M M := ⟨rfl, ⟨rfl, rfl⟩, rfl, fun _ _ => rfl, rfl⟩
theorem FrM.trans {M M2 M3 : Mem} (h : FrM M M2) (h2 : FrM M2 M3) : FrM M M3 := ⟨h2.1.trans h.1, ⟨h2.2.1.1.trans h.2.1.1, h2.2.1.2.trans h.2.1.2⟩, h2.2.2.1.trans h.2.2.1, fun b hb => (h2.2.2.2.1 b hb).trans (h.2.2.2.1 b hb), h2.2.2.2.2.trans h.2.2.2.2⟩
theorem FrM.set {M : Mem} {a : Nat} {f : Nat → Int32} (h : 117 ≤ a) : FrM M (setA M a f) := ⟨rfl, ⟨rfl, rfl⟩, rfl, fun b hb => mI_ne _ _ (by omega), rfl⟩
theorem FrM.setJ {M : Mem} {a : Nat} {f : Nat → Int64} (h : a ≠ 126 ∧ a ≠ 16) : FrM M (setJ M a f) := ⟨rfl, ⟨rfl, mJ_ne _ _ (Ne.symm h.2)⟩, rfl, fun b hb => rfl, mJ_ne _ _ (Ne.symm h.1)⟩
theorem HM.frM {M M2 : Mem} (h : HM M) (hf : FrM M M2) : HM M2 := by
  unfold HM
  rw [hf.1, hf.2.2.1]; exact h
theorem HM.frC {M M2 : Mem} (h : HM M) (hf : FrC M M2) : HM M2 := by
  unfold HM StM
  rw [hf.1, (hf.2.2 117 (by decide)).2.2]; exact h
theorem CR.frM {M M2 : Mem} {sp : Nat → Nat} {v : Nat → Int32} {B : BS} (h : CR M sp v B) (hc : B.1 ≤ 6) (hf : FrM M M2) : CR M2 sp v B := by
  have e : Fr (fun b => 117 ≤ b) M (M2.1, mI M2, mJ M, mR M2, mD M2) := ⟨hf.1, FJ.refl M, hf.2.2.1, hf.2.1.1, fun b hb => hf.2.2.2.1 b (by omega)⟩
  have e2 := h.fr hc e (fun b hb => by omega)
  obtain ⟨⟨a1, a2, ⟨⟨a3, a4, a5⟩, a6⟩, a7⟩, h2⟩ := e2
  have a5 : TI (mJ M 16) := a5
  rw [← hf.2.1.2] at a5
  exact ⟨⟨a1, a2, ⟨⟨a3, a4, a5⟩, a6⟩, a7⟩, h2⟩
theorem OkV.cg {v w : Nat → Int32} (h : OkV v) (he : eqv v w) : OkV w := by
  obtain ⟨h1, h2, h3, h4⟩ := h
  refine ⟨fun i hi => by rw [← he i (by omega) (Or.inl (by omega))]; exact h1 i hi, fun n hn => by rw [← he.rv hn]; exact h2 n hn, ?_, fun i hi => ?_⟩
  · unfold OkC
    rw [← he.cnt, ← he 45 (by decide) (Or.inl (by decide))]; exact h3
  · rw [← he.cnt] at hi
    have := h3.1
    rw [← he (46 + i) (by omega) (Or.inr (Or.inr (by omega)))]
    exact h4 i hi
theorem eqv.refl (v : Nat → Int32) : eqv v v := fun _ _ _ => rfl
theorem eqv.of {v w : Nat → Int32} (h : ∀ i, i < 56 → v i = w i) : eqv v w := fun i hi _ => h i hi
theorem Inv.mk {M M2 : Mem} {sp : Nat → Nat} {v : Nat → Int32} {B : BS} (hC : CR M sp v B) (hM : HM M) (hf : FrM M M2) (h3 : mI M2 117 3 = nI B.1) (h7 : mI M2 117 7 = nI B.2.2.2.2.1)
    (hv : eqv v (mI M2 118)) (hsv : ∀ j, j < B.1 → eqv (B.2.1 j) (svM M2 j)) (hsl : ∀ s, s < 2 → mI M2 121 s = B.2.2.1 s ∧ (B.2.2.1 s ≠ 0 → eqv (B.2.2.2.1 s) (slM M2 s))) (hb : ∀ i, i < B.2.2.2.2.1 → B.2.2.2.2.2 i = mI M2 122 i) (o1 : OkV v) (o2 : OkB B) : Inv M2 := by
  have hC2 := hC.frM o2.1 hf
  obtain ⟨c1, c2, c3, c4, c5, c6, c7, c8⟩ := hC2
  refine ⟨sp, B.1, B.2.2.2.2.1, hM.frM hf, h3, h7, ⟨c1, c2, c3.cg hv o1.2.2.1.1, c4, fun j hj => (c5 j hj).cg (hsv j hj) (o2.2.1 j hj).2.2.1.1, fun s hs => ⟨by rw [(c6 s hs).1]; exact (hsl s hs).1.symm, fun hk => ?_⟩, c7, fun i hi => by rw [c8 i hi]; exact hb i hi⟩, o1.cg hv, ⟨o2.1, fun j hj => (o2.2.1 j hj).cg (hsv j hj), fun s hs => ⟨?_, fun hk => ?_⟩, o2.2.2.2⟩⟩
  · have hk2 : B.2.2.1 s ≠ 0 := by rw [← (hsl s hs).1]; exact hk
    exact ((c6 s hs).2 hk2).cg ((hsl s hs).2 hk2) (((o2.2.2.1 s hs).2 hk2).2.2.1.1)
  · show mI M2 121 s = 0 ∨ mI M2 121 s = 1
    rw [(hsl s hs).1]; exact (o2.2.2.1 s hs).1
  · have hk2 : B.2.2.1 s ≠ 0 := by rw [← (hsl s hs).1]; exact hk
    exact ((o2.2.2.1 s hs).2 hk2).cg ((hsl s hs).2 hk2)
/-- nothing of the state changed -/
theorem Inv.same {M M1 M2 : Mem} {sp : Nat → Nat} {c l : Nat} (hC : CR M1 sp (mI M 118) (BM M c l)) (hM : HM M1) (hf : FrM M1 M2) (h3 : mI M2 117 3 = nI c) (h7 : mI M2 117 7 = nI l) (e6 : mI M2 118 = mI M 118) (e7 : mI M2 119 = mI M 119) (e8 : mI M2 120 = mI M 120) (e9 : mI M2 121 = mI M 121) (e0 : mI M2 122 = mI M 122) (o1 : OkV (mI M 118)) (o2 : OkB (BM M c l)) : Inv M2 := by
  refine Inv.mk hC hM hf h3 h7 (by rw [e6]; exact eqv.refl _) (fun j _ => ?_) (fun s _ => ⟨by rw [e9]; rfl, fun _ => ?_⟩) (fun i _ => by rw [e0]; rfl) o1 o2
  · unfold svM; rw [e7]; exact eqv.refl _
  · unfold slM; rw [e8]; exact eqv.refl _
theorem svd_eq (M : Mem) (c : Nat) (hc : c ≤ 6) {j : Nat} (hj : j < min c 5 + 1) {i : Nat} (hi : i < 56) : svd c (svM M) (mI M 118) j i = bq (if c = 6 then shf (mI M 119) else mI M 119) (56 * (min c 5)) 56 (mI M 118) (56 * j + i) := by
  unfold svd
  by_cases hj2 : j = min c 5
  · rw [if_pos hj2, hj2, bq_in _ _ _ _ hi]
  · rw [if_neg hj2, bq_out _ _ _ _ (by omega)]
    by_cases h6 : c = 6
    · rw [if_pos h6, if_pos h6, shf, bq, if_pos (by omega)]
      show mI M 119 (56 * (j + 1) + i) = mI M 119 (56 * j + i - 0 + 56)
      rw [show 56 * (j + 1) + i = 56 * j + i - 0 + 56 by omega]
    · rw [if_neg h6, if_neg h6]; rfl
theorem OkB.sav {B : BS} {v : Nat → Int32} (h : OkB B) (hv : OkV v) : OkB (savB B v) := by
  obtain ⟨h1, h2, h3⟩ := h
  refine ⟨?_, fun j hj => ?_, h3⟩
  · show min B.1 5 + 1 ≤ 6; omega
  · show OkV (svd B.1 B.2.1 v j)
    have hj2 : j < min B.1 5 + 1 := hj
    unfold svd
    by_cases hj3 : j = min B.1 5
    · rw [if_pos hj3]; exact hv
    · rw [if_neg hj3]
      by_cases h6 : B.1 = 6
      · rw [if_pos h6]; exact h2 _ (by omega)
      · rw [if_neg h6]; exact h2 _ (by omega)
/-- saved, and the state changed -/
theorem Inv.sav {M M1 M2 : Mem} {sp : Nat → Nat} {c l : Nat} {v : Nat → Int32} (hC : CR M1 sp v (savB (BM M c l) (mI M 118))) (hM : HM M1) (hf : FrM M1 M2) (h3 : mI M2 117 3 = nI (min c 5 + 1)) (h7 : mI M2 117 7 = nI l) (hv : eqv v (mI M2 118)) (e7 : mI M2 119 = bq (if c = 6 then shf (mI M 119) else mI M 119) (56 * (min c 5)) 56 (mI M 118)) (e8 : mI M2 120 = mI M 120) (e9 : mI M2 121 = mI M 121) (e0 : mI M2 122 = mI M 122) (o0 : OkV (mI M 118)) (o1 : OkV v) (o2 : OkB (BM M c l)) : Inv M2 := by
  refine Inv.mk hC hM hf h3 h7 hv (fun j hj => ?_) (fun s _ => ⟨by rw [e9]; rfl, fun _ => ?_⟩) (fun i _ => by rw [e0]; rfl) o1 (o2.sav o0)
  · refine eqv.of fun i hi => ?_
    unfold svM
    rw [e7]
    exact svd_eq M c o2.1 hj hi
  · unfold slM; rw [e8]; exact eqv.refl _
/-! the arguments -/
theorem lt_i {x y : Int32} : x < y ↔ x.toInt < y.toInt := Int32.lt_iff_toInt_lt
theorem le_i {x y : Int32} : x ≤ y ↔ x.toInt ≤ y.toInt := Int32.le_iff_toInt_le
theorem in_range (x : Int32) {N : Nat} (hN : N < 2 ^ 31) : (¬ (0 ≤ x ∧ x ≤ nI N - 1) ∧ (x < 0 ∨ nI N ≤ x)) ∨ ∃ n, n < N ∧ x = nI n := by
  rcases pk_ix x hN with h | h | h
  · exact Or.inl ⟨fun q => by rw [lt_i] at h; have := le_i.mp q.1; omega, Or.inl h⟩
  · refine Or.inl ⟨fun q => ?_, Or.inr h⟩
    have h1 := le_i.mp h
    rw [nI_toInt hN] at h1
    cases N with
    | zero =>
      have h2 := le_i.mp q.2
      rw [show nI 0 - 1 = (-1 : Int32) by decide, show (-1 : Int32).toInt = -1 by decide] at h2
      have h3 := le_i.mp q.1
      rw [show (0 : Int32).toInt = 0 by decide] at h3
      omega
    | succ N =>
      rw [nI_pred] at q
      have h2 := le_i.mp q.2
      rw [nI_toInt (by omega)] at h2
      omega
  · exact Or.inr h
