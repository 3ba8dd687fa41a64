abbrev BS : Type := Nat × (Nat → Nat → Int32) × (Nat → Int32) × (Nat → Nat → Int32) × Nat × (Nat → Int32)
def CR (M : Mem) (sp : Nat → Nat) (v : Nat → Int32) (B : BS) : Prop := HC0 M ∧ SpM M sp ∧ Rep M 1 v ∧ mI M 0 2 = nI B.1 ∧ (∀ j, j < B.1 → Rep M (17 + 8 * sp j) (B.2.1 j)) ∧ (∀ s, s < 2 → mI M 11 s = B.2.2.1 s ∧ (B.2.2.1 s ≠ 0 → Rep M (65 + 8 * s) (B.2.2.2.1 s))) ∧ mI M 0 6 = nI B.2.2.2.2.1 ∧ ∀ i, i < B.2.2.2.2.1 → mI M 12 i = B.2.2.2.2.2 i
def FrC (M M2 : Mem) : Prop := M2.1 = M.1 ∧ mD M2 = mD M ∧ ∀ b, 117 ≤ b → mI M2 b = mI M b ∧ mJ M2 b = mJ M b ∧ mR M2 b = mR M b
theorem FrC.refl (M : Mem) : FrC M M := ⟨rfl, rfl, fun _ _ => ⟨rfl, rfl, rfl⟩⟩
theorem FrC.trans {M M2 M3 : Mem} (h : FrC M M2) (h2 : FrC M2 M3) : FrC M M3 := ⟨h2.1.trans h.1, h2.2.1.trans h.2.1, fun b hb => ⟨(h2.2.2 b hb).1.trans (h.2.2 b hb).1, (h2.2.2 b hb).2.1.trans (h.2.2 b hb).2.1, (h2.2.2 b hb).2.2.trans (h.2.2 b hb).2.2⟩⟩
theorem Fr.frC {S : Nat → Prop} {M M2 : Mem} (h : Fr S M M2) (hs : ∀ b, 117 ≤ b → ¬ S b) : FrC M M2 := ⟨h.1, h.2.2.2.1, fun b hb => ⟨h.2.2.2.2 b (hs b hb), h.2.1.1 b (by omega), by rw [h.2.2.1]⟩⟩
/-- what isn't the object's own state -/
theorem CR.fr {S : Nat → Prop} {M M2 : Mem} {sp : Nat → Nat} {v : Nat → Int32} {B : BS} (h : CR M sp v B) (hc : B.1 ≤ 6) (hf : Fr S M M2) (hs : ∀ b, S b → 81 ≤ b) : CR M2 sp v B := by
  obtain ⟨h1, h2, h3, h4, h5, h6, h7, h8⟩ := h
  have hn : ∀ b, b < 81 → mI M2 b = mI M b := fun b hb => hf.2.2.2.2 b (fun q => by have := hs b q; omega)
  refine ⟨h1.fr hf, h2.fr hf, h3.fr hf (fun x h1 h2 q => by have := hs x q; omega), by rw [hn 0 (by decide)]; exact h4, fun j hj => (h5 j hj).fr hf (fun x hx1 hx2 q => ?_), fun s hs2 => ⟨by rw [hn 11 (by decide)]; exact (h6 s hs2).1, fun hk => ((h6 s hs2).2 hk).fr hf (fun x hx1 hx2 q => by have := hs x q; omega)⟩, by rw [hn 0 (by decide)]; exact h7, fun i hi => by rw [hn 12 (by decide)]; exact h8 i hi⟩
  have e := hs x q
  have := (h2.1 j (by omega)).2
  omega
/-- the state in use, changed -/
theorem CR.now {M M2 : Mem} {sp : Nat → Nat} {v v2 : Nat → Int32} {B : BS} (h : CR M sp v B) (hc : B.1 ≤ 6) (hf : Fr (fun x => 1 ≤ x ∧ x < 9) M M2) (hr : Rep M2 1 v2) : CR M2 sp v2 B := by
  obtain ⟨h1, h2, h3, h4, h5, h6, h7, h8⟩ := h
  have hn : ∀ b, ¬ (1 ≤ b ∧ b < 9) → mI M2 b = mI M b := fun b hb => hf.2.2.2.2 b hb
  exact ⟨h1.fr hf, h2.fr hf, hr, by rw [hn 0 (by decide)]; exact h4, fun j hj => (h5 j hj).fr hf (fun x hx1 hx2 q => by have := q.2; omega), fun s hs2 => ⟨by rw [hn 11 (by decide)]; exact (h6 s hs2).1, fun hk => ((h6 s hs2).2 hk).fr hf (fun x hx1 hx2 q => by have := q.2; omega)⟩, by rw [hn 0 (by decide)]; exact h7, fun i hi => by rw [hn 12 (by decide)]; exact h8 i hi⟩
def svd (c : Nat) (sv : Nat → Nat → Int32) (v : Nat → Int32) : Nat → Nat → Int32 := fun j => if j = min c 5 then v else if c = 6 then sv (j + 1) else sv j
def savB (B : BS) (v : Nat → Int32) : BS := (min B.1 5 + 1, svd B.1 B.2.1 v, B.2.2)
def savT (M : Mem) : Option Mem :=
  (gR 2 1 M (some 0)).bind fun v3 =>
  (gI 2 2 M (some 0)).bind fun v4 =>
  (aR 8 M v3 v4).bind fun v5 =>
  (gR 2 0 M (some 0)).bind fun v6 =>
  (ck 1 M v5).bind fun _ =>
  (fX1_takeOver M v5 v6).bind fun w7 =>
  (gI 2 2 w7 (some 0)).bind fun v8 =>
  (pI 2 2 w7 (some 0) (v8 + 1)).bind fun M9 =>
  some M9
theorem s_savT {M : Mem} {sp : Nat → Nat} {v : Nat → Int32} {B : BS} (h : CR M sp v B) (hc : B.1 < 6) (hv : cnt v ≤ 8) : ∃ M2, savT M = some M2 ∧ CR M2 sp v (B.1 + 1, (fun j => if j = B.1 then v else B.2.1 j), B.2.2) ∧ FrC M M2 := by
  obtain ⟨h1, h2, h3, h4, h5, h6, h7, h8⟩ := h
  have hsp := (h2.1 B.1 hc).2
  have hb := blk_s hsp
  obtain ⟨M1, e1, r1, f1⟩ := s_takeOver h1 hb blk_1 (by omega) h3 hv
  have k1' : HC0 M1 := h1.fr f1
  have hn : ∀ b, ¬ (17 + 8 * sp B.1 ≤ b ∧ b < 17 + 8 * sp B.1 + 8) → mI M1 b = mI M b := fun b hb => f1.2.2.2.2 b hb
  unfold savT
  rw [k1 M h1, Option.bind_some, kg M 2 h1, Option.bind_some, h4, ksv h1 h2 hc, Option.bind_some, k0 M h1, Option.bind_some, bk M _ hb h1, Option.bind_some, e1, Option.bind_some, kg M1 2 k1', Option.bind_some, kp M1 2 _ k1', Option.bind_some, hn 0 (by omega), h4, nI_1]
  generalize hM2 : setA M1 0 (uq (mI M 0) 2 (nI (B.1 + 1))) = M2
  have f2 : Fr (fun x => x = 0) M1 M2 := hM2 ▸ Fr.set rfl
  have f12 : Fr (fun x => x = 0 ∨ (17 + 8 * sp B.1 ≤ x ∧ x < 17 + 8 * sp B.1 + 8)) M M2 := (f1.mono (fun x hx => Or.inr hx)).trans (f2.mono (fun x hx => Or.inl hx))
  have e0 : mI M2 0 = uq (mI M 0) 2 (nI (B.1 + 1)) := by rw [← hM2, mI_eq]
  refine ⟨M2, rfl, ⟨k1'.fr f2, (h2.fr f1).fr f2, h3.fr f12 (fun x hx1 hx2 q => by rcases q with q | q <;> omega), by rw [e0, uq_eq], fun j hj => ?_, fun s hs => ⟨?_, fun hk => ((h6 s hs).2 hk).fr f12 (fun x hx1 hx2 q => by rcases q with q | q <;> omega)⟩, by rw [e0, uq_ne _ _ (by decide)]; exact h7, fun i hi => ?_⟩, f12.frC (fun x hx q => by rcases q with q | q <;> omega)⟩
  · show Rep M2 (17 + 8 * sp j) (if j = B.1 then v else B.2.1 j)
    by_cases hj2 : j = B.1
    · rw [if_pos hj2, hj2]
      exact r1.fr f2 (fun x hx1 hx2 q => by omega)
    · rw [if_neg hj2]
      have hj3 : j < B.1 := by have : j < B.1 + 1 := hj; omega
      refine (h5 j hj3).fr f12 (fun x hx1 hx2 q => ?_)
      have hne : sp j ≠ sp B.1 := fun q => hj2 (h2.2 j B.1 (by omega) hc q)
      rcases q with q | q <;> omega
  · rw [f12.2.2.2.2 11 (fun q => by rcases q with q | q <;> omega)]; exact (h6 s hs).1
  · rw [f12.2.2.2.2 12 (fun q => by rcases q with q | q <;> omega)]; exact h8 i hi
def setR (M : Mem) (f : Nat → Option Nat) : Mem := (M.1, mI M, mJ M, (fun b => if b = 9 then f else mR M b), mD M)
theorem sR_setR (M : Mem) (k : Nat) (x : Option Nat) : sR M 9 k x = setR M (uq (mR M 9) k x) := by
  unfold sR setR
  refine Prod.ext rfl (Prod.ext rfl (Prod.ext rfl (Prod.ext ?_ rfl)))
  funext b j
  show up2 (mR M) 9 k x b j = _
  unfold up2 uq
  by_cases h : b = 9
  · subst h
    by_cases h2 : j = k <;> simp [h2]
  · simp [h]
theorem mR_9 (M : Mem) (f : Nat → Option Nat) : mR (setR M f) 9 = f := rfl
theorem mR_n (M : Mem) (f : Nat → Option Nat) {b : Nat} (h : b ≠ 9) : mR (setR M f) b = mR M b := if_neg h
theorem setR_setR (M : Mem) (f g : Nat → Option Nat) : setR (setR M f) g = setR M g := by
  refine Prod.ext rfl (Prod.ext rfl (Prod.ext rfl (Prod.ext ?_ rfl)))
  funext b
  show (if b = 9 then g else if b = 9 then f else mR M b) = if b = 9 then g else mR M b
  by_cases h : b = 9 <;> simp [h]
theorem setR_id (M : Mem) : setR M (mR M 9) = M := by
  refine Prod.ext rfl (Prod.ext rfl (Prod.ext rfl (Prod.ext ?_ rfl)))
  funext b
  show (if b = 9 then mR M 9 else mR M b) = _
  by_cases h : b = 9
  · subst h; simp; rfl
  · simp [h]; rfl
theorem HC0.setR {M : Mem} (h : HC0 M) (f : Nat → Option Nat) : HC0 (setR M f) := by
  obtain ⟨h1, h2, ⟨h3, h4⟩, h5, h6⟩ := h
  refine ⟨h1, ?_, ⟨?_, fun i hi => ?_⟩, fun b hb => ?_, fun s hs => ?_⟩
  · rw [mR_n _ _ (by decide)]; exact h2
  · refine ⟨by rw [mR_n _ _ (by decide)]; exact h3.1, ?_, h3.2.2⟩
    have := h3.2.1
    unfold HT at this ⊢
    rw [mR_n _ _ (by decide), mR_n _ _ (by decide)]; exact this
  · have := h4 i hi
    unfold HD at this ⊢
    rw [mR_n _ _ (by omega), mR_n _ _ (by omega)]; exact this
  · have h9 := blk_lt hb
    have hb2 := hb
    simp only [blk, Bool.or_eq_true, Bool.and_eq_true, beq_iff_eq, decide_eq_true_eq] at hb2
    have := h5 b hb
    unfold StB at this ⊢
    rw [mR_n _ _ (by omega), mR_n _ _ (by omega)]; exact this
  · rw [mR_n _ _ (by decide)]; exact h6 s hs
theorem wR_9 (M : Mem) (h : HC0 M) {i q : Nat} (hi : i < 6) (hq : blk q = true) : wR 8 1 M (some 9) (nI i) (some q) = some (setR M (uq (mR M 9) i (some q))) :=
  (wR_at (h.lt (by decide)) rfl rfl hi (by decide) (h.lt (by have := blk_lt hq; omega)) (blk_k q (blk_lt hq) hq).1).trans (congrArg some (sR_setR _ _ _))
theorem aR_9 (M : Mem) (h : HC0 M) {i : Nat} (hi : i < 6) : aR 8 M (some 9) (nI i) = some (mR M 9 i) := aR_at (h.lt (by decide)) rfl rfl hi (by decide)
theorem s_drop {M : Mem} {sp : Nat → Nat} (h : HC0 M) (hp : SpM M sp) {c : Nat} (h4 : mI M 0 2 = nI (c + 1)) : fX2_dropOldest M (some 0) = some (setA (setR M (fun j => if j < 5 then mR M 9 (j + 1) else if j = 5 then mR M 9 0 else mR M 9 j)) 0 (uq (mI M 0) 2 (nI c))) := by
  unfold fX2_dropOldest
  have ld : ∀ j i n, i + j = 5 → j < n → ∀ k, fX2_dropOldest_9 (some 0) (some (17 + 8 * sp 0)) k n (setR M (fun j => if j < i then mR M 9 (j + 1) else mR M 9 j)) (nI (i + 1)) = k (setR M (fun j => if j < 5 then mR M 9 (j + 1) else mR M 9 j)) (nI 6) := by
    intro j
    induction j with
    | zero =>
      intro i n hi hn k
      obtain ⟨n, rfl⟩ := suc_of hn
      have : i = 5 := by omega
      subst this
      rw [fX2_dropOldest_9, if_pos (by decide)]
    | succ j ih =>
      intro i n hi hn k
      obtain ⟨n, rfl⟩ := suc_of hn
      have hC : HC0 (setR M (fun j => if j < i then mR M 9 (j + 1) else mR M 9 j)) := h.setR _
      have e1 := (hp.1 (i + 1) (by omega)).1
      have e2 := blk_s (hp.1 (i + 1) (by omega)).2
      rw [fX2_dropOldest_9, if_neg (show ¬ (6 : Int32) ≤ nI (i + 1) from ge_f (N := 6) (by omega) (by decide)), k1 _ hC, Option.bind_some, Option.bind_some, aR_9 _ hC (by omega), Option.bind_some, mR_9, if_neg (by omega), e1, nI_pred, wR_9 _ hC (by omega) e2, Option.bind_some, setR_setR, mR_9, nI_1]
      rw [show uq (fun j => if j < i then mR M 9 (j + 1) else mR M 9 j) i (some (17 + 8 * sp (i + 1))) = (fun j => if j < i + 1 then mR M 9 (j + 1) else mR M 9 j) from ?_]
      · exact ih (i + 1) n (by omega) (by omega) k
      · funext q
        unfold uq
        by_cases hq : q = i
        · rw [if_pos hq, if_pos (by omega), hq, e1]
        · rw [if_neg hq]
          show (if q < i then mR M 9 (q + 1) else mR M 9 q) = _
          by_cases hq2 : q < i
          · rw [if_pos hq2, if_pos (by omega)]
          · rw [if_neg hq2, if_neg (by omega)]
  have e0 := ld 5 0 FU rfl (fu_9 (by decide))
  rw [show (fun j => if j < 0 then mR M 9 (j + 1) else mR M 9 j) = mR M 9 from (by funext q; rw [if_neg (by omega)]), setR_id] at e0
  have hC : HC0 (setR M (fun j => if j < 5 then mR M 9 (j + 1) else mR M 9 j)) := h.setR _
  have ea := aR_9 M h (i := 0) (by decide)
  have ew := wR_9 _ hC (i := 5) (by decide) (blk_s (hp.1 0 (by decide)).2)
  rw [nI_0, (hp.1 0 (by decide)).1] at ea
  rw [k1 M h, Option.bind_some, ea, Option.bind_some, show (1 : Int32) = nI (0 + 1) from rfl, e0, k1 _ hC, Option.bind_some, show (5 : Int32) = nI 5 from rfl, ew, Option.bind_some, setR_setR, mR_9]
  rw [show uq (fun j => if j < 5 then mR M 9 (j + 1) else mR M 9 j) 5 (some (17 + 8 * sp 0)) = (fun j => if j < 5 then mR M 9 (j + 1) else if j = 5 then mR M 9 0 else mR M 9 j) from ?_]
  · have hC2 : HC0 (setR M (fun j => if j < 5 then mR M 9 (j + 1) else if j = 5 then mR M 9 0 else mR M 9 j)) := h.setR _
    rw [kg _ 2 hC2, Option.bind_some, kp _ 2 _ hC2, Option.bind_some, show mI (setR M (fun j => if j < 5 then mR M 9 (j + 1) else if j = 5 then mR M 9 0 else mR M 9 j)) 0 = mI M 0 from rfl, h4]
    rw [show nI (c + 1) - nI (0 + 1) = nI c from nI_pred c]
  · funext q
    unfold uq
    by_cases hq : q = 5
    · rw [if_pos hq, if_neg (by omega), if_pos hq, (hp.1 0 (by decide)).1]
    · rw [if_neg hq, if_neg hq]
theorem s_save {M : Mem} {sp : Nat → Nat} {v : Nat → Int32} {B : BS} (h : CR M sp v B) (hc : B.1 ≤ 6) (hv : cnt v ≤ 8) : ∃ M2 sp2, fX2_save M (some 0) = some M2 ∧ CR M2 sp2 v (savB B v) ∧ FrC M M2 := by
  have hu : fX2_save M (some 0) = (gI 2 2 M (some 0)).bind fun v1 => if v1 < 6 then savT M else (ck 2 M (some 0)).bind fun _ => (fX2_dropOldest M (some 0)).bind fun w10 => savT w10 := rfl
  rw [hu, kg M 2 h.1, Option.bind_some, h.2.2.2.1]
  by_cases h6 : B.1 < 6
  · rw [if_pos (show nI B.1 < 6 from nI_lt h6 (by decide))]
    obtain ⟨M2, e2, r2, f2⟩ := s_savT h h6 hv
    refine ⟨M2, sp, e2, ?_, f2⟩
    have hm : min B.1 5 = B.1 := by omega
    unfold savB svd
    rw [hm]
    simp only [if_neg (show ¬ B.1 = 6 by omega)]
    exact r2
  · have h6' : B.1 = 6 := by omega
    rw [if_neg (show ¬ nI B.1 < 6 from nI_nlt (a := B.1) (b := 6) (by omega) (by omega)), kk M h.1, Option.bind_some, s_drop (c := 5) h.1 h.2.1 (by rw [h.2.2.2.1, h6']), Option.bind_some]
    generalize hR : (fun j => if j < 5 then mR M 9 (j + 1) else if j = 5 then mR M 9 0 else mR M 9 j) = R
    obtain ⟨h1, h2, h3, h4, h5, h7, h8, h9⟩ := h
    have fr : Fr (fun x => x = 0) (setR M R) (setA (setR M R) 0 (uq (mI M 0) 2 (nI 5))) := Fr.set rfl
    have hmi : ∀ b, b ≠ 0 → mI (setA (setR M R) 0 (uq (mI M 0) 2 (nI 5))) b = mI M b := fun b hb => mI_ne _ _ hb
    have hrC : ∀ b, b ≠ 0 → rC (setA (setR M R) 0 (uq (mI M 0) 2 (nI 5))) b = rC M b := fun b hb => by unfold rC; rw [hmi b hb]
    have hrep : ∀ b w, b ≠ 0 → Rep M b w → Rep (setA (setR M R) 0 (uq (mI M 0) 2 (nI 5))) b w := by
      intro b w hb hw
      obtain ⟨w1, w2, w3, w4, w5⟩ := hw
      exact ⟨fun n hn => by rw [hrC _ (by omega)]; exact w1 n hn, by rw [hmi b hb]; exact w2, fun i hi => by rw [hmi _ (by omega)]; exact w3 i hi, by rw [hmi b hb]; exact w4, by rw [hmi b hb]; exact w5⟩
    have hsp : SpM (setA (setR M R) 0 (uq (mI M 0) 2 (nI 5))) (fun j => if j = 5 then sp 0 else sp (j + 1)) := by
      refine ⟨fun j hj => ?_, fun i j hi hj hij => ?_⟩
      · show mR (setR M R) 9 j = _ ∧ _
        rw [mR_9, ← hR]
        show (if j < 5 then mR M 9 (j + 1) else if j = 5 then mR M 9 0 else mR M 9 j) = some (17 + 8 * (if j = 5 then sp 0 else sp (j + 1))) ∧ (if j = 5 then sp 0 else sp (j + 1)) < 6
        by_cases hj5 : j = 5
        · rw [if_neg (by omega), if_pos hj5, if_pos hj5]
          exact h2.1 0 (by decide)
        · rw [if_pos (by omega), if_neg hj5]
          exact h2.1 (j + 1) (by omega)
      · by_cases hi5 : i = 5
        · by_cases hj5 : j = 5
          · omega
          · simp only [if_pos hi5, if_neg hj5] at hij
            have := h2.2 0 (j + 1) (by omega) (by omega) hij
            omega
        · by_cases hj5 : j = 5
          · simp only [if_neg hi5, if_pos hj5] at hij
            have := h2.2 (i + 1) 0 (by omega) (by omega) hij
            omega
          · simp only [if_neg hi5, if_neg hj5] at hij
            have := h2.2 (i + 1) (j + 1) (by omega) (by omega) hij
            omega
    have hCR : CR (setA (setR M R) 0 (uq (mI M 0) 2 (nI 5))) (fun j => if j = 5 then sp 0 else sp (j + 1)) v (5, (fun j => B.2.1 (j + 1)), B.2.2) := by
      refine ⟨(h1.setR R).fr fr, hsp, hrep 1 v (by decide) h3, by rw [mI_eq, uq_eq], fun j hj => ?_, fun s hs => ⟨by rw [hmi 11 (by decide)]; exact (h7 s hs).1, fun hk => hrep _ _ (by omega) ((h7 s hs).2 hk)⟩, by rw [mI_eq, uq_ne _ _ (by decide)]; exact h8, fun i hi => by rw [hmi 12 (by decide)]; exact h9 i hi⟩
      have hj5 : j < 5 := hj
      show Rep _ (17 + 8 * (if j = 5 then sp 0 else sp (j + 1))) (B.2.1 (j + 1))
      rw [if_neg (by omega)]
      exact hrep _ _ (by omega) (h5 (j + 1) (by omega))
    obtain ⟨M2, e2, r2, f2⟩ := s_savT hCR (show 5 < 6 by decide) hv
    refine ⟨M2, (fun j => if j = 5 then sp 0 else sp (j + 1)), e2, ?_, ?_⟩
    · have e9 : savB B v = (5 + 1, (fun j => if j = 5 then v else B.2.1 (j + 1)), B.2.2) := by
        unfold savB svd
        rw [h6']
        rfl
      rw [e9]
      exact r2
    · have f0 : FrC M (setA (setR M R) 0 (uq (mI M 0) 2 (nI 5))) := ⟨rfl, rfl, fun b hb => ⟨hmi b (by omega), rfl, mR_n M R (by omega)⟩⟩
      exact f0.trans f2
