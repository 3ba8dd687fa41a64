def HD (M : Mem) (i : Nat) : Prop := M.1 = 117 ∧ i < 9 ∧ mR M (81 + 4 * i) 0 = some (82 + 4 * i) ∧ mR M (81 + 4 * i) 1 = some (83 + 4 * i) ∧ mR M (81 + 4 * i) 2 = some (84 + 4 * i)
theorem HD_setA (M : Mem) (a : Nat) (f : Nat → Int32) (i : Nat) : HD (setA M a f) i ↔ HD M i := Iff.rfl
theorem kdD : ∀ i : Nat, i < 9 → kd (81 + 4 * i) = 0 ∧ (kd (82 + 4 * i) = 4 ∧ ln (82 + 4 * i) = 9) ∧ (kd (83 + 4 * i) = 4 ∧ ln (83 + 4 * i) = 9) ∧ (kd (84 + 4 * i) = 4 ∧ ln (84 + 4 * i) = 9) := by decide
theorem HD.lt {M : Mem} {i : Nat} (h : HD M i) {t : Nat} (ht : t < 4) : 81 + t + 4 * i < M.1 := by have := h.2.1; rw [h.1]; omega
theorem dv0 (M : Mem) (i : Nat) (h : HD M i) : gR 0 0 M (some (81 + 4 * i)) = some (some (82 + 4 * i)) := (gR_at (h.lt (t := 0) (by decide)) (kdD i h.2.1).1).trans (congrArg some h.2.2.1)
theorem dv1 (M : Mem) (i : Nat) (h : HD M i) : gR 0 1 M (some (81 + 4 * i)) = some (some (83 + 4 * i)) := (gR_at (h.lt (t := 0) (by decide)) (kdD i h.2.1).1).trans (congrArg some h.2.2.2.1)
theorem dv2 (M : Mem) (i : Nat) (h : HD M i) : gR 0 2 M (some (81 + 4 * i)) = some (some (84 + 4 * i)) := (gR_at (h.lt (t := 0) (by decide)) (kdD i h.2.1).1).trans (congrArg some h.2.2.2.2)
theorem dvg (M : Mem) (i k : Nat) (h : HD M i) : gI 0 k M (some (81 + 4 * i)) = some (mI M (81 + 4 * i) k) := gI_at (h.lt (t := 0) (by decide)) (kdD i h.2.1).1
theorem dvp (M : Mem) (i k : Nat) (v : Int32) (h : HD M i) : pI 0 k M (some (81 + 4 * i)) v = some (setA M (81 + 4 * i) (uq (mI M (81 + 4 * i)) k v)) := (pI_at (h.lt (t := 0) (by decide)) (kdD i h.2.1).1).trans (congrArg some (sI_setA _ _ _ _))
theorem dvk (M : Mem) (i : Nat) (h : HD M i) : ck 0 M (some (81 + 4 * i)) = some () := ck_at (h.lt (t := 0) (by decide)) (kdD i h.2.1).1
theorem rw80 {M : Mem} {i : Nat} (h : HD M i) : Row M (82 + 4 * i) := ⟨h.lt (t := 1) (by decide), (kdD i h.2.1).2.1⟩
theorem rw81 {M : Mem} {i : Nat} (h : HD M i) : Row M (83 + 4 * i) := ⟨h.lt (t := 2) (by decide), (kdD i h.2.1).2.2.1⟩
theorem rw82 {M : Mem} {i : Nat} (h : HD M i) : Row M (84 + 4 * i) := ⟨h.lt (t := 3) (by decide), (kdD i h.2.1).2.2.2⟩
theorem aI_w {M : Mem} {a k : Nat} (h : Row M a) (hk : k < 9) : aI M (some a) (nI k) = some (mI M a k) := aI_at h.1 h.2.1 h.2.2 hk (by decide)
theorem wI_w {M : Mem} {a k : Nat} {v : Int32} (h : Row M a) (hk : k < 9) : wI M (some a) (nI k) v = some (setA M a (uq (mI M a) k v)) := (wI_at h.1 h.2.1 h.2.2 hk (by decide)).trans (congrArg some (sI_setA _ _ _ _))
theorem da80 (M : Mem) (i k : Nat) (hk : k < 9) (h : HD M i) : aI M (some (82 + 4 * i)) (nI k) = some (mI M (82 + 4 * i) k) := aI_w (rw80 h) hk
theorem da81 (M : Mem) (i k : Nat) (hk : k < 9) (h : HD M i) : aI M (some (83 + 4 * i)) (nI k) = some (mI M (83 + 4 * i) k) := aI_w (rw81 h) hk
theorem dw80 (M : Mem) (i k : Nat) (v : Int32) (hk : k < 9) (h : HD M i) : wI M (some (82 + 4 * i)) (nI k) v = some (setA M (82 + 4 * i) (uq (mI M (82 + 4 * i)) k v)) := wI_w (rw80 h) hk
theorem dw81 (M : Mem) (i k : Nat) (v : Int32) (hk : k < 9) (h : HD M i) : wI M (some (83 + 4 * i)) (nI k) v = some (setA M (83 + 4 * i) (uq (mI M (83 + 4 * i)) k v)) := wI_w (rw81 h) hk
theorem holds_inS (M : Mem) {x b c : Int32} (hx : sgn x) (hb : sgn b) (hc : sgn c) : fX2_holds M (mk (isP b) (isM b) ||| mk (isP c) (isM c)) x = some (b2 (inS x b c)) := by
  rw [mk_or, s_holds M _ _ hx]
  rcases hx with rfl | rfl | rfl <;> rcases hb with rfl | rfl | rfl <;> rcases hc with rfl | rfl | rfl <;> rfl
theorem zb_b2 (b : Bool) : zb (b2 b) = true := by cases b <;> rfl
/-- the place below, 0 at the lowest -/
def prv (f : Nat → Int32) (p : Nat) : Int32 := if p = 0 then 0 else f (p - 1)
theorem s_fits (M : Mem) (i : Nat) (h : HD M i) {p : Nat} (hp : p < 9) (ha : sgn (mI M (81 + 4 * i) 3)) (hd : sgn (mI M (82 + 4 * i) p)) (h1 : sgn (prv (mI M (83 + 4 * i)) p)) (h2 : sgn (mI M (83 + 4 * i) p)) :
    fX0_fits M (some (81 + 4 * i)) (nI p) = some (b2 (inS (mI M (82 + 4 * i) p) (prv (mI M (83 + 4 * i)) p) (-(mI M (81 + 4 * i) 3) * mI M (83 + 4 * i) p))) := by
  unfold fX0_fits
  have e0 : (nI p = 0) ↔ p = 0 := nI_eq (b := 0) (by omega) (by decide)
  have hm := sgn_mul (sgn_neg ha) h2
  simp only [e0, dvg M i _ h, dv0 M i h, dv1 M i h, Option.bind_some, da80 M i p hp h, da81 M i p hp h]
  unfold prv at h1 ⊢
  by_cases hp0 : p = 0
  · rw [if_pos hp0, if_pos hp0, s_markOf M sgn_0, Option.bind_some, s_markOf M hm, Option.bind_some, holds_inS M hd sgn_0 hm, Option.bind_some, chk, if_pos (zb_b2 _)]
  · rw [if_neg hp0] at h1
    rw [if_neg hp0, if_neg hp0, pk_sub1 hp0, da81 M i (p - 1) (by omega) h, Option.bind_some, s_markOf M h1, Option.bind_some, s_markOf M hm, Option.bind_some, holds_inS M hd h1 hm, Option.bind_some, chk, if_pos (zb_b2 _)]
def gts (v : Int32) (f : Int32 → List (List Int32)) : List (List Int32) := (if v = -2 then f (-1) else []) ++ ((if v = -2 ∨ v = -1 then f 0 else []) ++ (if v = -2 ∨ v = -1 ∨ v = 0 then f 1 else []))
def lev (a : Int32) (g : Nat → Int32) (H : Nat) (f : Nat → Int32) (p : Nat) : List (List Int32) :=
  gts (f p) (fun x => if inS (g p) (prv f p) (-a * x) = true then (qE a x (seg g (p + 1) (H - p))).map (fun t => seg f 0 p ++ x :: t) else [])
def rem (a : Int32) (g : Nat → Int32) (H : Nat) (f : Nat → Int32) : Nat → List (List Int32)
  | 0 => []
  | p + 1 => lev a g H f p ++ rem a g H f p
def wj : Nat → Nat
  | 0 => 1
  | j + 1 => 3 * wj j + 2
def nv (x : Int32) : Nat := if x = -2 then 3 else if x = -1 then 2 else if x = 0 then 1 else 0
def mu (H : Nat) (f : Nat → Int32) : Nat → Nat
  | 0 => 0
  | p + 1 => nv (f p) * wj (H - (p + 1)) + 1 + mu H f p
theorem prv_cg {f g : Nat → Int32} {p : Nat} (h : ∀ k, k < p → f k = g k) : prv f p = prv g p := by
  unfold prv
  split
  · rfl
  · exact h _ (by omega)
theorem lev_cg {a : Int32} {g : Nat → Int32} {H : Nat} {f f2 : Nat → Int32} {p : Nat} (h : ∀ k, k ≤ p → f k = f2 k) : lev a g H f p = lev a g H f2 p := by
  unfold lev
  rw [h p (Nat.le_refl _), prv_cg (f := f) (g := f2) (fun k hk => h k (by omega)), seg_cg (f := f) (g := f2) p 0 (fun k _ hk => h k (by omega))]
theorem rem_cg {a : Int32} {g : Nat → Int32} {H : Nat} {f f2 : Nat → Int32} : ∀ P, (∀ k, k < P → f k = f2 k) → rem a g H f P = rem a g H f2 P := by
  intro P
  induction P with
  | zero => intro _; rfl
  | succ P ih =>
    intro h
    rw [rem, rem, lev_cg (f := f) (f2 := f2) (fun k hk => h k (by omega)), ih (fun k hk => h k (by omega))]
theorem mu_cg {H : Nat} {f f2 : Nat → Int32} : ∀ P, (∀ k, k < P → f k = f2 k) → mu H f P = mu H f2 P := by
  intro P
  induction P with
  | zero => intro _; rfl
  | succ P ih =>
    intro h
    rw [mu, mu, h P (by omega), ih (fun k hk => h k (by omega))]
/-- a place's value: yet nothing (-2), or a sign -/
def vs (x : Int32) : Prop := x = -2 ∨ sgn x
theorem gts_up {v : Int32} (hv : vs v) (h1 : v ≠ 1) (F : Int32 → List (List Int32)) : gts v F = F (v + 1) ++ gts (v + 1) F := by
  rcases hv with rfl | rfl | rfl | rfl
  · rfl
  · rfl
  · show [] ++ ([] ++ F 1) = F 1 ++ ([] ++ ([] ++ []))
    simp
  · exact absurd rfl h1
/-- one step up at a place -/
theorem lev_up {a : Int32} {g : Nat → Int32} {H : Nat} {f : Nat → Int32} {p : Nat} (hv : vs (f p)) (h1 : f p ≠ 1) : lev a g H f p = (if inS (g p) (prv f p) (-a * (f p + 1)) = true then (qE a (f p + 1) (seg g (p + 1) (H - p))).map (fun t => seg f 0 p ++ (f p + 1) :: t) else []) ++ lev a g H (uq f p (f p + 1)) p := by
  have e1 : ∀ k, k < p → f k = uq f p (f p + 1) k := fun k hk => (uq_ne _ _ (by omega)).symm
  unfold lev
  rw [← prv_cg e1, ← seg_cg p 0 (fun k _ hk => e1 k (by omega)), uq_eq]
  exact gts_up hv h1 _
theorem lev_1 {a : Int32} {g : Nat → Int32} {H : Nat} {f : Nat → Int32} {p : Nat} (h : f p = 1) : lev a g H f p = [] := by
  unfold lev
  rw [h]; rfl
/-- a new place, with yet nothing chosen -/
theorem lev_new {a : Int32} {g : Nat → Int32} {H : Nat} {f : Nat → Int32} {p : Nat} (hp : p + 1 < H) (hf : f (p + 1) = -2) : lev a g H f (p + 1) = (qE a (f p) (seg g (p + 1) (H - p))).map (fun t => seg f 0 p ++ f p :: t) := by
  obtain ⟨j, hj⟩ : ∃ j, H - p = j + 1 + 1 := ⟨H - p - 2, by omega⟩
  have hj2 : H - (p + 1) = j + 1 := by omega
  unfold lev
  rw [hf, hj, hj2, show prv f (p + 1) = f p from rfl]
  have es : seg f 0 (p + 1) = seg f 0 p ++ [f p] := by
    have := seg_app f p 0 1
    rw [this, Nat.zero_add]; rfl
  have e2 : qE a (f p) (seg g (p + 1) (j + 1 + 1)) = fl3 (fun x => if inS (g (p + 1)) (f p) (-a * x) = true then (qE a x (seg g (p + 1 + 1) (j + 1))).map (x :: ·) else []) := rfl
  rw [e2]
  have key : ∀ x : Int32, (if inS (g (p + 1)) (f p) (-a * x) = true then (qE a x (seg g (p + 1 + 1) (j + 1))).map (fun t => seg f 0 (p + 1) ++ x :: t) else []) = (if inS (g (p + 1)) (f p) (-a * x) = true then (qE a x (seg g (p + 1 + 1) (j + 1))).map (x :: ·) else []).map (fun t => seg f 0 p ++ f p :: t) := by
    intro x
    split
    · rw [List.map_map]
      refine List.map_congr_left fun t _ => ?_
      rw [es]; simp
    · rfl
  simp only [key]
  show _ ++ (_ ++ _) = List.map _ (_ ++ (_ ++ _))
  rw [List.map_append, List.map_append]
  rfl
theorem lev_last {a : Int32} {g : Nat → Int32} {f : Nat → Int32} {p : Nat} {x : Int32} : (qE a x (seg g (p + 1) (p + 1 - p))).map (fun t => seg f 0 p ++ x :: t) = if x = 0 then [] else if inS (g (p + 1)) x 0 = true then [seg f 0 p ++ [x]] else [] := by
  rw [show p + 1 - p = 1 by omega, show seg g (p + 1) 1 = [g (p + 1)] from rfl, qE]
  by_cases h0 : x = 0
  · rw [if_pos h0, if_pos h0]; rfl
  · rw [if_neg h0, if_neg h0]
    split <;> rfl
/-- the division's state -/
def DS (M : Mem) (i : Nat) (a : Int32) (H : Nat) (g f : Nat → Int32) (P : Nat) : Prop := HD M i ∧ mI M (81 + 4 * i) 3 = a ∧ mI M (81 + 4 * i) 4 = nI H + (-1) ∧ mI M (81 + 4 * i) 5 = nI P + (-1) ∧ (∀ k, k < 9 → mI M (82 + 4 * i) k = g k) ∧ mI M (83 + 4 * i) = f
def DV (a : Int32) (H : Nat) (g f : Nat → Int32) (P : Nat) : Prop := sgn a ∧ H < 9 ∧ SgR g ∧ P ≤ H ∧ (∀ k, H ≤ k → k < 9 → f k = 0) ∧ (∀ k, k + 1 < P → sgn (f k)) ∧ (∀ k, k < P → vs (f k))
def dsm (M : Mem) (i : Nat) (f : Nat → Int32) (v : Int32) : Mem := setA (setA M (83 + 4 * i) f) (81 + 4 * i) (uq (mI M (81 + 4 * i)) 5 v)
theorem dsm_q (M : Mem) (i : Nat) (f : Nat → Int32) (v : Int32) : mI (dsm M i f v) (83 + 4 * i) = f := by unfold dsm; rw [mI_ne _ _ (by omega), mI_eq]
theorem dsm_d (M : Mem) (i : Nat) (f : Nat → Int32) (v : Int32) : mI (dsm M i f v) (81 + 4 * i) = uq (mI M (81 + 4 * i)) 5 v := by unfold dsm; rw [mI_eq]
theorem dsm_o (M : Mem) (i : Nat) (f : Nat → Int32) (v : Int32) {b : Nat} (h1 : b ≠ 81 + 4 * i) (h2 : b ≠ 83 + 4 * i) : mI (dsm M i f v) b = mI M b := by unfold dsm; rw [mI_ne _ _ h1, mI_ne _ _ h2]
theorem dsm_wq (M : Mem) (i : Nat) (f f2 : Nat → Int32) (v : Int32) : setA (dsm M i f v) (83 + 4 * i) f2 = dsm M i f2 v := by
  unfold dsm
  rw [setA_comm _ (a := 81 + 4 * i) (b := 83 + 4 * i) _ _ (by omega), setA_setA]
theorem dsm_wp (M : Mem) (i : Nat) (f : Nat → Int32) (v w : Int32) : setA (dsm M i f v) (81 + 4 * i) (uq (mI (dsm M i f v) (81 + 4 * i)) 5 w) = dsm M i f w := by
  rw [dsm_d]
  unfold dsm
  rw [setA_setA, uq_uq]
theorem dsm_wp2 (M : Mem) (i : Nat) (f : Nat → Int32) (v w : Int32) : setA (dsm M i f v) (81 + 4 * i) (uq (mI M (81 + 4 * i)) 5 w) = dsm M i f w := by
  unfold dsm
  rw [setA_setA]
theorem DS_dsm {M : Mem} {i : Nat} {a : Int32} {H : Nat} {g f : Nat → Int32} {P : Nat} (h : DS M i a H g f P) : dsm M i f (nI P + (-1)) = M := by
  obtain ⟨_, _, _, h5, _, h6⟩ := h
  unfold dsm
  rw [← h6, ← h5, uq_id, setA_id, setA_id]
theorem dsm_DS {M : Mem} {i : Nat} {a : Int32} {H : Nat} {g f : Nat → Int32} {P : Nat} (h : DS M i a H g f P) (f2 : Nat → Int32) (P2 : Nat) : DS (dsm M i f2 (nI P2 + (-1))) i a H g f2 P2 := by
  obtain ⟨h1, h2, h3, h5, h4, h6⟩ := h
  refine ⟨h1, ?_, ?_, ?_, ?_, dsm_q _ _ _ _⟩
  · rw [dsm_d, uq_ne _ _ (by decide), h2]
  · rw [dsm_d, uq_ne _ _ (by decide), h3]
  · rw [dsm_d, uq_eq]
  · intro k hk
    rw [dsm_o _ _ _ _ (by omega) (by omega), h4 k hk]
theorem dsm_dsm (M : Mem) (i : Nat) (f f2 : Nat → Int32) (v w : Int32) : dsm (dsm M i f v) i f2 w = dsm M i f2 w := by
  rw [show dsm (dsm M i f v) i f2 w = setA (setA (dsm M i f v) (83 + 4 * i) f2) (81 + 4 * i) (uq (mI (dsm M i f v) (81 + 4 * i)) 5 w) from rfl, dsm_wq, dsm_d]
  unfold dsm
  rw [setA_setA, uq_uq]
theorem le_hi : ∀ H : Nat, H < 9 → ∀ p : Nat, p < 9 → ((nI H + (-1) ≤ nI p) ↔ H ≤ p + 1) := by decide
theorem lt1_vs {x : Int32} (h : vs x) : (x < 1) ↔ x ≠ 1 := by rcases h with rfl | rfl | rfl | rfl <;> decide
theorem vs_up {x : Int32} (h : vs x) (h1 : x ≠ 1) : sgn (x + 1) ∧ nv x = nv (x + 1) + 1 := by
  rcases h with rfl | rfl | rfl | rfl
  · exact ⟨Or.inl rfl, rfl⟩
  · exact ⟨Or.inr (Or.inl rfl), rfl⟩
  · exact ⟨Or.inr (Or.inr rfl), rfl⟩
  · exact absurd rfl h1
/-- what advance finds -/
def AdvR (M : Mem) (i : Nat) (a : Int32) (H : Nat) (g f : Nat → Int32) (P : Nat) (o : Option (Mem × Int32)) : Prop :=
  ∃ f2 P2, o = some (dsm M i f2 (nI P2 + (-1)), if rem a g H f P = [] then 0 else 1) ∧ DV a H g f2 P2 ∧ mu H f2 P2 ≤ mu H f P ∧ (rem a g H f P = [] → rem a g H f2 P2 = []) ∧ (∀ q t, rem a g H f P = q :: t → seg f2 0 H = q ∧ rem a g H f2 P2 = t ∧ mu H f2 P2 < mu H f P)
theorem HD_dsm (M : Mem) (j : Nat) (f : Nat → Int32) (v : Int32) (i : Nat) : HD (dsm M j f v) i ↔ HD M i := Iff.rfl
theorem AdvR.tr {M : Mem} {i : Nat} {a : Int32} {H : Nat} {g f f2 : Nat → Int32} {P P2 : Nat} {o : Option (Mem × Int32)} (hr : rem a g H f2 P2 = rem a g H f P) (hm : mu H f2 P2 ≤ mu H f P) (h : AdvR M i a H g f2 P2 o) : AdvR M i a H g f P o := by
  obtain ⟨f3, P3, h1, h2, h3, h4, h5⟩ := h
  rw [hr] at h1 h4 h5
  exact ⟨f3, P3, h1, h2, by omega, h4, fun q t hq => ⟨(h5 q t hq).1, (h5 q t hq).2.1, by have := (h5 q t hq).2.2; omega⟩⟩
theorem adv_go {i : Nat} {a : Int32} {H : Nat} {g : Nat → Int32} (M : Mem) (h : HD M i) (h3 : mI M (81 + 4 * i) 3 = a) (h4 : mI M (81 + 4 * i) 4 = nI H + (-1)) (hg : ∀ k, k < 9 → mI M (82 + 4 * i) k = g k) : ∀ (n : Nat) (c : Nat) (f : Nat → Int32) (P : Nat), DV a H g f P → mu H f P < n → c + mu H f P < 1000000 →
    AdvR M i a H g f P (fX0_advance_2 (some (81 + 4 * i)) (fun M32 x33 => some (M32, 1)) (fun M34 x35 => some (M34, 0)) n (dsm M i f (nI P + (-1))) (nI c)) := by
  intro n
  induction n with
  | zero => intro c f P _ h2; omega
  | succ n ih =>
    intro c f P hv hmu hc
    obtain ⟨v1, v2, v3, v4, v5, v6, v7⟩ := hv
    have hv0 : DV a H g f P := ⟨v1, v2, v3, v4, v5, v6, v7⟩
    rw [fX0_advance_2, if_neg (show ¬ (1000000 : Int32) ≤ nI c from ge_f (N := 1000000) (by omega) (by decide)), dvg (dsm M i f (nI P + (-1))) i _ h, Option.bind_some, dsm_d, uq_eq]
    cases P with
    | zero =>
      rw [if_pos (by decide)]
      exact ⟨f, 0, by rw [rem, if_pos rfl], hv0, Nat.le_refl _, fun _ => rfl, fun q t hq => by cases hq⟩
    | succ p =>
      have hp9 : p < 8 := by omega
      have hvp := v7 p (by omega)
      rw [pk_m1, if_neg (nI_pos (by omega))]
      have hrem : rem a g H f (p + 1) = lev a g H f p ++ rem a g H f p := rfl
      have hmue : mu H f (p + 1) = nv (f p) * wj (H - (p + 1)) + 1 + mu H f p := rfl
      simp (disch := first | omega | (simp only [HD_setA, HD_dsm, h]; done)) only [dvg, dv0, dv1, dv2, dvp, dvk, da80, da81, dw80, dw81, Option.bind_some, dsm_d, dsm_q, dsm_wq, dsm_wp2, uq_eq, mI_eq, mI_ne, setA_setA, uq_uq, nI_1, lt1_vs hvp]
      by_cases h1 : f p = 1
      · rw [if_neg (fun q => q h1), Int32.sub_eq_add_neg]
        have hmu2 : mu H f p < mu H f (p + 1) := by omega
        refine AdvR.tr (f2 := f) (P2 := p) ?_ (by omega) (ih (c + 1) f p ⟨v1, v2, v3, by omega, v5, fun k hk => v6 k (by omega), fun k hk => v7 k (by omega)⟩ (by omega) (by omega))
        rw [hrem, lev_1 h1]; rfl
      · rw [if_pos h1]
        obtain ⟨hs1, hnv⟩ := vs_up hvp h1
        have hlev := lev_up (a := a) (g := g) (H := H) hvp h1
        have hf1 : uq f p (f p + 1) p = f p + 1 := uq_eq _ _ _
        have hne : ∀ k, k ≠ p → uq f p (f p + 1) k = f k := fun k hk => uq_ne _ _ hk
        have hprv : prv (uq f p (f p + 1)) p = prv f p := prv_cg (fun k hk => hne k (by omega))
        have hseg : seg (uq f p (f p + 1)) 0 p = seg f 0 p := seg_cg p 0 (fun k _ hk => hne k (by omega))
        have hremp : rem a g H (uq f p (f p + 1)) p = rem a g H f p := rem_cg p (fun k hk => hne k (by omega))
        have hmup : mu H (uq f p (f p + 1)) p = mu H f p := mu_cg p (fun k hk => hne k (by omega))
        have hrem1 : rem a g H (uq f p (f p + 1)) (p + 1) = lev a g H (uq f p (f p + 1)) p ++ rem a g H f p := by rw [rem, hremp]
        have hmu1 : mu H (uq f p (f p + 1)) (p + 1) = nv (f p + 1) * wj (H - (p + 1)) + 1 + mu H f p := by rw [mu, hf1, hmup]
        have hwj : 1 ≤ wj (H - (p + 1)) := by cases H - (p + 1) with | zero => exact Nat.le_refl _ | succ j => rw [wj]; omega
        have hmul : nv (f p) * wj (H - (p + 1)) = nv (f p + 1) * wj (H - (p + 1)) + wj (H - (p + 1)) := by rw [hnv, Nat.add_mul, Nat.one_mul]
        have hprs : sgn (prv f p) := by
          unfold prv
          split
          · exact sgn_0
          · exact v6 (p - 1) (by omega)
        have hDV : DV a H g (uq f p (f p + 1)) (p + 1) := ⟨v1, v2, v3, v4, fun k hk hk9 => by rw [hne k (by omega)]; exact v5 k hk hk9, fun k hk => by rw [hne k (by omega)]; exact v6 k hk, fun k hk => by
          by_cases hkp : k = p
          · rw [hkp, hf1]; exact Or.inr hs1
          · rw [hne k hkp]; exact v7 k hk⟩
        have hfit := s_fits (dsm M i (uq f p (f p + 1)) (nI p)) i h (p := p) (by omega) (by rw [dsm_d, uq_ne _ _ (by decide), h3]; exact v1) (by rw [dsm_o _ _ _ _ (by omega) (by omega), hg p (by omega)]; exact v3 p) (by rw [dsm_q, hprv]; exact hprs) (by rw [dsm_q, hf1]; exact hs1)
        rw [dsm_d, uq_ne _ _ (by decide), h3, dsm_o _ _ _ _ (by omega) (by omega), hg p (by omega), dsm_q, hprv, hf1] at hfit
        have stay : lev a g H f p = lev a g H (uq f p (f p + 1)) p → AdvR M i a H g f (p + 1) (fX0_advance_2 (some (81 + 4 * i)) (fun M32 x33 => some (M32, 1)) (fun M34 x35 => some (M34, 0)) n (dsm M i (uq f p (f p + 1)) (nI p)) (nI (c + 1))) := by
          intro hl
          have e := ih (c + 1) (uq f p (f p + 1)) (p + 1) hDV (by omega) (by omega)
          rw [pk_m1] at e
          exact AdvR.tr (by rw [hrem1, hrem, hl]) (by omega) e
        have h4' : mI (dsm M i (uq f p (f p + 1)) (nI p)) (81 + 4 * i) 4 = nI H + (-1) := by rw [dsm_d, uq_ne _ _ (by decide), h4]
        simp (disch := first | omega | (simp only [HD_setA, HD_dsm, h]; done)) only [dvg, dv0, dv1, dv2, dvp, dvk, da80, da81, dw80, dw81, Option.bind_some, dsm_d, dsm_q, dsm_wq, dsm_wp2, uq_eq, mI_eq, mI_ne, setA_setA, uq_uq, hfit, nI_1]
        by_cases hb : inS (g p) (prv f p) (-a * (f p + 1)) = true
        · rw [hb, if_neg (by decide), uq_ne _ _ (by decide), h4]
          simp only [le_hi H (by omega) p (by omega)]
          rw [if_pos hb] at hlev
          by_cases hl : H ≤ p + 1
          · rw [if_pos hl]
            have hHp : H = p + 1 := by omega
            subst hHp
            rw [pk_m1]
            rw [lev_last] at hlev
            simp (disch := first | omega | (simp only [HD_setA, HD_dsm, h]; done)) only [dvg, dv0, dv1, dv2, dvp, dvk, da80, da81, dw80, dw81, Option.bind_some, dsm_d, dsm_q, dsm_wq, dsm_wp2, uq_eq, mI_eq, mI_ne, setA_setA, uq_uq, nI_1]
            by_cases h0 : f p + 1 = 0
            · rw [if_pos h0]
              rw [if_pos h0, List.nil_append] at hlev
              exact stay hlev
            · rw [if_neg h0]
              rw [if_neg h0] at hlev
              have hz : uq f p (f p + 1) (p + 1) = 0 := by rw [hne _ (by omega)]; exact v5 (p + 1) (Nat.le_refl _) (by omega)
              have hpr2 : prv (uq f p (f p + 1)) (p + 1) = f p + 1 := by show uq f p (f p + 1) p = _; exact hf1
              have hfit2 := s_fits (dsm M i (uq f p (f p + 1)) (nI p)) i h (p := p + 1) (by omega) (by rw [dsm_d, uq_ne _ _ (by decide), h3]; exact v1) (by rw [dsm_o _ _ _ _ (by omega) (by omega), hg (p + 1) (by omega)]; exact v3 (p + 1)) (by rw [dsm_q, hpr2]; exact hs1) (by rw [dsm_q, hz]; exact sgn_0)
              rw [dsm_d, uq_ne _ _ (by decide), h3, dsm_o _ _ _ _ (by omega) (by omega), hg (p + 1) (by omega), dsm_q, hpr2, hz, Int32.mul_zero] at hfit2
              rw [hfit2, Option.bind_some]
              by_cases hb2 : inS (g (p + 1)) (f p + 1) 0 = true
              · rw [hb2, if_neg (by decide)]
                rw [if_pos hb2] at hlev
                have hall : rem a g (p + 1) f (p + 1) = (seg f 0 p ++ [f p + 1]) :: rem a g (p + 1) (uq f p (f p + 1)) (p + 1) := by rw [hrem, hlev, hrem1]; rfl
                refine ⟨uq f p (f p + 1), p + 1, ?_, hDV, by omega, ?_, ?_⟩
                · rw [hall, if_neg (by simp), pk_m1]
                · intro hn
                  rw [hall] at hn
                  cases hn
                · intro q t hq
                  rw [hall] at hq
                  injection hq with hq1 hq2
                  refine ⟨?_, hq2, by omega⟩
                  rw [← hq1, seg_app (uq f p (f p + 1)) p 0 1, hseg]
                  show _ ++ [uq f p (f p + 1) (0 + p)] = _
                  rw [Nat.zero_add, hf1]
              · rw [eq_false_of_ne_true hb2, if_pos (by decide)]
                rw [if_neg hb2, List.nil_append] at hlev
                exact stay hlev
          · rw [if_neg hl]
            have k1 : uq (uq f p (f p + 1)) (p + 1) (-2) (p + 1) = -2 := uq_eq _ _ _
            have k2 : ∀ k, k ≠ p + 1 → uq (uq f p (f p + 1)) (p + 1) (-2) k = uq f p (f p + 1) k := fun k hk => uq_ne _ _ hk
            have l1 := lev_new (a := a) (g := g) (H := H) (f := uq (uq f p (f p + 1)) (p + 1) (-2)) (p := p) (by omega) k1
            have l2 : lev a g H (uq (uq f p (f p + 1)) (p + 1) (-2)) p = lev a g H (uq f p (f p + 1)) p := lev_cg (fun k hk => k2 k (by omega))
            have l3 : rem a g H (uq (uq f p (f p + 1)) (p + 1) (-2)) p = rem a g H f p := by rw [rem_cg p (fun k hk => k2 k (by omega)), hremp]
            have l4 : seg (uq (uq f p (f p + 1)) (p + 1) (-2)) 0 p = seg f 0 p := by rw [seg_cg p 0 (fun k _ hk => k2 k (by omega)), hseg]
            have l5 : mu H (uq (uq f p (f p + 1)) (p + 1) (-2)) (p + 1) = mu H (uq f p (f p + 1)) (p + 1) := mu_cg (p + 1) (fun k hk => k2 k (by omega))
            rw [k2 p (by omega), hf1, l4] at l1
            have hmu3 : mu H (uq (uq f p (f p + 1)) (p + 1) (-2)) (p + 1 + 1) < mu H f (p + 1) := by
              rw [mu, k1, l5, hmu1, hmue, hmul]
              obtain ⟨j, hj⟩ : ∃ j, H - (p + 1) = j + 1 := ⟨H - (p + 1) - 1, by omega⟩
              have hj2 : H - (p + 1 + 1) = j := by omega
              rw [hj, hj2, show wj (j + 1) = 3 * wj j + 2 from rfl, show nv (-2) = 3 from rfl]
              omega
            have e := ih (c + 1) (uq (uq f p (f p + 1)) (p + 1) (-2)) (p + 1 + 1) ⟨v1, v2, v3, by omega, fun k hk hk9 => by rw [k2 k (by omega), hne k (by omega)]; exact v5 k hk hk9, fun k hk => by
              rw [k2 k (by omega)]
              by_cases hkp : k = p
              · rw [hkp, hf1]; exact hs1
              · rw [hne k hkp]; exact v6 k (by omega), fun k hk => by
              by_cases hkp : k = p + 1
              · rw [hkp, k1]; exact Or.inl rfl
              · rw [k2 k hkp]
                by_cases hkp : k = p
                · rw [hkp, hf1]; exact Or.inr hs1
                · rw [hne k hkp]; exact v7 k (by omega)⟩ (by omega) (by omega)
            rw [pk_m1] at e
            refine AdvR.tr ?_ (by omega) e
            rw [hrem, rem, rem, l2, l3, l1, hlev, List.append_assoc]
        · rw [eq_false_of_ne_true hb, if_pos (by decide)]
          rw [if_neg hb, List.nil_append] at hlev
          exact stay hlev
