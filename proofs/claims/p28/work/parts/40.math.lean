def sgn (x : Int32) : Prop := x = -1 ∨ x = 0 ∨ x = 1
theorem sgn_0 : sgn 0 := Or.inr (Or.inl rfl)
theorem sgn_1 : sgn 1 := Or.inr (Or.inr rfl)
theorem sgn_neg {x : Int32} (h : sgn x) : sgn (-x) := by
  rcases h with rfl | rfl | rfl <;> simp [sgn]
theorem sgn_mul {x y : Int32} (h : sgn x) (h2 : sgn y) : sgn (x * y) := by
  rcases h with rfl | rfl | rfl <;> rcases h2 with rfl | rfl | rfl <;> simp [sgn]
/-- r is in the sum of the signs a and b -/
def inS (r a b : Int32) : Bool := if a = 0 then r == b else if a = -b then true else r == a
/-- one more change, behind the last sign l (0: none yet) -/
def chg (l x : Int32) : Nat := if x = 0 ∨ l = 0 ∨ x = l then 0 else 1
def nxl (l x : Int32) : Int32 := if x = 0 then l else x
/-- the changes of a list behind the last sign l, for the root a (1, -1) -/
def chs (a : Int32) : Int32 → List Int32 → Nat
  | _, [] => 0
  | l, x :: xs => chg l x + chs a (a * nxl l x) xs
/-- qs is a quotient's row by the root a, behind the sign p of the power below -/
def qot (a : Int32) : Int32 → List Int32 → List Int32 → Bool
  | p, [r], [] => inS r p 0
  | p, r :: rs, q :: qs => inS r p (-a * q) && qot a q rs qs
  | _, _, _ => false
def sgns (l : List Int32) : Prop := ∀ x ∈ l, sgn x
theorem sgns_c {x : Int32} {l : List Int32} (h : sgns (x :: l)) : sgn x ∧ sgns l := ⟨h x List.mem_cons_self, fun y hy => h y (List.mem_cons_of_mem _ hy)⟩
theorem sgns_cons {x : Int32} {l : List Int32} (h : sgn x) (h2 : sgns l) : sgns (x :: l) := fun y hy => (List.mem_cons.mp hy).elim (fun e => e ▸ h) (h2 y)
/-- the last one of a list isn't 0 -/
def lead : List Int32 → Prop
  | [] => False
  | [r] => r ≠ 0
  | _ :: rs => lead rs
theorem sgn_nxl {l x : Int32} (h : sgn l) (h2 : sgn x) : sgn (nxl l x) := by unfold nxl; split <;> assumption
set_option maxHeartbeats 4000000 in
theorem qot_step {a l p lq r q : Int32} {c_r c_q : Nat} (ha : a = 1 ∨ a = -1) (hr : sgn r) (hq : sgn q) (hp : sgn p) (hl : sgn l) (hlq : sgn lq) (h : inS r p (-a * q) = true)
    (hpl : p = a * lq ∨ p = 0) (h0 : l = 0 ↔ lq = 0) (hc : c_q + (if l = a * lq ∧ l ≠ 0 then 1 else 0) ≤ c_r) :
    (q = a * (a * nxl lq q) ∨ q = 0) ∧ (a * nxl l r = 0 ↔ a * nxl lq q = 0) ∧ (c_q + chg lq q) + (if a * nxl l r = a * (a * nxl lq q) ∧ a * nxl l r ≠ 0 then 1 else 0) ≤ c_r + chg l r := by
  rcases ha with rfl | rfl <;> rcases hr with rfl | rfl | rfl <;> rcases hq with rfl | rfl | rfl <;> rcases hp with rfl | rfl | rfl <;> rcases hl with rfl | rfl | rfl <;> rcases hlq with rfl | rfl | rfl <;>
    first | exact absurd h (by decide) | exact absurd hpl (by decide) | exact absurd h0 (by decide) | (refine ⟨by decide, by decide, ?_⟩; simp [nxl, chg] at hc ⊢; try omega)
theorem qot_end {a l p lq r : Int32} {c_r c_q : Nat} (ha : a = 1 ∨ a = -1) (hr : sgn r) (hl : sgn l) (hlq : sgn lq) (hp : sgn p) (h : inS r p 0 = true) (hr0 : r ≠ 0)
    (hpl : p = a * lq ∨ p = 0) (h0 : l = 0 ↔ lq = 0) (hc : c_q + (if l = a * lq ∧ l ≠ 0 then 1 else 0) ≤ c_r) : c_q + 1 ≤ c_r + chg l r := by
  rcases ha with rfl | rfl <;> rcases hr with rfl | rfl | rfl <;> rcases hp with rfl | rfl | rfl <;> rcases hl with rfl | rfl | rfl <;> rcases hlq with rfl | rfl | rfl <;>
    first | exact absurd h (by decide) | exact absurd hr0 (by decide) | exact absurd hpl (by decide) | exact absurd h0 (by decide) | (simp [chg] at hc ⊢; try omega)
theorem qot_le {a : Int32} (ha : a = 1 ∨ a = -1) : ∀ (rs qs : List Int32) (l p lq : Int32) (c_r c_q : Nat), sgns rs → sgns qs → sgn l → sgn p → sgn lq → lead rs → qot a p rs qs = true →
    (p = a * lq ∨ p = 0) → (l = 0 ↔ lq = 0) → c_q + (if l = a * lq ∧ l ≠ 0 then 1 else 0) ≤ c_r → c_q + chs a lq qs + 1 ≤ c_r + chs a l rs := by
  intro rs
  induction rs with
  | nil => intro qs l p lq c_r c_q _ _ _ _ _ _ h; cases qs <;> cases h
  | cons r rs ih =>
    intro qs l p lq c_r c_q h1 h2 hl hp hlq hL h hpl h0 hc
    obtain ⟨hr, hrs⟩ := sgns_c h1
    have ha1 : sgn a := by rcases ha with rfl | rfl <;> simp [sgn]
    cases qs with
    | nil =>
      cases rs with
      | nil =>
        have := qot_end ha hr hl hlq hp h hL hpl h0 hc
        simpa [chs] using this
      | cons r2 rs2 => cases h
    | cons q qs =>
      obtain ⟨hq, hqs⟩ := sgns_c h2
      have h3 : inS r p (-a * q) = true ∧ qot a q rs qs = true := by
        have h4 : (inS r p (-a * q) && qot a q rs qs) = true := by cases rs <;> exact h
        simpa using h4
      obtain ⟨s1, s2, s3⟩ := qot_step ha hr hq hp hl hlq h3.1 hpl h0 hc
      have hL2 : lead rs := by
        cases rs with
        | nil => cases qs <;> cases h3.2
        | cons _ _ => exact hL
      have := ih qs (a * nxl l r) q (a * nxl lq q) (c_r + chg l r) (c_q + chg lq q) hrs hqs (sgn_mul ha1 (sgn_nxl hl hr)) hq (sgn_mul ha1 (sgn_nxl hlq hq)) hL2 h3.2 s1 s2 s3
      simp only [chs]
      omega
/-- a quotient has fewer changes -/
theorem qot_lt {a : Int32} (ha : a = 1 ∨ a = -1) {rs qs : List Int32} (h1 : sgns rs) (h2 : sgns qs) (hL : lead rs) (h : qot a 0 rs qs = true) : chs a 0 qs + 1 ≤ chs a 0 rs := by
  have := qot_le ha rs qs 0 0 0 0 0 h1 h2 sgn_0 sgn_0 sgn_0 hL h (Or.inr rfl) Iff.rfl (by simp)
  omega
theorem qot_ex2 {a : Int32} (ha : a = 1 ∨ a = -1) : ∀ (rs : List Int32) (l : Int32), sgns rs → sgn l → l ≠ 0 → lead rs → chs a l rs = 0 → ∃ qs, sgns qs ∧ qot a l rs qs = true ∧ chs a (a * l) qs = 0 := by
  intro rs
  have ha1 : sgn a := by rcases ha with rfl | rfl <;> simp [sgn]
  induction rs with
  | nil => intro l _ _ _ h; cases h
  | cons r rs ih =>
    intro l h1 hl hl0 hL h
    obtain ⟨hr, hrs⟩ := sgns_c h1
    simp only [chs] at h
    have hg : chg l r = 0 := by omega
    have hn : nxl l r = l := by
      unfold chg at hg; unfold nxl
      split
      · rfl
      · next hr0 =>
        split at hg
        · next h5 => rcases h5 with h5 | h5 | h5
                     · exact absurd h5 hr0
                     · exact absurd h5 hl0
                     · exact h5
        · cases hg
    rw [hn] at h
    cases rs with
    | nil =>
      refine ⟨[], (fun _ h => by cases h), ?_, rfl⟩
      have hrl : r = l := by
        have : r ≠ 0 := hL
        unfold nxl at hn
        rw [if_neg this] at hn
        exact hn
      subst hrl
      rcases hl with rfl | rfl | rfl <;> first | exact absurd rfl hl0 | (show inS _ _ 0 = true; decide)
    | cons r2 rs2 =>
      obtain ⟨qs, q1, q2, q3⟩ := ih (a * l) hrs (sgn_mul ha1 hl) (by rcases ha with rfl | rfl <;> rcases hl with rfl | rfl | rfl <;> first | exact absurd rfl hl0 | decide) hL (by omega)
      refine ⟨a * l :: qs, sgns_cons (sgn_mul ha1 hl) q1, ?_, ?_⟩
      · show (inS r l (-a * (a * l)) && qot a (a * l) (r2 :: rs2) qs) = true
        rw [q2, Bool.and_true]
        rcases ha with rfl | rfl <;> rcases hl with rfl | rfl | rfl <;> rcases hr with rfl | rfl | rfl <;> first | exact absurd rfl hl0 | decide
      · simp only [chs]
        have e1 : chg (a * l) (a * l) = 0 := by simp [chg]
        have e2 : nxl (a * l) (a * l) = a * l := by unfold nxl; split <;> rfl
        rw [e1, e2, Nat.zero_add]
        exact q3
theorem qot_ex1 {a : Int32} (ha : a = 1 ∨ a = -1) : ∀ (rs : List Int32) (l : Int32), sgns rs → sgn l → lead rs → 1 ≤ chs a l rs → ∃ qs, sgns qs ∧ qot a (-l) rs qs = true ∧ chs a (-(a * l)) qs + 1 = chs a l rs := by
  intro rs
  have ha1 : sgn a := by rcases ha with rfl | rfl <;> simp [sgn]
  induction rs with
  | nil => intro l _ _ h; cases h
  | cons r rs ih =>
    intro l h1 hl hL h
    obtain ⟨hr, hrs⟩ := sgns_c h1
    cases rs with
    | nil =>
      have h' : 1 ≤ chg l r := by simpa [chs] using h
      have h5 : chg l r = 1 := Nat.le_antisymm (by unfold chg; split <;> decide) h'
      refine ⟨[], (fun _ h => by cases h), ?_, ?_⟩
      · rcases hl with rfl | rfl | rfl <;> rcases hr with rfl | rfl | rfl <;> first | exact absurd h5 (by decide) | (show inS _ _ 0 = true; decide)
      · simp [chs, h5]
    | cons r2 rs2 =>
      have hl' := sgn_mul ha1 (sgn_nxl hl hr)
      by_cases hc : 1 ≤ chs a (a * nxl l r) (r2 :: rs2)
      · obtain ⟨qs, q1, q2, q3⟩ := ih (a * nxl l r) hrs hl' hL hc
        refine ⟨-(a * nxl l r) :: qs, sgns_cons (sgn_neg hl') q1, ?_, ?_⟩
        · show (inS r (-l) (-a * (-(a * nxl l r))) && qot a (-(a * nxl l r)) (r2 :: rs2) qs) = true
          rw [q2, Bool.and_true]
          rcases ha with rfl | rfl <;> rcases hl with rfl | rfl | rfl <;> rcases hr with rfl | rfl | rfl <;> decide
        · rw [chs, chs]
          have e1 : chg (-(a * l)) (-(a * nxl l r)) = chg l r := by
            rcases ha with rfl | rfl <;> rcases hl with rfl | rfl | rfl <;> rcases hr with rfl | rfl | rfl <;> decide
          have e2 : a * nxl (-(a * l)) (-(a * nxl l r)) = -(a * (a * nxl l r)) := by
            rcases ha with rfl | rfl <;> rcases hl with rfl | rfl | rfl <;> rcases hr with rfl | rfl | rfl <;> decide
          rw [e1, e2]
          omega
      · have h3 : chg l r = 1 ∧ chs a (a * nxl l r) (r2 :: rs2) = 0 := by
          rw [chs] at h
          have : chg l r ≤ 1 := by unfold chg; split <;> decide
          omega
        have h4 : l ≠ 0 ∧ r = -l := by
          have := h3.1
          rcases hl with rfl | rfl | rfl <;> rcases hr with rfl | rfl | rfl <;> revert this <;> decide
        have hr0 : r ≠ 0 := by
          have := h4.1
          rw [h4.2]
          rcases hl with rfl | rfl | rfl <;> first | exact absurd rfl this | decide
        have en : nxl l r = r := by unfold nxl; rw [if_neg hr0]
        rw [en] at h3
        obtain ⟨qs, q1, q2, q3⟩ := qot_ex2 ha (r2 :: rs2) (a * r) hrs (sgn_mul ha1 hr) (by rcases ha with rfl | rfl <;> rcases hr with rfl | rfl | rfl <;> first | exact absurd rfl hr0 | decide) hL h3.2
        refine ⟨a * r :: qs, sgns_cons (sgn_mul ha1 hr) q1, ?_, ?_⟩
        · show (inS r (-l) (-a * (a * r)) && qot a (a * r) (r2 :: rs2) qs) = true
          rw [q2, Bool.and_true, h4.2]
          have := h4.1
          rcases ha with rfl | rfl <;> rcases hl with rfl | rfl | rfl <;> first | exact absurd rfl this | decide
        · rw [chs, chs, en, h3.2, h3.1]
          have e1 : chg (-(a * l)) (a * r) = 0 := by
            rw [h4.2]
            have := h4.1
            rcases ha with rfl | rfl <;> rcases hl with rfl | rfl | rfl <;> first | exact absurd rfl this | decide
          have e2 : a * nxl (-(a * l)) (a * r) = a * (a * r) := by
            rw [h4.2]
            have := h4.1
            rcases ha with rfl | rfl <;> rcases hl with rfl | rfl | rfl <;> first | exact absurd rfl this | decide
          rw [e1, e2, q3]
theorem qot_ex {a : Int32} (ha : a = 1 ∨ a = -1) {rs : List Int32} (h1 : sgns rs) (hL : lead rs) (h : 1 ≤ chs a 0 rs) : ∃ qs, sgns qs ∧ qot a 0 rs qs = true ∧ chs a 0 qs + 1 = chs a 0 rs := by
  obtain ⟨qs, q1, q2, q3⟩ := qot_ex1 ha rs 0 h1 sgn_0 hL h
  have e : -(a * 0) = 0 := by rcases ha with rfl | rfl <;> decide
  rw [e] at q3
  exact ⟨qs, q1, q2, q3⟩
/-- zeros ahead -/
def zrs : List Int32 → Nat
  | [] => 0
  | x :: xs => if x = 0 then 1 + zrs xs else 0
theorem inS_0 {r p : Int32} (h : inS r p (-0 * 0) = true) : r = p := by
  unfold inS at h
  split at h
  · next e => rw [e]; simpa using h
  · split at h
    · next e0 e => exact absurd (by rw [e]; decide) e0
    · simpa using h
theorem qot0_iff : ∀ (rs qs : List Int32) (p : Int32), qot 0 p rs qs = true ↔ rs = p :: qs := by
  intro rs
  induction rs with
  | nil => intro qs p; cases qs <;> simp [qot]
  | cons r rs ih =>
    intro qs p
    have hin : ∀ q : Int32, (inS r p (-0 * q) = true) = (inS r p 0 = true) := fun q => by
      have : (-0 : Int32) * q = 0 := by simp
      rw [this]
    have hin0 : inS r p 0 = true ↔ r = p := by
      unfold inS
      split
      · next e => rw [e]; simp
      · next e0 =>
        split
        · next e => exact absurd (by rw [e]; decide) e0
        · simp
    cases qs with
    | nil =>
      cases rs with
      | nil => simp [qot, hin0]
      | cons r2 rs2 => simp [qot]
    | cons q qs =>
      have : qot 0 p (r :: rs) (q :: qs) = (inS r p (-0 * q) && qot 0 q rs qs) := by cases rs <;> rfl
      rw [this, Bool.and_eq_true, hin, hin0, ih]
      simp
