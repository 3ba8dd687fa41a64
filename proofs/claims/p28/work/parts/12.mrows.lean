/-! ===== pure reads and writes ===== -/
def gI (ci k : Nat) (M : Mem) (a : Option Nat) : Option Int32 := a.bind fun i => if i < M.1 ∧ kd i = ci then some (mI M i k) else none
def gJ (ci k : Nat) (M : Mem) (a : Option Nat) : Option Int64 := a.bind fun i => if i < M.1 ∧ kd i = ci then some (mJ M i k) else none
def gR (ci k : Nat) (M : Mem) (a : Option Nat) : Option (Option Nat) := a.bind fun i => if i < M.1 ∧ kd i = ci then some (mR M i k) else none
def pI (ci k : Nat) (M : Mem) (a : Option Nat) (v : Int32) : Option Mem := a.bind fun i => if i < M.1 ∧ kd i = ci then some (sI M i k v) else none
def pJ (ci k : Nat) (M : Mem) (a : Option Nat) (v : Int64) : Option Mem := a.bind fun i => if i < M.1 ∧ kd i = ci then some (sJ M i k v) else none
def pR (ci k : Nat) (M : Mem) (a : Option Nat) (v : Option Nat) : Option Mem := a.bind fun i => if i < M.1 ∧ kd i = ci then some (sR M i k v) else none
def inR (x : Int32) (n : Nat) : Prop := ¬ x < 0 ∧ x.toNatClampNeg < n
def inRb (x : Int32) (n : Nat) : Bool := decide (¬ x < 0) && decide (x.toNatClampNeg < n)
theorem inRb_vp {x : Int32} {n : Nat} (h : inRb x n = true) : vp_in x n := by
  simp only [inRb, Bool.and_eq_true, decide_eq_true_eq] at h
  exact fun q => q.elim h.1 (fun r => absurd h.2 (Nat.not_lt.mpr r))
def aI (M : Mem) (a : Option Nat) (x : Int32) : Option Int32 := a.bind fun i => if i < M.1 ∧ kd i = 4 ∧ inRb x (ln i) = true then some (mI M i x.toNatClampNeg) else none
def aJ (M : Mem) (a : Option Nat) (x : Int32) : Option Int64 := a.bind fun i => if i < M.1 ∧ kd i = 5 ∧ inRb x (ln i) = true then some (mJ M i x.toNatClampNeg) else none
def aZ (M : Mem) (a : Option Nat) (x : Int32) : Option Int32 := a.bind fun i => if i < M.1 ∧ kd i = 6 ∧ inRb x (ln i) = true then some (mI M i x.toNatClampNeg) else none
def aD (M : Mem) (a : Option Nat) (x : Int32) : Option UInt64 := a.bind fun i => if i < M.1 ∧ kd i = 10 ∧ inRb x (ln i) = true then some (mD M i x.toNatClampNeg) else none
def aR (kk : Nat) (M : Mem) (a : Option Nat) (x : Int32) : Option (Option Nat) := a.bind fun i => if i < M.1 ∧ kd i = kk ∧ inRb x (ln i) = true then some (mR M i x.toNatClampNeg) else none
def wI (M : Mem) (a : Option Nat) (x : Int32) (v : Int32) : Option Mem := a.bind fun i => if i < M.1 ∧ kd i = 4 ∧ inRb x (ln i) = true then some (sI M i x.toNatClampNeg v) else none
def wJ (M : Mem) (a : Option Nat) (x : Int32) (v : Int64) : Option Mem := a.bind fun i => if i < M.1 ∧ kd i = 5 ∧ inRb x (ln i) = true then some (sJ M i x.toNatClampNeg v) else none
def wZ (M : Mem) (a : Option Nat) (x : Int32) (v : Int32) : Option Mem := a.bind fun i => if i < M.1 ∧ kd i = 6 ∧ inRb x (ln i) = true ∧ v = 1 then some (sI M i x.toNatClampNeg v) else none
def wD (M : Mem) (a : Option Nat) (x : Int32) (v : UInt64) : Option Mem := a.bind fun i => if i < M.1 ∧ kd i = 10 ∧ inRb x (ln i) = true then some (sD M i x.toNatClampNeg v) else none
def wR (kk kv : Nat) (M : Mem) (a : Option Nat) (x : Int32) (v : Option Nat) : Option Mem := a.bind fun i => v.bind fun j => if i < M.1 ∧ kd i = kk ∧ inRb x (ln i) = true ∧ j < M.1 ∧ kd j = kv then some (sR M i x.toNatClampNeg (some j)) else none
def aL (M : Mem) (a : Option Nat) : Option Int32 := a.bind fun i => if i < M.1 ∧ 4 ≤ kd i ∧ kd i ≤ 9 then some (Int32.ofNat (ln i)) else none
def sRow (M : Mem) (a : Nat) (f : Nat → Int32) : Mem := (M.1, (fun b j => if b = a then f j else mI M b j), mJ M, mR M, mD M)
def cpI (M : Mem) (a : Option Nat) (sp : Int32) (b : Option Nat) (dp n : Int32) : Option Mem := a.bind fun i => b.bind fun j =>
  if (i < M.1 ∧ kd i = 4 ∧ j < M.1 ∧ kd j = 4) ∧ (¬ sp < 0 ∧ ¬ dp < 0 ∧ ¬ n < 0) ∧ sp.toNatClampNeg + n.toNatClampNeg ≤ ln i ∧ dp.toNatClampNeg + n.toNatClampNeg ≤ ln j then some (sRow M j (va_cpy (mI M i) (mI M j) sp.toNatClampNeg dp.toNatClampNeg n.toNatClampNeg)) else none
theorem bnd {α β : Type} {o : Option α} {f : α → Option β} {r : β} (h : o.bind f = some r) : ∃ v, o = some v ∧ f v = some r := Option.bind_eq_some_iff.mp h
theorem pool_D {G : Geo} {ad : Nat → Nat} {M : Mem} {H : Heap} {A : Nat → Prop} (h : Wd G ad M H) (hA : ∀ i, i < M.1 → A (ad i)) : va_D A (pool G ad M) := by
  have key : ∀ (k : Nat) (q : Nat × va_E), (pool G ad M)[k]? = some q → k < M.1 ∧ q.1 = ad k := by
    intro k q hq
    by_cases hk : k < M.1
    · rw [pool_at hk] at hq
      cases hq
      exact ⟨hk, rfl⟩
    · simp [pool, hk] at hq
  refine ⟨fun i j x y hi hj e => ?_, fun k q hk => ?_⟩
  · obtain ⟨i1, i2⟩ := key i x hi
    obtain ⟨j1, j2⟩ := key j y hj
    exact h.2.1 i j i1 j1 (by rw [← i2, ← j2]; exact e)
  · obtain ⟨k1, k2⟩ := key k q hk
    rw [k2]
    exact hA k k1
theorem ent_sRow_ne {G : Geo} {ad : Nat → Nat} {M : Mem} {a : Nat} {f : Nat → Int32} {j : Nat} (h : j ≠ a) : ent G ad (sRow M a f) j = ent G ad M j := by
  have e2 : mI (sRow M a f) j = mI M j := funext fun q => by show (if j = a then _ else _) = _; rw [if_neg h]
  simp only [ent, e2, show mR (sRow M a f) = mR M from rfl, show mJ (sRow M a f) = mJ M from rfl, show mD (sRow M a f) = mD M from rfl]
theorem wf_sR {M : Mem} {i k : Nat} {v : Option Nat} (h : wfM M) (hv : Vok M.1 (rf v)) : wfM (sR M i k v) := fun a q j ha e => by
  have e : up2 (mR M) i k v a q = some j := e
  unfold up2 at e
  split at e
  · subst e; exact hv j rfl
  · exact h a q j ha e
theorem up2_self {α : Type} (f : Nat → Nat → α) (a k : Nat) (v : α) (j : Nat) : up2 f a k v a j = if j = k then v else f a j := by simp [up2]
def isInit (C : JC) : Prop := match C with
  | (p, l, e, R, s, m, args, below, meth, c, H0, A, Q, nL0, G, ad0, n0) => meth.name = "<init>"
theorem w_acn : Cond.native arraycopyName ∈ BIG := by decide +kernel
theorem w_acs : Cond.static arraycopyName ∈ BIG := by decide +kernel
theorem w_aci : Cond.initialized "java/lang/System" ∈ BIG := by decide +kernel
theorem inB0 : ∀ w ∈ wsX00, w ∈ BIG := by decide +kernel
theorem inB1 : ∀ w ∈ wsX10, w ∈ BIG := by decide +kernel
theorem inB2 : ∀ w ∈ wsX20, w ∈ BIG := by decide +kernel
theorem inB11 : ∀ w ∈ wsXT0, w ∈ BIG := by decide +kernel
theorem ent_0 {G : Geo} {ad : Nat → Nat} {M : Mem} {i : Nat} (h : kd i = 0) : ent G ad M i = .inr (0, [re ad (mR M i 0), re ad (mR M i 1), re ad (mR M i 2), .int (mI M i 3), .int (mI M i 4), .int (mI M i 5)]) := by simp [ent, h]
theorem ent_1 {G : Geo} {ad : Nat → Nat} {M : Mem} {i : Nat} (h : kd i = 1) : ent G ad M i = .inr (1, [re ad (mR M i 0), re ad (mR M i 1), .int (mI M i 2), .int (mI M i 3), .int (mI M i 4)]) := by simp [ent, h]
theorem ent_2 {G : Geo} {ad : Nat → Nat} {M : Mem} {i : Nat} (h : kd i = 2) : ent G ad M i = .inr (2, [re ad (mR M i 0), re ad (mR M i 1), .int (mI M i 2), re ad (mR M i 3), re ad (mR M i 4), re ad (mR M i 5), .int (mI M i 6), re ad (mR M i 7), re ad (mR M i 8), re ad (mR M i 9)]) := by simp [ent, h]
theorem ent_11 {G : Geo} {ad : Nat → Nat} {M : Mem} {i : Nat} (h : kd i = 11) : ent G ad M i = .inr (3, [re ad (mR M i 0)]) := by simp [ent, h]
theorem ent_4 {G : Geo} {ad : Nat → Nat} {M : Mem} {i : Nat} (h : kd i = 4) : ent G ad M i = .inl (G.2 0, ln i, .inl (mI M i)) := by simp [ent, h]
theorem ent_5 {G : Geo} {ad : Nat → Nat} {M : Mem} {i : Nat} (h : kd i = 5) : ent G ad M i = .inl (G.2 1, ln i, .inr (.inl (mJ M i))) := by simp [ent, h]
theorem ent_6 {G : Geo} {ad : Nat → Nat} {M : Mem} {i : Nat} (h : kd i = 6) : ent G ad M i = .inl (G.2 2, ln i, .inl (mI M i)) := by simp [ent, h]
theorem ent_7 {G : Geo} {ad : Nat → Nat} {M : Mem} {i : Nat} (h : kd i = 7) : ent G ad M i = .inl (G.2 3, ln i, .inr (.inr (.inr (.inr (fun k => (mR M i k).map ad))))) := by simp [ent, h]
theorem ent_8 {G : Geo} {ad : Nat → Nat} {M : Mem} {i : Nat} (h : kd i = 8) : ent G ad M i = .inl (G.2 4, ln i, .inr (.inr (.inr (.inr (fun k => (mR M i k).map ad))))) := by simp [ent, h]
theorem ent_9 {G : Geo} {ad : Nat → Nat} {M : Mem} {i : Nat} (h : kd i = 9) : ent G ad M i = .inl (G.2 5, ln i, .inr (.inr (.inr (.inr (fun k => (mR M i k).map ad))))) := by simp [ent, h]
theorem ent_10 {G : Geo} {ad : Nat → Nat} {M : Mem} {i : Nat} (h : kd i = 10) : ent G ad M i = .inl (G.2 6, ln i, .inr (.inr (.inr (.inl (mD M i))))) := by simp [ent, h]
theorem J_g0_0 {C : JC} {x : Bool} {cc : ByteArray} {nL : Nat} {rm : Room} {rt : Option FieldType} {own : String} {res : Res} {ce sl : Nat} {M : Mem} {pc : Nat} {lv : List (Nat × Value)} {st : List Value} {β : Type} {r0 : β} {f : Option Nat → Option β} {index : Nat} {a : Option Nat} (hC : Ok C x cc nL rm rt own res) (hw : Cond.fieldLink own index RX0 (TX0 0).2.1 (TX0 0).2.2.1 ∈ BIG) (hdg : decode cc pc = .ok (.getfield index, 3)) (h : (gR 0 0 M a).bind f = some r0)
    (kk : ∀ v, gR 0 0 M a = some v → f v = some r0 → J C ce sl M (pc + 3) lv (rf v :: st)) : J C ce sl M pc lv (rf a :: st) := by
  obtain ⟨v, hv, hf⟩ := bnd h
  have kk := kk v hv hf
  obtain ⟨i, rfl, hv2⟩ := bnd hv
  split at hv2
  case isFalse => cases hv2
  case isTrue hi =>
  cases hv2
  obtain ⟨p, l, e, R, s, m, args, below, meth, c, H0, A, Q, nL0, G, ad0, n0⟩ := C
  obtain ⟨hx, hb, hml, hnl, hown, hts, hKK, hH0, hA, hlk, hrt, hR, hQ, hxt⟩ := hC
  intro ad H locs ls hW hAa hag hn hvl hvs hS hl
  have he := pool_at (G := G) (ad := ad) hi.1
  rw [ent_0 hi.2] at he
  have k2 := kk ad H locs ls hW hAa hag hn hvl (vs_c (Vok_rf (fun j e => hW.2.2 _ _ j hi.1 e)) (vs_t hvs)) hS hl
  rw [List.map_cons, phys_rf] at k2
  exact va_get (D := G.1) (ci := 0) (C := RX0) (T := TX0) (N := 6) hx hb hts inB0 hown hKK.1.1 hW.1 i he rfl 0 (by decide) (hts _ hw) (fun _ h9 => h9) rfl hdg k2
theorem J_p0_0 {C : JC} {x : Bool} {cc : ByteArray} {nL : Nat} {rm : Room} {rt : Option FieldType} {own : String} {res : Res} {ce sl : Nat} {M : Mem} {pc : Nat} {lv : List (Nat × Value)} {st : List Value} {β : Type} {r0 : β} {f : Mem → Option β} {index : Nat} {a : Option Nat} {v : Option Nat} (hC : Ok C x cc nL rm rt own res) (hin : isInit C) (hdc : (TX0 0).1 = own) (hw : Cond.fieldLink own index RX0 (TX0 0).2.1 (TX0 0).2.2.1 ∈ BIG) (hdg : decode cc pc = .ok (.putfield index, 3)) (h : (pR 0 0 M a v).bind f = some r0)
    (kk : ∀ M', pR 0 0 M a v = some M' → f M' = some r0 → J C ce sl M' (pc + 3) lv st) : J C ce sl M pc lv (rf v :: rf a :: st) := by
  obtain ⟨M', hv, hf⟩ := bnd h
  have kk := kk M' hv hf
  obtain ⟨i, rfl, hv2⟩ := bnd hv
  split at hv2
  case isFalse => cases hv2
  case isTrue hi =>
  cases hv2
  obtain ⟨p, l, e, R, s, m, args, below, meth, c, H0, A, Q, nL0, G, ad0, n0⟩ := C
  obtain ⟨hx, hb, hml, hnl, hown, hts, hKK, hH0, hA, hlk, hrt, hR, hQ, hxt⟩ := hC
  intro ad H locs ls hW hAa hag hn hvl hvs hS hl
  have he := pool_at (G := G) (ad := ad) hi.1
  rw [ent_0 hi.2] at he
  have hD := pool_D hW hAa
  have e2 : (pool G ad M).set i (ad i, .inr (0, [re ad v, re ad (mR M i 1), re ad (mR M i 2), .int (mI M i 3), .int (mI M i 4), .int (mI M i 5)])) = pool G ad (sR M i 0 v) := pool_set rfl hi.1 (by rw [ent_0 hi.2]; simp [sR, mI, mJ, mR, up2]) (fun j hj => ent_sR_ne hj)
  have e3 : phys ad (rf v) = re ad v := phys_rf ad v
  rw [List.map_cons, e3]
  skip
  exact va_putF (D := G.1) (ci := 0) (C := RX0) (T := TX0) (N := 6) (ty := tyX0 0) (v := re ad v) hx hb hts inB0 tyX0 tyX0_ok nmX0 hown hKK.1.1 hW.1 hD hS i he rfl 0 (by decide) (hts _ hw) (fun _ h9 => h9) rfl hin hdc (by decide +kernel) (by cases v <;> rfl) (by cases v <;> rfl) (Nat.le_of_ble_eq_true rfl) hdg (fun H1 locs1 hP1 hD1 hS1 => kk ad H1 locs1 ls ⟨by rw [← e2]; exact hP1, hW.2.1, wf_sR hW.2.2 (vs_h hvs)⟩ hAa hag hn hvl (vs_t (vs_t hvs)) hS1 hl)
theorem J_g0_1 {C : JC} {x : Bool} {cc : ByteArray} {nL : Nat} {rm : Room} {rt : Option FieldType} {own : String} {res : Res} {ce sl : Nat} {M : Mem} {pc : Nat} {lv : List (Nat × Value)} {st : List Value} {β : Type} {r0 : β} {f : Option Nat → Option β} {index : Nat} {a : Option Nat} (hC : Ok C x cc nL rm rt own res) (hw : Cond.fieldLink own index RX0 (TX0 1).2.1 (TX0 1).2.2.1 ∈ BIG) (hdg : decode cc pc = .ok (.getfield index, 3)) (h : (gR 0 1 M a).bind f = some r0)
    (kk : ∀ v, gR 0 1 M a = some v → f v = some r0 → J C ce sl M (pc + 3) lv (rf v :: st)) : J C ce sl M pc lv (rf a :: st) := by
  obtain ⟨v, hv, hf⟩ := bnd h
  have kk := kk v hv hf
  obtain ⟨i, rfl, hv2⟩ := bnd hv
  split at hv2
  case isFalse => cases hv2
  case isTrue hi =>
  cases hv2
  obtain ⟨p, l, e, R, s, m, args, below, meth, c, H0, A, Q, nL0, G, ad0, n0⟩ := C
  obtain ⟨hx, hb, hml, hnl, hown, hts, hKK, hH0, hA, hlk, hrt, hR, hQ, hxt⟩ := hC
  intro ad H locs ls hW hAa hag hn hvl hvs hS hl
  have he := pool_at (G := G) (ad := ad) hi.1
  rw [ent_0 hi.2] at he
  have k2 := kk ad H locs ls hW hAa hag hn hvl (vs_c (Vok_rf (fun j e => hW.2.2 _ _ j hi.1 e)) (vs_t hvs)) hS hl
  rw [List.map_cons, phys_rf] at k2
  exact va_get (D := G.1) (ci := 0) (C := RX0) (T := TX0) (N := 6) hx hb hts inB0 hown hKK.1.1 hW.1 i he rfl 1 (by decide) (hts _ hw) (fun _ h9 => h9) rfl hdg k2
theorem J_p0_1 {C : JC} {x : Bool} {cc : ByteArray} {nL : Nat} {rm : Room} {rt : Option FieldType} {own : String} {res : Res} {ce sl : Nat} {M : Mem} {pc : Nat} {lv : List (Nat × Value)} {st : List Value} {β : Type} {r0 : β} {f : Mem → Option β} {index : Nat} {a : Option Nat} {v : Option Nat} (hC : Ok C x cc nL rm rt own res) (hin : isInit C) (hdc : (TX0 1).1 = own) (hw : Cond.fieldLink own index RX0 (TX0 1).2.1 (TX0 1).2.2.1 ∈ BIG) (hdg : decode cc pc = .ok (.putfield index, 3)) (h : (pR 0 1 M a v).bind f = some r0)
    (kk : ∀ M', pR 0 1 M a v = some M' → f M' = some r0 → J C ce sl M' (pc + 3) lv st) : J C ce sl M pc lv (rf v :: rf a :: st) := by
  obtain ⟨M', hv, hf⟩ := bnd h
  have kk := kk M' hv hf
  obtain ⟨i, rfl, hv2⟩ := bnd hv
  split at hv2
  case isFalse => cases hv2
  case isTrue hi =>
  cases hv2
  obtain ⟨p, l, e, R, s, m, args, below, meth, c, H0, A, Q, nL0, G, ad0, n0⟩ := C
  obtain ⟨hx, hb, hml, hnl, hown, hts, hKK, hH0, hA, hlk, hrt, hR, hQ, hxt⟩ := hC
  intro ad H locs ls hW hAa hag hn hvl hvs hS hl
  have he := pool_at (G := G) (ad := ad) hi.1
  rw [ent_0 hi.2] at he
  have hD := pool_D hW hAa
  have e2 : (pool G ad M).set i (ad i, .inr (0, [re ad (mR M i 0), re ad v, re ad (mR M i 2), .int (mI M i 3), .int (mI M i 4), .int (mI M i 5)])) = pool G ad (sR M i 1 v) := pool_set rfl hi.1 (by rw [ent_0 hi.2]; simp [sR, mI, mJ, mR, up2]) (fun j hj => ent_sR_ne hj)
  have e3 : phys ad (rf v) = re ad v := phys_rf ad v
  rw [List.map_cons, e3]
  skip
  exact va_putF (D := G.1) (ci := 0) (C := RX0) (T := TX0) (N := 6) (ty := tyX0 1) (v := re ad v) hx hb hts inB0 tyX0 tyX0_ok nmX0 hown hKK.1.1 hW.1 hD hS i he rfl 1 (by decide) (hts _ hw) (fun _ h9 => h9) rfl hin hdc (by decide +kernel) (by cases v <;> rfl) (by cases v <;> rfl) (Nat.le_of_ble_eq_true rfl) hdg (fun H1 locs1 hP1 hD1 hS1 => kk ad H1 locs1 ls ⟨by rw [← e2]; exact hP1, hW.2.1, wf_sR hW.2.2 (vs_h hvs)⟩ hAa hag hn hvl (vs_t (vs_t hvs)) hS1 hl)
theorem J_g0_2 {C : JC} {x : Bool} {cc : ByteArray} {nL : Nat} {rm : Room} {rt : Option FieldType} {own : String} {res : Res} {ce sl : Nat} {M : Mem} {pc : Nat} {lv : List (Nat × Value)} {st : List Value} {β : Type} {r0 : β} {f : Option Nat → Option β} {index : Nat} {a : Option Nat} (hC : Ok C x cc nL rm rt own res) (hw : Cond.fieldLink own index RX0 (TX0 2).2.1 (TX0 2).2.2.1 ∈ BIG) (hdg : decode cc pc = .ok (.getfield index, 3)) (h : (gR 0 2 M a).bind f = some r0)
    (kk : ∀ v, gR 0 2 M a = some v → f v = some r0 → J C ce sl M (pc + 3) lv (rf v :: st)) : J C ce sl M pc lv (rf a :: st) := by
  obtain ⟨v, hv, hf⟩ := bnd h
  have kk := kk v hv hf
  obtain ⟨i, rfl, hv2⟩ := bnd hv
  split at hv2
  case isFalse => cases hv2
  case isTrue hi =>
  cases hv2
  obtain ⟨p, l, e, R, s, m, args, below, meth, c, H0, A, Q, nL0, G, ad0, n0⟩ := C
  obtain ⟨hx, hb, hml, hnl, hown, hts, hKK, hH0, hA, hlk, hrt, hR, hQ, hxt⟩ := hC
  intro ad H locs ls hW hAa hag hn hvl hvs hS hl
  have he := pool_at (G := G) (ad := ad) hi.1
  rw [ent_0 hi.2] at he
  have k2 := kk ad H locs ls hW hAa hag hn hvl (vs_c (Vok_rf (fun j e => hW.2.2 _ _ j hi.1 e)) (vs_t hvs)) hS hl
  rw [List.map_cons, phys_rf] at k2
  exact va_get (D := G.1) (ci := 0) (C := RX0) (T := TX0) (N := 6) hx hb hts inB0 hown hKK.1.1 hW.1 i he rfl 2 (by decide) (hts _ hw) (fun _ h9 => h9) rfl hdg k2
theorem J_p0_2 {C : JC} {x : Bool} {cc : ByteArray} {nL : Nat} {rm : Room} {rt : Option FieldType} {own : String} {res : Res} {ce sl : Nat} {M : Mem} {pc : Nat} {lv : List (Nat × Value)} {st : List Value} {β : Type} {r0 : β} {f : Mem → Option β} {index : Nat} {a : Option Nat} {v : Option Nat} (hC : Ok C x cc nL rm rt own res) (hin : isInit C) (hdc : (TX0 2).1 = own) (hw : Cond.fieldLink own index RX0 (TX0 2).2.1 (TX0 2).2.2.1 ∈ BIG) (hdg : decode cc pc = .ok (.putfield index, 3)) (h : (pR 0 2 M a v).bind f = some r0)
    (kk : ∀ M', pR 0 2 M a v = some M' → f M' = some r0 → J C ce sl M' (pc + 3) lv st) : J C ce sl M pc lv (rf v :: rf a :: st) := by
  obtain ⟨M', hv, hf⟩ := bnd h
  have kk := kk M' hv hf
  obtain ⟨i, rfl, hv2⟩ := bnd hv
  split at hv2
  case isFalse => cases hv2
  case isTrue hi =>
  cases hv2
  obtain ⟨p, l, e, R, s, m, args, below, meth, c, H0, A, Q, nL0, G, ad0, n0⟩ := C
  obtain ⟨hx, hb, hml, hnl, hown, hts, hKK, hH0, hA, hlk, hrt, hR, hQ, hxt⟩ := hC
  intro ad H locs ls hW hAa hag hn hvl hvs hS hl
  have he := pool_at (G := G) (ad := ad) hi.1
  rw [ent_0 hi.2] at he
  have hD := pool_D hW hAa
  have e2 : (pool G ad M).set i (ad i, .inr (0, [re ad (mR M i 0), re ad (mR M i 1), re ad v, .int (mI M i 3), .int (mI M i 4), .int (mI M i 5)])) = pool G ad (sR M i 2 v) := pool_set rfl hi.1 (by rw [ent_0 hi.2]; simp [sR, mI, mJ, mR, up2]) (fun j hj => ent_sR_ne hj)
  have e3 : phys ad (rf v) = re ad v := phys_rf ad v
  rw [List.map_cons, e3]
  skip
  exact va_putF (D := G.1) (ci := 0) (C := RX0) (T := TX0) (N := 6) (ty := tyX0 2) (v := re ad v) hx hb hts inB0 tyX0 tyX0_ok nmX0 hown hKK.1.1 hW.1 hD hS i he rfl 2 (by decide) (hts _ hw) (fun _ h9 => h9) rfl hin hdc (by decide +kernel) (by cases v <;> rfl) (by cases v <;> rfl) (Nat.le_of_ble_eq_true rfl) hdg (fun H1 locs1 hP1 hD1 hS1 => kk ad H1 locs1 ls ⟨by rw [← e2]; exact hP1, hW.2.1, wf_sR hW.2.2 (vs_h hvs)⟩ hAa hag hn hvl (vs_t (vs_t hvs)) hS1 hl)
theorem J_g0_3 {C : JC} {x : Bool} {cc : ByteArray} {nL : Nat} {rm : Room} {rt : Option FieldType} {own : String} {res : Res} {ce sl : Nat} {M : Mem} {pc : Nat} {lv : List (Nat × Value)} {st : List Value} {β : Type} {r0 : β} {f : Int32 → Option β} {index : Nat} {a : Option Nat} (hC : Ok C x cc nL rm rt own res) (hw : Cond.fieldLink own index RX0 (TX0 3).2.1 (TX0 3).2.2.1 ∈ BIG) (hdg : decode cc pc = .ok (.getfield index, 3)) (h : (gI 0 3 M a).bind f = some r0)
    (kk : ∀ v, gI 0 3 M a = some v → f v = some r0 → J C ce sl M (pc + 3) lv (.int v :: st)) : J C ce sl M pc lv (rf a :: st) := by
  obtain ⟨v, hv, hf⟩ := bnd h
  have kk := kk v hv hf
  obtain ⟨i, rfl, hv2⟩ := bnd hv
  split at hv2
  case isFalse => cases hv2
  case isTrue hi =>
  cases hv2
  obtain ⟨p, l, e, R, s, m, args, below, meth, c, H0, A, Q, nL0, G, ad0, n0⟩ := C
  obtain ⟨hx, hb, hml, hnl, hown, hts, hKK, hH0, hA, hlk, hrt, hR, hQ, hxt⟩ := hC
  intro ad H locs ls hW hAa hag hn hvl hvs hS hl
  have he := pool_at (G := G) (ad := ad) hi.1
  rw [ent_0 hi.2] at he
  have k2 := kk ad H locs ls hW hAa hag hn hvl (vs_c Vok_int (vs_t hvs)) hS hl
  skip
  exact va_get (D := G.1) (ci := 0) (C := RX0) (T := TX0) (N := 6) hx hb hts inB0 hown hKK.1.1 hW.1 i he rfl 3 (by decide) (hts _ hw) (fun _ h9 => h9) rfl hdg k2
theorem J_p0_3 {C : JC} {x : Bool} {cc : ByteArray} {nL : Nat} {rm : Room} {rt : Option FieldType} {own : String} {res : Res} {ce sl : Nat} {M : Mem} {pc : Nat} {lv : List (Nat × Value)} {st : List Value} {β : Type} {r0 : β} {f : Mem → Option β} {index : Nat} {a : Option Nat} {v : Int32} (hC : Ok C x cc nL rm rt own res) (hw : Cond.fieldLink own index RX0 (TX0 3).2.1 (TX0 3).2.2.1 ∈ BIG) (hdg : decode cc pc = .ok (.putfield index, 3)) (h : (pI 0 3 M a v).bind f = some r0)
    (kk : ∀ M', pI 0 3 M a v = some M' → f M' = some r0 → J C ce sl M' (pc + 3) lv st) : J C ce sl M pc lv (.int v :: rf a :: st) := by
  obtain ⟨M', hv, hf⟩ := bnd h
  have kk := kk M' hv hf
  obtain ⟨i, rfl, hv2⟩ := bnd hv
  split at hv2
  case isFalse => cases hv2
  case isTrue hi =>
  cases hv2
  obtain ⟨p, l, e, R, s, m, args, below, meth, c, H0, A, Q, nL0, G, ad0, n0⟩ := C
  obtain ⟨hx, hb, hml, hnl, hown, hts, hKK, hH0, hA, hlk, hrt, hR, hQ, hxt⟩ := hC
  intro ad H locs ls hW hAa hag hn hvl hvs hS hl
  have he := pool_at (G := G) (ad := ad) hi.1
  rw [ent_0 hi.2] at he
  have hD := pool_D hW hAa
  have e2 : (pool G ad M).set i (ad i, .inr (0, [re ad (mR M i 0), re ad (mR M i 1), re ad (mR M i 2), .int v, .int (mI M i 4), .int (mI M i 5)])) = pool G ad (sI M i 3 v) := pool_set rfl hi.1 (by rw [ent_0 hi.2]; simp [sI, mI, mJ, mR, up2]) (fun j hj => ent_sI_ne hj)
  skip
  skip
  skip
  exact va_put (D := G.1) (ci := 0) (C := RX0) (T := TX0) (N := 6) (ty := tyX0 3) (v := .int v) hx hb hts inB0 tyX0 tyX0_ok nmX0 hown hKK.1.1 hW.1 hD hS i he rfl 3 (by decide) (hts _ hw) (fun _ h9 => h9) rfl (by decide +kernel) rfl rfl (Nat.le_of_ble_eq_true rfl) hdg (fun H1 locs1 hP1 hD1 hS1 => kk ad H1 locs1 ls ⟨by rw [← e2]; exact hP1, hW.2.1, hW.2.2⟩ hAa hag hn hvl (vs_t (vs_t hvs)) hS1 hl)
theorem J_g0_4 {C : JC} {x : Bool} {cc : ByteArray} {nL : Nat} {rm : Room} {rt : Option FieldType} {own : String} {res : Res} {ce sl : Nat} {M : Mem} {pc : Nat} {lv : List (Nat × Value)} {st : List Value} {β : Type} {r0 : β} {f : Int32 → Option β} {index : Nat} {a : Option Nat} (hC : Ok C x cc nL rm rt own res) (hw : Cond.fieldLink own index RX0 (TX0 4).2.1 (TX0 4).2.2.1 ∈ BIG) (hdg : decode cc pc = .ok (.getfield index, 3)) (h : (gI 0 4 M a).bind f = some r0)
    (kk : ∀ v, gI 0 4 M a = some v → f v = some r0 → J C ce sl M (pc + 3) lv (.int v :: st)) : J C ce sl M pc lv (rf a :: st) := by
  obtain ⟨v, hv, hf⟩ := bnd h
  have kk := kk v hv hf
  obtain ⟨i, rfl, hv2⟩ := bnd hv
  split at hv2
  case isFalse => cases hv2
  case isTrue hi =>
  cases hv2
  obtain ⟨p, l, e, R, s, m, args, below, meth, c, H0, A, Q, nL0, G, ad0, n0⟩ := C
  obtain ⟨hx, hb, hml, hnl, hown, hts, hKK, hH0, hA, hlk, hrt, hR, hQ, hxt⟩ := hC
  intro ad H locs ls hW hAa hag hn hvl hvs hS hl
  have he := pool_at (G := G) (ad := ad) hi.1
  rw [ent_0 hi.2] at he
  have k2 := kk ad H locs ls hW hAa hag hn hvl (vs_c Vok_int (vs_t hvs)) hS hl
  skip
  exact va_get (D := G.1) (ci := 0) (C := RX0) (T := TX0) (N := 6) hx hb hts inB0 hown hKK.1.1 hW.1 i he rfl 4 (by decide) (hts _ hw) (fun _ h9 => h9) rfl hdg k2
theorem J_p0_4 {C : JC} {x : Bool} {cc : ByteArray} {nL : Nat} {rm : Room} {rt : Option FieldType} {own : String} {res : Res} {ce sl : Nat} {M : Mem} {pc : Nat} {lv : List (Nat × Value)} {st : List Value} {β : Type} {r0 : β} {f : Mem → Option β} {index : Nat} {a : Option Nat} {v : Int32} (hC : Ok C x cc nL rm rt own res) (hw : Cond.fieldLink own index RX0 (TX0 4).2.1 (TX0 4).2.2.1 ∈ BIG) (hdg : decode cc pc = .ok (.putfield index, 3)) (h : (pI 0 4 M a v).bind f = some r0)
    (kk : ∀ M', pI 0 4 M a v = some M' → f M' = some r0 → J C ce sl M' (pc + 3) lv st) : J C ce sl M pc lv (.int v :: rf a :: st) := by
  obtain ⟨M', hv, hf⟩ := bnd h
  have kk := kk M' hv hf
  obtain ⟨i, rfl, hv2⟩ := bnd hv
  split at hv2
  case isFalse => cases hv2
  case isTrue hi =>
  cases hv2
  obtain ⟨p, l, e, R, s, m, args, below, meth, c, H0, A, Q, nL0, G, ad0, n0⟩ := C
  obtain ⟨hx, hb, hml, hnl, hown, hts, hKK, hH0, hA, hlk, hrt, hR, hQ, hxt⟩ := hC
  intro ad H locs ls hW hAa hag hn hvl hvs hS hl
  have he := pool_at (G := G) (ad := ad) hi.1
  rw [ent_0 hi.2] at he
  have hD := pool_D hW hAa
  have e2 : (pool G ad M).set i (ad i, .inr (0, [re ad (mR M i 0), re ad (mR M i 1), re ad (mR M i 2), .int (mI M i 3), .int v, .int (mI M i 5)])) = pool G ad (sI M i 4 v) := pool_set rfl hi.1 (by rw [ent_0 hi.2]; simp [sI, mI, mJ, mR, up2]) (fun j hj => ent_sI_ne hj)
  skip
  skip
  skip
  exact va_put (D := G.1) (ci := 0) (C := RX0) (T := TX0) (N := 6) (ty := tyX0 4) (v := .int v) hx hb hts inB0 tyX0 tyX0_ok nmX0 hown hKK.1.1 hW.1 hD hS i he rfl 4 (by decide) (hts _ hw) (fun _ h9 => h9) rfl (by decide +kernel) rfl rfl (Nat.le_of_ble_eq_true rfl) hdg (fun H1 locs1 hP1 hD1 hS1 => kk ad H1 locs1 ls ⟨by rw [← e2]; exact hP1, hW.2.1, hW.2.2⟩ hAa hag hn hvl (vs_t (vs_t hvs)) hS1 hl)
theorem J_g0_5 {C : JC} {x : Bool} {cc : ByteArray} {nL : Nat} {rm : Room} {rt : Option FieldType} {own : String} {res : Res} {ce sl : Nat} {M : Mem} {pc : Nat} {lv : List (Nat × Value)} {st : List Value} {β : Type} {r0 : β} {f : Int32 → Option β} {index : Nat} {a : Option Nat} (hC : Ok C x cc nL rm rt own res) (hw : Cond.fieldLink own index RX0 (TX0 5).2.1 (TX0 5).2.2.1 ∈ BIG) (hdg : decode cc pc = .ok (.getfield index, 3)) (h : (gI 0 5 M a).bind f = some r0)
    (kk : ∀ v, gI 0 5 M a = some v → f v = some r0 → J C ce sl M (pc + 3) lv (.int v :: st)) : J C ce sl M pc lv (rf a :: st) := by
  obtain ⟨v, hv, hf⟩ := bnd h
  have kk := kk v hv hf
  obtain ⟨i, rfl, hv2⟩ := bnd hv
  split at hv2
  case isFalse => cases hv2
  case isTrue hi =>
  cases hv2
  obtain ⟨p, l, e, R, s, m, args, below, meth, c, H0, A, Q, nL0, G, ad0, n0⟩ := C
  obtain ⟨hx, hb, hml, hnl, hown, hts, hKK, hH0, hA, hlk, hrt, hR, hQ, hxt⟩ := hC
  intro ad H locs ls hW hAa hag hn hvl hvs hS hl
  have he := pool_at (G := G) (ad := ad) hi.1
  rw [ent_0 hi.2] at he
  have k2 := kk ad H locs ls hW hAa hag hn hvl (vs_c Vok_int (vs_t hvs)) hS hl
  skip
  exact va_get (D := G.1) (ci := 0) (C := RX0) (T := TX0) (N := 6) hx hb hts inB0 hown hKK.1.1 hW.1 i he rfl 5 (by decide) (hts _ hw) (fun _ h9 => h9) rfl hdg k2
theorem J_p0_5 {C : JC} {x : Bool} {cc : ByteArray} {nL : Nat} {rm : Room} {rt : Option FieldType} {own : String} {res : Res} {ce sl : Nat} {M : Mem} {pc : Nat} {lv : List (Nat × Value)} {st : List Value} {β : Type} {r0 : β} {f : Mem → Option β} {index : Nat} {a : Option Nat} {v : Int32} (hC : Ok C x cc nL rm rt own res) (hw : Cond.fieldLink own index RX0 (TX0 5).2.1 (TX0 5).2.2.1 ∈ BIG) (hdg : decode cc pc = .ok (.putfield index, 3)) (h : (pI 0 5 M a v).bind f = some r0)
    (kk : ∀ M', pI 0 5 M a v = some M' → f M' = some r0 → J C ce sl M' (pc + 3) lv st) : J C ce sl M pc lv (.int v :: rf a :: st) := by
  obtain ⟨M', hv, hf⟩ := bnd h
  have kk := kk M' hv hf
  obtain ⟨i, rfl, hv2⟩ := bnd hv
  split at hv2
  case isFalse => cases hv2
  case isTrue hi =>
  cases hv2
  obtain ⟨p, l, e, R, s, m, args, below, meth, c, H0, A, Q, nL0, G, ad0, n0⟩ := C
  obtain ⟨hx, hb, hml, hnl, hown, hts, hKK, hH0, hA, hlk, hrt, hR, hQ, hxt⟩ := hC
  intro ad H locs ls hW hAa hag hn hvl hvs hS hl
  have he := pool_at (G := G) (ad := ad) hi.1
  rw [ent_0 hi.2] at he
  have hD := pool_D hW hAa
  have e2 : (pool G ad M).set i (ad i, .inr (0, [re ad (mR M i 0), re ad (mR M i 1), re ad (mR M i 2), .int (mI M i 3), .int (mI M i 4), .int v])) = pool G ad (sI M i 5 v) := pool_set rfl hi.1 (by rw [ent_0 hi.2]; simp [sI, mI, mJ, mR, up2]) (fun j hj => ent_sI_ne hj)
  skip
  skip
  skip
  exact va_put (D := G.1) (ci := 0) (C := RX0) (T := TX0) (N := 6) (ty := tyX0 5) (v := .int v) hx hb hts inB0 tyX0 tyX0_ok nmX0 hown hKK.1.1 hW.1 hD hS i he rfl 5 (by decide) (hts _ hw) (fun _ h9 => h9) rfl (by decide +kernel) rfl rfl (Nat.le_of_ble_eq_true rfl) hdg (fun H1 locs1 hP1 hD1 hS1 => kk ad H1 locs1 ls ⟨by rw [← e2]; exact hP1, hW.2.1, hW.2.2⟩ hAa hag hn hvl (vs_t (vs_t hvs)) hS1 hl)
theorem J_g1_0 {C : JC} {x : Bool} {cc : ByteArray} {nL : Nat} {rm : Room} {rt : Option FieldType} {own : String} {res : Res} {ce sl : Nat} {M : Mem} {pc : Nat} {lv : List (Nat × Value)} {st : List Value} {β : Type} {r0 : β} {f : Option Nat → Option β} {index : Nat} {a : Option Nat} (hC : Ok C x cc nL rm rt own res) (hw : Cond.fieldLink own index RX1 (TX1 0).2.1 (TX1 0).2.2.1 ∈ BIG) (hdg : decode cc pc = .ok (.getfield index, 3)) (h : (gR 1 0 M a).bind f = some r0)
    (kk : ∀ v, gR 1 0 M a = some v → f v = some r0 → J C ce sl M (pc + 3) lv (rf v :: st)) : J C ce sl M pc lv (rf a :: st) := by
  obtain ⟨v, hv, hf⟩ := bnd h
  have kk := kk v hv hf
  obtain ⟨i, rfl, hv2⟩ := bnd hv
  split at hv2
  case isFalse => cases hv2
  case isTrue hi =>
  cases hv2
  obtain ⟨p, l, e, R, s, m, args, below, meth, c, H0, A, Q, nL0, G, ad0, n0⟩ := C
  obtain ⟨hx, hb, hml, hnl, hown, hts, hKK, hH0, hA, hlk, hrt, hR, hQ, hxt⟩ := hC
  intro ad H locs ls hW hAa hag hn hvl hvs hS hl
  have he := pool_at (G := G) (ad := ad) hi.1
  rw [ent_1 hi.2] at he
  have k2 := kk ad H locs ls hW hAa hag hn hvl (vs_c (Vok_rf (fun j e => hW.2.2 _ _ j hi.1 e)) (vs_t hvs)) hS hl
  rw [List.map_cons, phys_rf] at k2
  exact va_get (D := G.1) (ci := 1) (C := RX1) (T := TX1) (N := 5) hx hb hts inB1 hown hKK.1.1 hW.1 i he rfl 0 (by decide) (hts _ hw) (fun _ h9 => h9) rfl hdg k2
theorem J_p1_0 {C : JC} {x : Bool} {cc : ByteArray} {nL : Nat} {rm : Room} {rt : Option FieldType} {own : String} {res : Res} {ce sl : Nat} {M : Mem} {pc : Nat} {lv : List (Nat × Value)} {st : List Value} {β : Type} {r0 : β} {f : Mem → Option β} {index : Nat} {a : Option Nat} {v : Option Nat} (hC : Ok C x cc nL rm rt own res) (hin : isInit C) (hdc : (TX1 0).1 = own) (hw : Cond.fieldLink own index RX1 (TX1 0).2.1 (TX1 0).2.2.1 ∈ BIG) (hdg : decode cc pc = .ok (.putfield index, 3)) (h : (pR 1 0 M a v).bind f = some r0)
    (kk : ∀ M', pR 1 0 M a v = some M' → f M' = some r0 → J C ce sl M' (pc + 3) lv st) : J C ce sl M pc lv (rf v :: rf a :: st) := by
  obtain ⟨M', hv, hf⟩ := bnd h
  have kk := kk M' hv hf
  obtain ⟨i, rfl, hv2⟩ := bnd hv
  split at hv2
  case isFalse => cases hv2
  case isTrue hi =>
  cases hv2
  obtain ⟨p, l, e, R, s, m, args, below, meth, c, H0, A, Q, nL0, G, ad0, n0⟩ := C
  obtain ⟨hx, hb, hml, hnl, hown, hts, hKK, hH0, hA, hlk, hrt, hR, hQ, hxt⟩ := hC
  intro ad H locs ls hW hAa hag hn hvl hvs hS hl
  have he := pool_at (G := G) (ad := ad) hi.1
  rw [ent_1 hi.2] at he
  have hD := pool_D hW hAa
  have e2 : (pool G ad M).set i (ad i, .inr (1, [re ad v, re ad (mR M i 1), .int (mI M i 2), .int (mI M i 3), .int (mI M i 4)])) = pool G ad (sR M i 0 v) := pool_set rfl hi.1 (by rw [ent_1 hi.2]; simp [sR, mI, mJ, mR, up2]) (fun j hj => ent_sR_ne hj)
  have e3 : phys ad (rf v) = re ad v := phys_rf ad v
  rw [List.map_cons, e3]
  skip
  exact va_putF (D := G.1) (ci := 1) (C := RX1) (T := TX1) (N := 5) (ty := tyX1 0) (v := re ad v) hx hb hts inB1 tyX1 tyX1_ok nmX1 hown hKK.1.1 hW.1 hD hS i he rfl 0 (by decide) (hts _ hw) (fun _ h9 => h9) rfl hin hdc (by decide +kernel) (by cases v <;> rfl) (by cases v <;> rfl) (Nat.le_of_ble_eq_true rfl) hdg (fun H1 locs1 hP1 hD1 hS1 => kk ad H1 locs1 ls ⟨by rw [← e2]; exact hP1, hW.2.1, wf_sR hW.2.2 (vs_h hvs)⟩ hAa hag hn hvl (vs_t (vs_t hvs)) hS1 hl)
theorem J_g1_1 {C : JC} {x : Bool} {cc : ByteArray} {nL : Nat} {rm : Room} {rt : Option FieldType} {own : String} {res : Res} {ce sl : Nat} {M : Mem} {pc : Nat} {lv : List (Nat × Value)} {st : List Value} {β : Type} {r0 : β} {f : Option Nat → Option β} {index : Nat} {a : Option Nat} (hC : Ok C x cc nL rm rt own res) (hw : Cond.fieldLink own index RX1 (TX1 1).2.1 (TX1 1).2.2.1 ∈ BIG) (hdg : decode cc pc = .ok (.getfield index, 3)) (h : (gR 1 1 M a).bind f = some r0)
    (kk : ∀ v, gR 1 1 M a = some v → f v = some r0 → J C ce sl M (pc + 3) lv (rf v :: st)) : J C ce sl M pc lv (rf a :: st) := by
  obtain ⟨v, hv, hf⟩ := bnd h
  have kk := kk v hv hf
  obtain ⟨i, rfl, hv2⟩ := bnd hv
  split at hv2
  case isFalse => cases hv2
  case isTrue hi =>
  cases hv2
  obtain ⟨p, l, e, R, s, m, args, below, meth, c, H0, A, Q, nL0, G, ad0, n0⟩ := C
  obtain ⟨hx, hb, hml, hnl, hown, hts, hKK, hH0, hA, hlk, hrt, hR, hQ, hxt⟩ := hC
  intro ad H locs ls hW hAa hag hn hvl hvs hS hl
  have he := pool_at (G := G) (ad := ad) hi.1
  rw [ent_1 hi.2] at he
  have k2 := kk ad H locs ls hW hAa hag hn hvl (vs_c (Vok_rf (fun j e => hW.2.2 _ _ j hi.1 e)) (vs_t hvs)) hS hl
  rw [List.map_cons, phys_rf] at k2
  exact va_get (D := G.1) (ci := 1) (C := RX1) (T := TX1) (N := 5) hx hb hts inB1 hown hKK.1.1 hW.1 i he rfl 1 (by decide) (hts _ hw) (fun _ h9 => h9) rfl hdg k2
theorem J_p1_1 {C : JC} {x : Bool} {cc : ByteArray} {nL : Nat} {rm : Room} {rt : Option FieldType} {own : String} {res : Res} {ce sl : Nat} {M : Mem} {pc : Nat} {lv : List (Nat × Value)} {st : List Value} {β : Type} {r0 : β} {f : Mem → Option β} {index : Nat} {a : Option Nat} {v : Option Nat} (hC : Ok C x cc nL rm rt own res) (hin : isInit C) (hdc : (TX1 1).1 = own) (hw : Cond.fieldLink own index RX1 (TX1 1).2.1 (TX1 1).2.2.1 ∈ BIG) (hdg : decode cc pc = .ok (.putfield index, 3)) (h : (pR 1 1 M a v).bind f = some r0)
    (kk : ∀ M', pR 1 1 M a v = some M' → f M' = some r0 → J C ce sl M' (pc + 3) lv st) : J C ce sl M pc lv (rf v :: rf a :: st) := by
  obtain ⟨M', hv, hf⟩ := bnd h
  have kk := kk M' hv hf
  obtain ⟨i, rfl, hv2⟩ := bnd hv
  split at hv2
  case isFalse => cases hv2
  case isTrue hi =>
  cases hv2
  obtain ⟨p, l, e, R, s, m, args, below, meth, c, H0, A, Q, nL0, G, ad0, n0⟩ := C
  obtain ⟨hx, hb, hml, hnl, hown, hts, hKK, hH0, hA, hlk, hrt, hR, hQ, hxt⟩ := hC
  intro ad H locs ls hW hAa hag hn hvl hvs hS hl
  have he := pool_at (G := G) (ad := ad) hi.1
  rw [ent_1 hi.2] at he
  have hD := pool_D hW hAa
  have e2 : (pool G ad M).set i (ad i, .inr (1, [re ad (mR M i 0), re ad v, .int (mI M i 2), .int (mI M i 3), .int (mI M i 4)])) = pool G ad (sR M i 1 v) := pool_set rfl hi.1 (by rw [ent_1 hi.2]; simp [sR, mI, mJ, mR, up2]) (fun j hj => ent_sR_ne hj)
  have e3 : phys ad (rf v) = re ad v := phys_rf ad v
  rw [List.map_cons, e3]
  skip
  exact va_putF (D := G.1) (ci := 1) (C := RX1) (T := TX1) (N := 5) (ty := tyX1 1) (v := re ad v) hx hb hts inB1 tyX1 tyX1_ok nmX1 hown hKK.1.1 hW.1 hD hS i he rfl 1 (by decide) (hts _ hw) (fun _ h9 => h9) rfl hin hdc (by decide +kernel) (by cases v <;> rfl) (by cases v <;> rfl) (Nat.le_of_ble_eq_true rfl) hdg (fun H1 locs1 hP1 hD1 hS1 => kk ad H1 locs1 ls ⟨by rw [← e2]; exact hP1, hW.2.1, wf_sR hW.2.2 (vs_h hvs)⟩ hAa hag hn hvl (vs_t (vs_t hvs)) hS1 hl)
theorem J_g1_2 {C : JC} {x : Bool} {cc : ByteArray} {nL : Nat} {rm : Room} {rt : Option FieldType} {own : String} {res : Res} {ce sl : Nat} {M : Mem} {pc : Nat} {lv : List (Nat × Value)} {st : List Value} {β : Type} {r0 : β} {f : Int32 → Option β} {index : Nat} {a : Option Nat} (hC : Ok C x cc nL rm rt own res) (hw : Cond.fieldLink own index RX1 (TX1 2).2.1 (TX1 2).2.2.1 ∈ BIG) (hdg : decode cc pc = .ok (.getfield index, 3)) (h : (gI 1 2 M a).bind f = some r0)
    (kk : ∀ v, gI 1 2 M a = some v → f v = some r0 → J C ce sl M (pc + 3) lv (.int v :: st)) : J C ce sl M pc lv (rf a :: st) := by
  obtain ⟨v, hv, hf⟩ := bnd h
  have kk := kk v hv hf
  obtain ⟨i, rfl, hv2⟩ := bnd hv
  split at hv2
  case isFalse => cases hv2
  case isTrue hi =>
  cases hv2
  obtain ⟨p, l, e, R, s, m, args, below, meth, c, H0, A, Q, nL0, G, ad0, n0⟩ := C
  obtain ⟨hx, hb, hml, hnl, hown, hts, hKK, hH0, hA, hlk, hrt, hR, hQ, hxt⟩ := hC
  intro ad H locs ls hW hAa hag hn hvl hvs hS hl
  have he := pool_at (G := G) (ad := ad) hi.1
  rw [ent_1 hi.2] at he
  have k2 := kk ad H locs ls hW hAa hag hn hvl (vs_c Vok_int (vs_t hvs)) hS hl
  skip
  exact va_get (D := G.1) (ci := 1) (C := RX1) (T := TX1) (N := 5) hx hb hts inB1 hown hKK.1.1 hW.1 i he rfl 2 (by decide) (hts _ hw) (fun _ h9 => h9) rfl hdg k2
theorem J_p1_2 {C : JC} {x : Bool} {cc : ByteArray} {nL : Nat} {rm : Room} {rt : Option FieldType} {own : String} {res : Res} {ce sl : Nat} {M : Mem} {pc : Nat} {lv : List (Nat × Value)} {st : List Value} {β : Type} {r0 : β} {f : Mem → Option β} {index : Nat} {a : Option Nat} {v : Int32} (hC : Ok C x cc nL rm rt own res) (hw : Cond.fieldLink own index RX1 (TX1 2).2.1 (TX1 2).2.2.1 ∈ BIG) (hdg : decode cc pc = .ok (.putfield index, 3)) (h : (pI 1 2 M a v).bind f = some r0)
    (kk : ∀ M', pI 1 2 M a v = some M' → f M' = some r0 → J C ce sl M' (pc + 3) lv st) : J C ce sl M pc lv (.int v :: rf a :: st) := by
  obtain ⟨M', hv, hf⟩ := bnd h
  have kk := kk M' hv hf
  obtain ⟨i, rfl, hv2⟩ := bnd hv
  split at hv2
  case isFalse => cases hv2
  case isTrue hi =>
  cases hv2
  obtain ⟨p, l, e, R, s, m, args, below, meth, c, H0, A, Q, nL0, G, ad0, n0⟩ := C
  obtain ⟨hx, hb, hml, hnl, hown, hts, hKK, hH0, hA, hlk, hrt, hR, hQ, hxt⟩ := hC
  intro ad H locs ls hW hAa hag hn hvl hvs hS hl
  have he := pool_at (G := G) (ad := ad) hi.1
  rw [ent_1 hi.2] at he
  have hD := pool_D hW hAa
  have e2 : (pool G ad M).set i (ad i, .inr (1, [re ad (mR M i 0), re ad (mR M i 1), .int v, .int (mI M i 3), .int (mI M i 4)])) = pool G ad (sI M i 2 v) := pool_set rfl hi.1 (by rw [ent_1 hi.2]; simp [sI, mI, mJ, mR, up2]) (fun j hj => ent_sI_ne hj)
  skip
  skip
  skip
  exact va_put (D := G.1) (ci := 1) (C := RX1) (T := TX1) (N := 5) (ty := tyX1 2) (v := .int v) hx hb hts inB1 tyX1 tyX1_ok nmX1 hown hKK.1.1 hW.1 hD hS i he rfl 2 (by decide) (hts _ hw) (fun _ h9 => h9) rfl (by decide +kernel) rfl rfl (Nat.le_of_ble_eq_true rfl) hdg (fun H1 locs1 hP1 hD1 hS1 => kk ad H1 locs1 ls ⟨by rw [← e2]; exact hP1, hW.2.1, hW.2.2⟩ hAa hag hn hvl (vs_t (vs_t hvs)) hS1 hl)
theorem J_g1_3 {C : JC} {x : Bool} {cc : ByteArray} {nL : Nat} {rm : Room} {rt : Option FieldType} {own : String} {res : Res} {ce sl : Nat} {M : Mem} {pc : Nat} {lv : List (Nat × Value)} {st : List Value} {β : Type} {r0 : β} {f : Int32 → Option β} {index : Nat} {a : Option Nat} (hC : Ok C x cc nL rm rt own res) (hw : Cond.fieldLink own index RX1 (TX1 3).2.1 (TX1 3).2.2.1 ∈ BIG) (hdg : decode cc pc = .ok (.getfield index, 3)) (h : (gI 1 3 M a).bind f = some r0)
    (kk : ∀ v, gI 1 3 M a = some v → f v = some r0 → J C ce sl M (pc + 3) lv (.int v :: st)) : J C ce sl M pc lv (rf a :: st) := by
  obtain ⟨v, hv, hf⟩ := bnd h
  have kk := kk v hv hf
  obtain ⟨i, rfl, hv2⟩ := bnd hv
  split at hv2
  case isFalse => cases hv2
  case isTrue hi =>
  cases hv2
  obtain ⟨p, l, e, R, s, m, args, below, meth, c, H0, A, Q, nL0, G, ad0, n0⟩ := C
  obtain ⟨hx, hb, hml, hnl, hown, hts, hKK, hH0, hA, hlk, hrt, hR, hQ, hxt⟩ := hC
  intro ad H locs ls hW hAa hag hn hvl hvs hS hl
  have he := pool_at (G := G) (ad := ad) hi.1
  rw [ent_1 hi.2] at he
  have k2 := kk ad H locs ls hW hAa hag hn hvl (vs_c Vok_int (vs_t hvs)) hS hl
  skip
  exact va_get (D := G.1) (ci := 1) (C := RX1) (T := TX1) (N := 5) hx hb hts inB1 hown hKK.1.1 hW.1 i he rfl 3 (by decide) (hts _ hw) (fun _ h9 => h9) rfl hdg k2
theorem J_p1_3 {C : JC} {x : Bool} {cc : ByteArray} {nL : Nat} {rm : Room} {rt : Option FieldType} {own : String} {res : Res} {ce sl : Nat} {M : Mem} {pc : Nat} {lv : List (Nat × Value)} {st : List Value} {β : Type} {r0 : β} {f : Mem → Option β} {index : Nat} {a : Option Nat} {v : Int32} (hC : Ok C x cc nL rm rt own res) (hw : Cond.fieldLink own index RX1 (TX1 3).2.1 (TX1 3).2.2.1 ∈ BIG) (hdg : decode cc pc = .ok (.putfield index, 3)) (h : (pI 1 3 M a v).bind f = some r0)
    (kk : ∀ M', pI 1 3 M a v = some M' → f M' = some r0 → J C ce sl M' (pc + 3) lv st) : J C ce sl M pc lv (.int v :: rf a :: st) := by
  obtain ⟨M', hv, hf⟩ := bnd h
  have kk := kk M' hv hf
  obtain ⟨i, rfl, hv2⟩ := bnd hv
  split at hv2
  case isFalse => cases hv2
  case isTrue hi =>
  cases hv2
  obtain ⟨p, l, e, R, s, m, args, below, meth, c, H0, A, Q, nL0, G, ad0, n0⟩ := C
  obtain ⟨hx, hb, hml, hnl, hown, hts, hKK, hH0, hA, hlk, hrt, hR, hQ, hxt⟩ := hC
  intro ad H locs ls hW hAa hag hn hvl hvs hS hl
  have he := pool_at (G := G) (ad := ad) hi.1
  rw [ent_1 hi.2] at he
  have hD := pool_D hW hAa
  have e2 : (pool G ad M).set i (ad i, .inr (1, [re ad (mR M i 0), re ad (mR M i 1), .int (mI M i 2), .int v, .int (mI M i 4)])) = pool G ad (sI M i 3 v) := pool_set rfl hi.1 (by rw [ent_1 hi.2]; simp [sI, mI, mJ, mR, up2]) (fun j hj => ent_sI_ne hj)
  skip
  skip
  skip
  exact va_put (D := G.1) (ci := 1) (C := RX1) (T := TX1) (N := 5) (ty := tyX1 3) (v := .int v) hx hb hts inB1 tyX1 tyX1_ok nmX1 hown hKK.1.1 hW.1 hD hS i he rfl 3 (by decide) (hts _ hw) (fun _ h9 => h9) rfl (by decide +kernel) rfl rfl (Nat.le_of_ble_eq_true rfl) hdg (fun H1 locs1 hP1 hD1 hS1 => kk ad H1 locs1 ls ⟨by rw [← e2]; exact hP1, hW.2.1, hW.2.2⟩ hAa hag hn hvl (vs_t (vs_t hvs)) hS1 hl)
theorem J_g1_4 {C : JC} {x : Bool} {cc : ByteArray} {nL : Nat} {rm : Room} {rt : Option FieldType} {own : String} {res : Res} {ce sl : Nat} {M : Mem} {pc : Nat} {lv : List (Nat × Value)} {st : List Value} {β : Type} {r0 : β} {f : Int32 → Option β} {index : Nat} {a : Option Nat} (hC : Ok C x cc nL rm rt own res) (hw : Cond.fieldLink own index RX1 (TX1 4).2.1 (TX1 4).2.2.1 ∈ BIG) (hdg : decode cc pc = .ok (.getfield index, 3)) (h : (gI 1 4 M a).bind f = some r0)
    (kk : ∀ v, gI 1 4 M a = some v → f v = some r0 → J C ce sl M (pc + 3) lv (.int v :: st)) : J C ce sl M pc lv (rf a :: st) := by
  obtain ⟨v, hv, hf⟩ := bnd h
  have kk := kk v hv hf
  obtain ⟨i, rfl, hv2⟩ := bnd hv
  split at hv2
  case isFalse => cases hv2
  case isTrue hi =>
  cases hv2
  obtain ⟨p, l, e, R, s, m, args, below, meth, c, H0, A, Q, nL0, G, ad0, n0⟩ := C
  obtain ⟨hx, hb, hml, hnl, hown, hts, hKK, hH0, hA, hlk, hrt, hR, hQ, hxt⟩ := hC
  intro ad H locs ls hW hAa hag hn hvl hvs hS hl
  have he := pool_at (G := G) (ad := ad) hi.1
  rw [ent_1 hi.2] at he
  have k2 := kk ad H locs ls hW hAa hag hn hvl (vs_c Vok_int (vs_t hvs)) hS hl
  skip
  exact va_get (D := G.1) (ci := 1) (C := RX1) (T := TX1) (N := 5) hx hb hts inB1 hown hKK.1.1 hW.1 i he rfl 4 (by decide) (hts _ hw) (fun _ h9 => h9) rfl hdg k2
theorem J_p1_4 {C : JC} {x : Bool} {cc : ByteArray} {nL : Nat} {rm : Room} {rt : Option FieldType} {own : String} {res : Res} {ce sl : Nat} {M : Mem} {pc : Nat} {lv : List (Nat × Value)} {st : List Value} {β : Type} {r0 : β} {f : Mem → Option β} {index : Nat} {a : Option Nat} {v : Int32} (hC : Ok C x cc nL rm rt own res) (hw : Cond.fieldLink own index RX1 (TX1 4).2.1 (TX1 4).2.2.1 ∈ BIG) (hdg : decode cc pc = .ok (.putfield index, 3)) (h : (pI 1 4 M a v).bind f = some r0)
    (kk : ∀ M', pI 1 4 M a v = some M' → f M' = some r0 → J C ce sl M' (pc + 3) lv st) : J C ce sl M pc lv (.int v :: rf a :: st) := by
  obtain ⟨M', hv, hf⟩ := bnd h
  have kk := kk M' hv hf
  obtain ⟨i, rfl, hv2⟩ := bnd hv
  split at hv2
  case isFalse => cases hv2
  case isTrue hi =>
  cases hv2
  obtain ⟨p, l, e, R, s, m, args, below, meth, c, H0, A, Q, nL0, G, ad0, n0⟩ := C
  obtain ⟨hx, hb, hml, hnl, hown, hts, hKK, hH0, hA, hlk, hrt, hR, hQ, hxt⟩ := hC
  intro ad H locs ls hW hAa hag hn hvl hvs hS hl
  have he := pool_at (G := G) (ad := ad) hi.1
  rw [ent_1 hi.2] at he
  have hD := pool_D hW hAa
  have e2 : (pool G ad M).set i (ad i, .inr (1, [re ad (mR M i 0), re ad (mR M i 1), .int (mI M i 2), .int (mI M i 3), .int v])) = pool G ad (sI M i 4 v) := pool_set rfl hi.1 (by rw [ent_1 hi.2]; simp [sI, mI, mJ, mR, up2]) (fun j hj => ent_sI_ne hj)
  skip
  skip
  skip
  exact va_put (D := G.1) (ci := 1) (C := RX1) (T := TX1) (N := 5) (ty := tyX1 4) (v := .int v) hx hb hts inB1 tyX1 tyX1_ok nmX1 hown hKK.1.1 hW.1 hD hS i he rfl 4 (by decide) (hts _ hw) (fun _ h9 => h9) rfl (by decide +kernel) rfl rfl (Nat.le_of_ble_eq_true rfl) hdg (fun H1 locs1 hP1 hD1 hS1 => kk ad H1 locs1 ls ⟨by rw [← e2]; exact hP1, hW.2.1, hW.2.2⟩ hAa hag hn hvl (vs_t (vs_t hvs)) hS1 hl)
theorem J_g2_0 {C : JC} {x : Bool} {cc : ByteArray} {nL : Nat} {rm : Room} {rt : Option FieldType} {own : String} {res : Res} {ce sl : Nat} {M : Mem} {pc : Nat} {lv : List (Nat × Value)} {st : List Value} {β : Type} {r0 : β} {f : Option Nat → Option β} {index : Nat} {a : Option Nat} (hC : Ok C x cc nL rm rt own res) (hw : Cond.fieldLink own index RX2 (TX2 0).2.1 (TX2 0).2.2.1 ∈ BIG) (hdg : decode cc pc = .ok (.getfield index, 3)) (h : (gR 2 0 M a).bind f = some r0)
    (kk : ∀ v, gR 2 0 M a = some v → f v = some r0 → J C ce sl M (pc + 3) lv (rf v :: st)) : J C ce sl M pc lv (rf a :: st) := by
  obtain ⟨v, hv, hf⟩ := bnd h
  have kk := kk v hv hf
  obtain ⟨i, rfl, hv2⟩ := bnd hv
  split at hv2
  case isFalse => cases hv2
  case isTrue hi =>
  cases hv2
  obtain ⟨p, l, e, R, s, m, args, below, meth, c, H0, A, Q, nL0, G, ad0, n0⟩ := C
  obtain ⟨hx, hb, hml, hnl, hown, hts, hKK, hH0, hA, hlk, hrt, hR, hQ, hxt⟩ := hC
  intro ad H locs ls hW hAa hag hn hvl hvs hS hl
  have he := pool_at (G := G) (ad := ad) hi.1
  rw [ent_2 hi.2] at he
  have k2 := kk ad H locs ls hW hAa hag hn hvl (vs_c (Vok_rf (fun j e => hW.2.2 _ _ j hi.1 e)) (vs_t hvs)) hS hl
  rw [List.map_cons, phys_rf] at k2
  exact va_get (D := G.1) (ci := 2) (C := RX2) (T := TX2) (N := 10) hx hb hts inB2 hown hKK.1.1 hW.1 i he rfl 0 (by decide) (hts _ hw) (fun _ h9 => h9) rfl hdg k2
theorem J_p2_0 {C : JC} {x : Bool} {cc : ByteArray} {nL : Nat} {rm : Room} {rt : Option FieldType} {own : String} {res : Res} {ce sl : Nat} {M : Mem} {pc : Nat} {lv : List (Nat × Value)} {st : List Value} {β : Type} {r0 : β} {f : Mem → Option β} {index : Nat} {a : Option Nat} {v : Option Nat} (hC : Ok C x cc nL rm rt own res) (hin : isInit C) (hdc : (TX2 0).1 = own) (hw : Cond.fieldLink own index RX2 (TX2 0).2.1 (TX2 0).2.2.1 ∈ BIG) (hdg : decode cc pc = .ok (.putfield index, 3)) (h : (pR 2 0 M a v).bind f = some r0)
    (kk : ∀ M', pR 2 0 M a v = some M' → f M' = some r0 → J C ce sl M' (pc + 3) lv st) : J C ce sl M pc lv (rf v :: rf a :: st) := by
  obtain ⟨M', hv, hf⟩ := bnd h
  have kk := kk M' hv hf
  obtain ⟨i, rfl, hv2⟩ := bnd hv
  split at hv2
  case isFalse => cases hv2
  case isTrue hi =>
  cases hv2
  obtain ⟨p, l, e, R, s, m, args, below, meth, c, H0, A, Q, nL0, G, ad0, n0⟩ := C
  obtain ⟨hx, hb, hml, hnl, hown, hts, hKK, hH0, hA, hlk, hrt, hR, hQ, hxt⟩ := hC
  intro ad H locs ls hW hAa hag hn hvl hvs hS hl
  have he := pool_at (G := G) (ad := ad) hi.1
  rw [ent_2 hi.2] at he
  have hD := pool_D hW hAa
  have e2 : (pool G ad M).set i (ad i, .inr (2, [re ad v, re ad (mR M i 1), .int (mI M i 2), re ad (mR M i 3), re ad (mR M i 4), re ad (mR M i 5), .int (mI M i 6), re ad (mR M i 7), re ad (mR M i 8), re ad (mR M i 9)])) = pool G ad (sR M i 0 v) := pool_set rfl hi.1 (by rw [ent_2 hi.2]; simp [sR, mI, mJ, mR, up2]) (fun j hj => ent_sR_ne hj)
  have e3 : phys ad (rf v) = re ad v := phys_rf ad v
  rw [List.map_cons, e3]
  skip
  exact va_putF (D := G.1) (ci := 2) (C := RX2) (T := TX2) (N := 10) (ty := tyX2 0) (v := re ad v) hx hb hts inB2 tyX2 tyX2_ok nmX2 hown hKK.1.1 hW.1 hD hS i he rfl 0 (by decide) (hts _ hw) (fun _ h9 => h9) rfl hin hdc (by decide +kernel) (by cases v <;> rfl) (by cases v <;> rfl) (Nat.le_of_ble_eq_true rfl) hdg (fun H1 locs1 hP1 hD1 hS1 => kk ad H1 locs1 ls ⟨by rw [← e2]; exact hP1, hW.2.1, wf_sR hW.2.2 (vs_h hvs)⟩ hAa hag hn hvl (vs_t (vs_t hvs)) hS1 hl)
theorem J_g2_1 {C : JC} {x : Bool} {cc : ByteArray} {nL : Nat} {rm : Room} {rt : Option FieldType} {own : String} {res : Res} {ce sl : Nat} {M : Mem} {pc : Nat} {lv : List (Nat × Value)} {st : List Value} {β : Type} {r0 : β} {f : Option Nat → Option β} {index : Nat} {a : Option Nat} (hC : Ok C x cc nL rm rt own res) (hw : Cond.fieldLink own index RX2 (TX2 1).2.1 (TX2 1).2.2.1 ∈ BIG) (hdg : decode cc pc = .ok (.getfield index, 3)) (h : (gR 2 1 M a).bind f = some r0)
    (kk : ∀ v, gR 2 1 M a = some v → f v = some r0 → J C ce sl M (pc + 3) lv (rf v :: st)) : J C ce sl M pc lv (rf a :: st) := by
  obtain ⟨v, hv, hf⟩ := bnd h
  have kk := kk v hv hf
  obtain ⟨i, rfl, hv2⟩ := bnd hv
  split at hv2
  case isFalse => cases hv2
  case isTrue hi =>
  cases hv2
  obtain ⟨p, l, e, R, s, m, args, below, meth, c, H0, A, Q, nL0, G, ad0, n0⟩ := C
  obtain ⟨hx, hb, hml, hnl, hown, hts, hKK, hH0, hA, hlk, hrt, hR, hQ, hxt⟩ := hC
  intro ad H locs ls hW hAa hag hn hvl hvs hS hl
  have he := pool_at (G := G) (ad := ad) hi.1
  rw [ent_2 hi.2] at he
  have k2 := kk ad H locs ls hW hAa hag hn hvl (vs_c (Vok_rf (fun j e => hW.2.2 _ _ j hi.1 e)) (vs_t hvs)) hS hl
  rw [List.map_cons, phys_rf] at k2
  exact va_get (D := G.1) (ci := 2) (C := RX2) (T := TX2) (N := 10) hx hb hts inB2 hown hKK.1.1 hW.1 i he rfl 1 (by decide) (hts _ hw) (fun _ h9 => h9) rfl hdg k2
theorem J_p2_1 {C : JC} {x : Bool} {cc : ByteArray} {nL : Nat} {rm : Room} {rt : Option FieldType} {own : String} {res : Res} {ce sl : Nat} {M : Mem} {pc : Nat} {lv : List (Nat × Value)} {st : List Value} {β : Type} {r0 : β} {f : Mem → Option β} {index : Nat} {a : Option Nat} {v : Option Nat} (hC : Ok C x cc nL rm rt own res) (hin : isInit C) (hdc : (TX2 1).1 = own) (hw : Cond.fieldLink own index RX2 (TX2 1).2.1 (TX2 1).2.2.1 ∈ BIG) (hdg : decode cc pc = .ok (.putfield index, 3)) (h : (pR 2 1 M a v).bind f = some r0)
    (kk : ∀ M', pR 2 1 M a v = some M' → f M' = some r0 → J C ce sl M' (pc + 3) lv st) : J C ce sl M pc lv (rf v :: rf a :: st) := by
  obtain ⟨M', hv, hf⟩ := bnd h
  have kk := kk M' hv hf
  obtain ⟨i, rfl, hv2⟩ := bnd hv
  split at hv2
  case isFalse => cases hv2
  case isTrue hi =>
  cases hv2
  obtain ⟨p, l, e, R, s, m, args, below, meth, c, H0, A, Q, nL0, G, ad0, n0⟩ := C
  obtain ⟨hx, hb, hml, hnl, hown, hts, hKK, hH0, hA, hlk, hrt, hR, hQ, hxt⟩ := hC
  intro ad H locs ls hW hAa hag hn hvl hvs hS hl
  have he := pool_at (G := G) (ad := ad) hi.1
  rw [ent_2 hi.2] at he
  have hD := pool_D hW hAa
  have e2 : (pool G ad M).set i (ad i, .inr (2, [re ad (mR M i 0), re ad v, .int (mI M i 2), re ad (mR M i 3), re ad (mR M i 4), re ad (mR M i 5), .int (mI M i 6), re ad (mR M i 7), re ad (mR M i 8), re ad (mR M i 9)])) = pool G ad (sR M i 1 v) := pool_set rfl hi.1 (by rw [ent_2 hi.2]; simp [sR, mI, mJ, mR, up2]) (fun j hj => ent_sR_ne hj)
  have e3 : phys ad (rf v) = re ad v := phys_rf ad v
  rw [List.map_cons, e3]
  skip
  exact va_putF (D := G.1) (ci := 2) (C := RX2) (T := TX2) (N := 10) (ty := tyX2 1) (v := re ad v) hx hb hts inB2 tyX2 tyX2_ok nmX2 hown hKK.1.1 hW.1 hD hS i he rfl 1 (by decide) (hts _ hw) (fun _ h9 => h9) rfl hin hdc (by decide +kernel) (by cases v <;> rfl) (by cases v <;> rfl) (Nat.le_of_ble_eq_true rfl) hdg (fun H1 locs1 hP1 hD1 hS1 => kk ad H1 locs1 ls ⟨by rw [← e2]; exact hP1, hW.2.1, wf_sR hW.2.2 (vs_h hvs)⟩ hAa hag hn hvl (vs_t (vs_t hvs)) hS1 hl)
theorem J_g2_2 {C : JC} {x : Bool} {cc : ByteArray} {nL : Nat} {rm : Room} {rt : Option FieldType} {own : String} {res : Res} {ce sl : Nat} {M : Mem} {pc : Nat} {lv : List (Nat × Value)} {st : List Value} {β : Type} {r0 : β} {f : Int32 → Option β} {index : Nat} {a : Option Nat} (hC : Ok C x cc nL rm rt own res) (hw : Cond.fieldLink own index RX2 (TX2 2).2.1 (TX2 2).2.2.1 ∈ BIG) (hdg : decode cc pc = .ok (.getfield index, 3)) (h : (gI 2 2 M a).bind f = some r0)
    (kk : ∀ v, gI 2 2 M a = some v → f v = some r0 → J C ce sl M (pc + 3) lv (.int v :: st)) : J C ce sl M pc lv (rf a :: st) := by
  obtain ⟨v, hv, hf⟩ := bnd h
  have kk := kk v hv hf
  obtain ⟨i, rfl, hv2⟩ := bnd hv
  split at hv2
  case isFalse => cases hv2
  case isTrue hi =>
  cases hv2
  obtain ⟨p, l, e, R, s, m, args, below, meth, c, H0, A, Q, nL0, G, ad0, n0⟩ := C
  obtain ⟨hx, hb, hml, hnl, hown, hts, hKK, hH0, hA, hlk, hrt, hR, hQ, hxt⟩ := hC
  intro ad H locs ls hW hAa hag hn hvl hvs hS hl
  have he := pool_at (G := G) (ad := ad) hi.1
  rw [ent_2 hi.2] at he
  have k2 := kk ad H locs ls hW hAa hag hn hvl (vs_c Vok_int (vs_t hvs)) hS hl
  skip
  exact va_get (D := G.1) (ci := 2) (C := RX2) (T := TX2) (N := 10) hx hb hts inB2 hown hKK.1.1 hW.1 i he rfl 2 (by decide) (hts _ hw) (fun _ h9 => h9) rfl hdg k2
theorem J_p2_2 {C : JC} {x : Bool} {cc : ByteArray} {nL : Nat} {rm : Room} {rt : Option FieldType} {own : String} {res : Res} {ce sl : Nat} {M : Mem} {pc : Nat} {lv : List (Nat × Value)} {st : List Value} {β : Type} {r0 : β} {f : Mem → Option β} {index : Nat} {a : Option Nat} {v : Int32} (hC : Ok C x cc nL rm rt own res) (hw : Cond.fieldLink own index RX2 (TX2 2).2.1 (TX2 2).2.2.1 ∈ BIG) (hdg : decode cc pc = .ok (.putfield index, 3)) (h : (pI 2 2 M a v).bind f = some r0)
    (kk : ∀ M', pI 2 2 M a v = some M' → f M' = some r0 → J C ce sl M' (pc + 3) lv st) : J C ce sl M pc lv (.int v :: rf a :: st) := by
  obtain ⟨M', hv, hf⟩ := bnd h
  have kk := kk M' hv hf
  obtain ⟨i, rfl, hv2⟩ := bnd hv
  split at hv2
  case isFalse => cases hv2
  case isTrue hi =>
  cases hv2
  obtain ⟨p, l, e, R, s, m, args, below, meth, c, H0, A, Q, nL0, G, ad0, n0⟩ := C
  obtain ⟨hx, hb, hml, hnl, hown, hts, hKK, hH0, hA, hlk, hrt, hR, hQ, hxt⟩ := hC
  intro ad H locs ls hW hAa hag hn hvl hvs hS hl
  have he := pool_at (G := G) (ad := ad) hi.1
  rw [ent_2 hi.2] at he
  have hD := pool_D hW hAa
  have e2 : (pool G ad M).set i (ad i, .inr (2, [re ad (mR M i 0), re ad (mR M i 1), .int v, re ad (mR M i 3), re ad (mR M i 4), re ad (mR M i 5), .int (mI M i 6), re ad (mR M i 7), re ad (mR M i 8), re ad (mR M i 9)])) = pool G ad (sI M i 2 v) := pool_set rfl hi.1 (by rw [ent_2 hi.2]; simp [sI, mI, mJ, mR, up2]) (fun j hj => ent_sI_ne hj)
  skip
  skip
  skip
  exact va_put (D := G.1) (ci := 2) (C := RX2) (T := TX2) (N := 10) (ty := tyX2 2) (v := .int v) hx hb hts inB2 tyX2 tyX2_ok nmX2 hown hKK.1.1 hW.1 hD hS i he rfl 2 (by decide) (hts _ hw) (fun _ h9 => h9) rfl (by decide +kernel) rfl rfl (Nat.le_of_ble_eq_true rfl) hdg (fun H1 locs1 hP1 hD1 hS1 => kk ad H1 locs1 ls ⟨by rw [← e2]; exact hP1, hW.2.1, hW.2.2⟩ hAa hag hn hvl (vs_t (vs_t hvs)) hS1 hl)
theorem J_g2_3 {C : JC} {x : Bool} {cc : ByteArray} {nL : Nat} {rm : Room} {rt : Option FieldType} {own : String} {res : Res} {ce sl : Nat} {M : Mem} {pc : Nat} {lv : List (Nat × Value)} {st : List Value} {β : Type} {r0 : β} {f : Option Nat → Option β} {index : Nat} {a : Option Nat} (hC : Ok C x cc nL rm rt own res) (hw : Cond.fieldLink own index RX2 (TX2 3).2.1 (TX2 3).2.2.1 ∈ BIG) (hdg : decode cc pc = .ok (.getfield index, 3)) (h : (gR 2 3 M a).bind f = some r0)
    (kk : ∀ v, gR 2 3 M a = some v → f v = some r0 → J C ce sl M (pc + 3) lv (rf v :: st)) : J C ce sl M pc lv (rf a :: st) := by
  obtain ⟨v, hv, hf⟩ := bnd h
  have kk := kk v hv hf
  obtain ⟨i, rfl, hv2⟩ := bnd hv
  split at hv2
  case isFalse => cases hv2
  case isTrue hi =>
  cases hv2
  obtain ⟨p, l, e, R, s, m, args, below, meth, c, H0, A, Q, nL0, G, ad0, n0⟩ := C
  obtain ⟨hx, hb, hml, hnl, hown, hts, hKK, hH0, hA, hlk, hrt, hR, hQ, hxt⟩ := hC
  intro ad H locs ls hW hAa hag hn hvl hvs hS hl
  have he := pool_at (G := G) (ad := ad) hi.1
  rw [ent_2 hi.2] at he
  have k2 := kk ad H locs ls hW hAa hag hn hvl (vs_c (Vok_rf (fun j e => hW.2.2 _ _ j hi.1 e)) (vs_t hvs)) hS hl
  rw [List.map_cons, phys_rf] at k2
  exact va_get (D := G.1) (ci := 2) (C := RX2) (T := TX2) (N := 10) hx hb hts inB2 hown hKK.1.1 hW.1 i he rfl 3 (by decide) (hts _ hw) (fun _ h9 => h9) rfl hdg k2
theorem J_p2_3 {C : JC} {x : Bool} {cc : ByteArray} {nL : Nat} {rm : Room} {rt : Option FieldType} {own : String} {res : Res} {ce sl : Nat} {M : Mem} {pc : Nat} {lv : List (Nat × Value)} {st : List Value} {β : Type} {r0 : β} {f : Mem → Option β} {index : Nat} {a : Option Nat} {v : Option Nat} (hC : Ok C x cc nL rm rt own res) (hin : isInit C) (hdc : (TX2 3).1 = own) (hw : Cond.fieldLink own index RX2 (TX2 3).2.1 (TX2 3).2.2.1 ∈ BIG) (hdg : decode cc pc = .ok (.putfield index, 3)) (h : (pR 2 3 M a v).bind f = some r0)
    (kk : ∀ M', pR 2 3 M a v = some M' → f M' = some r0 → J C ce sl M' (pc + 3) lv st) : J C ce sl M pc lv (rf v :: rf a :: st) := by
  obtain ⟨M', hv, hf⟩ := bnd h
  have kk := kk M' hv hf
  obtain ⟨i, rfl, hv2⟩ := bnd hv
  split at hv2
  case isFalse => cases hv2
  case isTrue hi =>
  cases hv2
  obtain ⟨p, l, e, R, s, m, args, below, meth, c, H0, A, Q, nL0, G, ad0, n0⟩ := C
  obtain ⟨hx, hb, hml, hnl, hown, hts, hKK, hH0, hA, hlk, hrt, hR, hQ, hxt⟩ := hC
  intro ad H locs ls hW hAa hag hn hvl hvs hS hl
  have he := pool_at (G := G) (ad := ad) hi.1
  rw [ent_2 hi.2] at he
  have hD := pool_D hW hAa
  have e2 : (pool G ad M).set i (ad i, .inr (2, [re ad (mR M i 0), re ad (mR M i 1), .int (mI M i 2), re ad v, re ad (mR M i 4), re ad (mR M i 5), .int (mI M i 6), re ad (mR M i 7), re ad (mR M i 8), re ad (mR M i 9)])) = pool G ad (sR M i 3 v) := pool_set rfl hi.1 (by rw [ent_2 hi.2]; simp [sR, mI, mJ, mR, up2]) (fun j hj => ent_sR_ne hj)
  have e3 : phys ad (rf v) = re ad v := phys_rf ad v
  rw [List.map_cons, e3]
  skip
  exact va_putF (D := G.1) (ci := 2) (C := RX2) (T := TX2) (N := 10) (ty := tyX2 3) (v := re ad v) hx hb hts inB2 tyX2 tyX2_ok nmX2 hown hKK.1.1 hW.1 hD hS i he rfl 3 (by decide) (hts _ hw) (fun _ h9 => h9) rfl hin hdc (by decide +kernel) (by cases v <;> rfl) (by cases v <;> rfl) (Nat.le_of_ble_eq_true rfl) hdg (fun H1 locs1 hP1 hD1 hS1 => kk ad H1 locs1 ls ⟨by rw [← e2]; exact hP1, hW.2.1, wf_sR hW.2.2 (vs_h hvs)⟩ hAa hag hn hvl (vs_t (vs_t hvs)) hS1 hl)
theorem J_g2_4 {C : JC} {x : Bool} {cc : ByteArray} {nL : Nat} {rm : Room} {rt : Option FieldType} {own : String} {res : Res} {ce sl : Nat} {M : Mem} {pc : Nat} {lv : List (Nat × Value)} {st : List Value} {β : Type} {r0 : β} {f : Option Nat → Option β} {index : Nat} {a : Option Nat} (hC : Ok C x cc nL rm rt own res) (hw : Cond.fieldLink own index RX2 (TX2 4).2.1 (TX2 4).2.2.1 ∈ BIG) (hdg : decode cc pc = .ok (.getfield index, 3)) (h : (gR 2 4 M a).bind f = some r0)
    (kk : ∀ v, gR 2 4 M a = some v → f v = some r0 → J C ce sl M (pc + 3) lv (rf v :: st)) : J C ce sl M pc lv (rf a :: st) := by
  obtain ⟨v, hv, hf⟩ := bnd h
  have kk := kk v hv hf
  obtain ⟨i, rfl, hv2⟩ := bnd hv
  split at hv2
  case isFalse => cases hv2
  case isTrue hi =>
  cases hv2
  obtain ⟨p, l, e, R, s, m, args, below, meth, c, H0, A, Q, nL0, G, ad0, n0⟩ := C
  obtain ⟨hx, hb, hml, hnl, hown, hts, hKK, hH0, hA, hlk, hrt, hR, hQ, hxt⟩ := hC
  intro ad H locs ls hW hAa hag hn hvl hvs hS hl
  have he := pool_at (G := G) (ad := ad) hi.1
  rw [ent_2 hi.2] at he
  have k2 := kk ad H locs ls hW hAa hag hn hvl (vs_c (Vok_rf (fun j e => hW.2.2 _ _ j hi.1 e)) (vs_t hvs)) hS hl
  rw [List.map_cons, phys_rf] at k2
  exact va_get (D := G.1) (ci := 2) (C := RX2) (T := TX2) (N := 10) hx hb hts inB2 hown hKK.1.1 hW.1 i he rfl 4 (by decide) (hts _ hw) (fun _ h9 => h9) rfl hdg k2
theorem J_p2_4 {C : JC} {x : Bool} {cc : ByteArray} {nL : Nat} {rm : Room} {rt : Option FieldType} {own : String} {res : Res} {ce sl : Nat} {M : Mem} {pc : Nat} {lv : List (Nat × Value)} {st : List Value} {β : Type} {r0 : β} {f : Mem → Option β} {index : Nat} {a : Option Nat} {v : Option Nat} (hC : Ok C x cc nL rm rt own res) (hin : isInit C) (hdc : (TX2 4).1 = own) (hw : Cond.fieldLink own index RX2 (TX2 4).2.1 (TX2 4).2.2.1 ∈ BIG) (hdg : decode cc pc = .ok (.putfield index, 3)) (h : (pR 2 4 M a v).bind f = some r0)
    (kk : ∀ M', pR 2 4 M a v = some M' → f M' = some r0 → J C ce sl M' (pc + 3) lv st) : J C ce sl M pc lv (rf v :: rf a :: st) := by
  obtain ⟨M', hv, hf⟩ := bnd h
  have kk := kk M' hv hf
  obtain ⟨i, rfl, hv2⟩ := bnd hv
  split at hv2
  case isFalse => cases hv2
  case isTrue hi =>
  cases hv2
  obtain ⟨p, l, e, R, s, m, args, below, meth, c, H0, A, Q, nL0, G, ad0, n0⟩ := C
  obtain ⟨hx, hb, hml, hnl, hown, hts, hKK, hH0, hA, hlk, hrt, hR, hQ, hxt⟩ := hC
  intro ad H locs ls hW hAa hag hn hvl hvs hS hl
  have he := pool_at (G := G) (ad := ad) hi.1
  rw [ent_2 hi.2] at he
  have hD := pool_D hW hAa
  have e2 : (pool G ad M).set i (ad i, .inr (2, [re ad (mR M i 0), re ad (mR M i 1), .int (mI M i 2), re ad (mR M i 3), re ad v, re ad (mR M i 5), .int (mI M i 6), re ad (mR M i 7), re ad (mR M i 8), re ad (mR M i 9)])) = pool G ad (sR M i 4 v) := pool_set rfl hi.1 (by rw [ent_2 hi.2]; simp [sR, mI, mJ, mR, up2]) (fun j hj => ent_sR_ne hj)
  have e3 : phys ad (rf v) = re ad v := phys_rf ad v
  rw [List.map_cons, e3]
  skip
  exact va_putF (D := G.1) (ci := 2) (C := RX2) (T := TX2) (N := 10) (ty := tyX2 4) (v := re ad v) hx hb hts inB2 tyX2 tyX2_ok nmX2 hown hKK.1.1 hW.1 hD hS i he rfl 4 (by decide) (hts _ hw) (fun _ h9 => h9) rfl hin hdc (by decide +kernel) (by cases v <;> rfl) (by cases v <;> rfl) (Nat.le_of_ble_eq_true rfl) hdg (fun H1 locs1 hP1 hD1 hS1 => kk ad H1 locs1 ls ⟨by rw [← e2]; exact hP1, hW.2.1, wf_sR hW.2.2 (vs_h hvs)⟩ hAa hag hn hvl (vs_t (vs_t hvs)) hS1 hl)
theorem J_g2_5 {C : JC} {x : Bool} {cc : ByteArray} {nL : Nat} {rm : Room} {rt : Option FieldType} {own : String} {res : Res} {ce sl : Nat} {M : Mem} {pc : Nat} {lv : List (Nat × Value)} {st : List Value} {β : Type} {r0 : β} {f : Option Nat → Option β} {index : Nat} {a : Option Nat} (hC : Ok C x cc nL rm rt own res) (hw : Cond.fieldLink own index RX2 (TX2 5).2.1 (TX2 5).2.2.1 ∈ BIG) (hdg : decode cc pc = .ok (.getfield index, 3)) (h : (gR 2 5 M a).bind f = some r0)
    (kk : ∀ v, gR 2 5 M a = some v → f v = some r0 → J C ce sl M (pc + 3) lv (rf v :: st)) : J C ce sl M pc lv (rf a :: st) := by
  obtain ⟨v, hv, hf⟩ := bnd h
  have kk := kk v hv hf
  obtain ⟨i, rfl, hv2⟩ := bnd hv
  split at hv2
  case isFalse => cases hv2
  case isTrue hi =>
  cases hv2
  obtain ⟨p, l, e, R, s, m, args, below, meth, c, H0, A, Q, nL0, G, ad0, n0⟩ := C
  obtain ⟨hx, hb, hml, hnl, hown, hts, hKK, hH0, hA, hlk, hrt, hR, hQ, hxt⟩ := hC
  intro ad H locs ls hW hAa hag hn hvl hvs hS hl
  have he := pool_at (G := G) (ad := ad) hi.1
  rw [ent_2 hi.2] at he
  have k2 := kk ad H locs ls hW hAa hag hn hvl (vs_c (Vok_rf (fun j e => hW.2.2 _ _ j hi.1 e)) (vs_t hvs)) hS hl
  rw [List.map_cons, phys_rf] at k2
  exact va_get (D := G.1) (ci := 2) (C := RX2) (T := TX2) (N := 10) hx hb hts inB2 hown hKK.1.1 hW.1 i he rfl 5 (by decide) (hts _ hw) (fun _ h9 => h9) rfl hdg k2
theorem J_p2_5 {C : JC} {x : Bool} {cc : ByteArray} {nL : Nat} {rm : Room} {rt : Option FieldType} {own : String} {res : Res} {ce sl : Nat} {M : Mem} {pc : Nat} {lv : List (Nat × Value)} {st : List Value} {β : Type} {r0 : β} {f : Mem → Option β} {index : Nat} {a : Option Nat} {v : Option Nat} (hC : Ok C x cc nL rm rt own res) (hin : isInit C) (hdc : (TX2 5).1 = own) (hw : Cond.fieldLink own index RX2 (TX2 5).2.1 (TX2 5).2.2.1 ∈ BIG) (hdg : decode cc pc = .ok (.putfield index, 3)) (h : (pR 2 5 M a v).bind f = some r0)
    (kk : ∀ M', pR 2 5 M a v = some M' → f M' = some r0 → J C ce sl M' (pc + 3) lv st) : J C ce sl M pc lv (rf v :: rf a :: st) := by
  obtain ⟨M', hv, hf⟩ := bnd h
  have kk := kk M' hv hf
  obtain ⟨i, rfl, hv2⟩ := bnd hv
  split at hv2
  case isFalse => cases hv2
  case isTrue hi =>
  cases hv2
  obtain ⟨p, l, e, R, s, m, args, below, meth, c, H0, A, Q, nL0, G, ad0, n0⟩ := C
  obtain ⟨hx, hb, hml, hnl, hown, hts, hKK, hH0, hA, hlk, hrt, hR, hQ, hxt⟩ := hC
  intro ad H locs ls hW hAa hag hn hvl hvs hS hl
  have he := pool_at (G := G) (ad := ad) hi.1
  rw [ent_2 hi.2] at he
  have hD := pool_D hW hAa
  have e2 : (pool G ad M).set i (ad i, .inr (2, [re ad (mR M i 0), re ad (mR M i 1), .int (mI M i 2), re ad (mR M i 3), re ad (mR M i 4), re ad v, .int (mI M i 6), re ad (mR M i 7), re ad (mR M i 8), re ad (mR M i 9)])) = pool G ad (sR M i 5 v) := pool_set rfl hi.1 (by rw [ent_2 hi.2]; simp [sR, mI, mJ, mR, up2]) (fun j hj => ent_sR_ne hj)
  have e3 : phys ad (rf v) = re ad v := phys_rf ad v
  rw [List.map_cons, e3]
  skip
  exact va_putF (D := G.1) (ci := 2) (C := RX2) (T := TX2) (N := 10) (ty := tyX2 5) (v := re ad v) hx hb hts inB2 tyX2 tyX2_ok nmX2 hown hKK.1.1 hW.1 hD hS i he rfl 5 (by decide) (hts _ hw) (fun _ h9 => h9) rfl hin hdc (by decide +kernel) (by cases v <;> rfl) (by cases v <;> rfl) (Nat.le_of_ble_eq_true rfl) hdg (fun H1 locs1 hP1 hD1 hS1 => kk ad H1 locs1 ls ⟨by rw [← e2]; exact hP1, hW.2.1, wf_sR hW.2.2 (vs_h hvs)⟩ hAa hag hn hvl (vs_t (vs_t hvs)) hS1 hl)
theorem J_g2_6 {C : JC} {x : Bool} {cc : ByteArray} {nL : Nat} {rm : Room} {rt : Option FieldType} {own : String} {res : Res} {ce sl : Nat} {M : Mem} {pc : Nat} {lv : List (Nat × Value)} {st : List Value} {β : Type} {r0 : β} {f : Int32 → Option β} {index : Nat} {a : Option Nat} (hC : Ok C x cc nL rm rt own res) (hw : Cond.fieldLink own index RX2 (TX2 6).2.1 (TX2 6).2.2.1 ∈ BIG) (hdg : decode cc pc = .ok (.getfield index, 3)) (h : (gI 2 6 M a).bind f = some r0)
    (kk : ∀ v, gI 2 6 M a = some v → f v = some r0 → J C ce sl M (pc + 3) lv (.int v :: st)) : J C ce sl M pc lv (rf a :: st) := by
  obtain ⟨v, hv, hf⟩ := bnd h
  have kk := kk v hv hf
  obtain ⟨i, rfl, hv2⟩ := bnd hv
  split at hv2
  case isFalse => cases hv2
  case isTrue hi =>
  cases hv2
  obtain ⟨p, l, e, R, s, m, args, below, meth, c, H0, A, Q, nL0, G, ad0, n0⟩ := C
  obtain ⟨hx, hb, hml, hnl, hown, hts, hKK, hH0, hA, hlk, hrt, hR, hQ, hxt⟩ := hC
  intro ad H locs ls hW hAa hag hn hvl hvs hS hl
  have he := pool_at (G := G) (ad := ad) hi.1
  rw [ent_2 hi.2] at he
  have k2 := kk ad H locs ls hW hAa hag hn hvl (vs_c Vok_int (vs_t hvs)) hS hl
  skip
  exact va_get (D := G.1) (ci := 2) (C := RX2) (T := TX2) (N := 10) hx hb hts inB2 hown hKK.1.1 hW.1 i he rfl 6 (by decide) (hts _ hw) (fun _ h9 => h9) rfl hdg k2
theorem J_p2_6 {C : JC} {x : Bool} {cc : ByteArray} {nL : Nat} {rm : Room} {rt : Option FieldType} {own : String} {res : Res} {ce sl : Nat} {M : Mem} {pc : Nat} {lv : List (Nat × Value)} {st : List Value} {β : Type} {r0 : β} {f : Mem → Option β} {index : Nat} {a : Option Nat} {v : Int32} (hC : Ok C x cc nL rm rt own res) (hw : Cond.fieldLink own index RX2 (TX2 6).2.1 (TX2 6).2.2.1 ∈ BIG) (hdg : decode cc pc = .ok (.putfield index, 3)) (h : (pI 2 6 M a v).bind f = some r0)
    (kk : ∀ M', pI 2 6 M a v = some M' → f M' = some r0 → J C ce sl M' (pc + 3) lv st) : J C ce sl M pc lv (.int v :: rf a :: st) := by
  obtain ⟨M', hv, hf⟩ := bnd h
  have kk := kk M' hv hf
  obtain ⟨i, rfl, hv2⟩ := bnd hv
  split at hv2
  case isFalse => cases hv2
  case isTrue hi =>
  cases hv2
  obtain ⟨p, l, e, R, s, m, args, below, meth, c, H0, A, Q, nL0, G, ad0, n0⟩ := C
  obtain ⟨hx, hb, hml, hnl, hown, hts, hKK, hH0, hA, hlk, hrt, hR, hQ, hxt⟩ := hC
  intro ad H locs ls hW hAa hag hn hvl hvs hS hl
  have he := pool_at (G := G) (ad := ad) hi.1
  rw [ent_2 hi.2] at he
  have hD := pool_D hW hAa
  have e2 : (pool G ad M).set i (ad i, .inr (2, [re ad (mR M i 0), re ad (mR M i 1), .int (mI M i 2), re ad (mR M i 3), re ad (mR M i 4), re ad (mR M i 5), .int v, re ad (mR M i 7), re ad (mR M i 8), re ad (mR M i 9)])) = pool G ad (sI M i 6 v) := pool_set rfl hi.1 (by rw [ent_2 hi.2]; simp [sI, mI, mJ, mR, up2]) (fun j hj => ent_sI_ne hj)
  skip
  skip
  skip
  exact va_put (D := G.1) (ci := 2) (C := RX2) (T := TX2) (N := 10) (ty := tyX2 6) (v := .int v) hx hb hts inB2 tyX2 tyX2_ok nmX2 hown hKK.1.1 hW.1 hD hS i he rfl 6 (by decide) (hts _ hw) (fun _ h9 => h9) rfl (by decide +kernel) rfl rfl (Nat.le_of_ble_eq_true rfl) hdg (fun H1 locs1 hP1 hD1 hS1 => kk ad H1 locs1 ls ⟨by rw [← e2]; exact hP1, hW.2.1, hW.2.2⟩ hAa hag hn hvl (vs_t (vs_t hvs)) hS1 hl)
theorem J_g2_7 {C : JC} {x : Bool} {cc : ByteArray} {nL : Nat} {rm : Room} {rt : Option FieldType} {own : String} {res : Res} {ce sl : Nat} {M : Mem} {pc : Nat} {lv : List (Nat × Value)} {st : List Value} {β : Type} {r0 : β} {f : Option Nat → Option β} {index : Nat} {a : Option Nat} (hC : Ok C x cc nL rm rt own res) (hw : Cond.fieldLink own index RX2 (TX2 7).2.1 (TX2 7).2.2.1 ∈ BIG) (hdg : decode cc pc = .ok (.getfield index, 3)) (h : (gR 2 7 M a).bind f = some r0)
    (kk : ∀ v, gR 2 7 M a = some v → f v = some r0 → J C ce sl M (pc + 3) lv (rf v :: st)) : J C ce sl M pc lv (rf a :: st) := by
  obtain ⟨v, hv, hf⟩ := bnd h
  have kk := kk v hv hf
  obtain ⟨i, rfl, hv2⟩ := bnd hv
  split at hv2
  case isFalse => cases hv2
  case isTrue hi =>
  cases hv2
  obtain ⟨p, l, e, R, s, m, args, below, meth, c, H0, A, Q, nL0, G, ad0, n0⟩ := C
  obtain ⟨hx, hb, hml, hnl, hown, hts, hKK, hH0, hA, hlk, hrt, hR, hQ, hxt⟩ := hC
  intro ad H locs ls hW hAa hag hn hvl hvs hS hl
  have he := pool_at (G := G) (ad := ad) hi.1
  rw [ent_2 hi.2] at he
  have k2 := kk ad H locs ls hW hAa hag hn hvl (vs_c (Vok_rf (fun j e => hW.2.2 _ _ j hi.1 e)) (vs_t hvs)) hS hl
  rw [List.map_cons, phys_rf] at k2
  exact va_get (D := G.1) (ci := 2) (C := RX2) (T := TX2) (N := 10) hx hb hts inB2 hown hKK.1.1 hW.1 i he rfl 7 (by decide) (hts _ hw) (fun _ h9 => h9) rfl hdg k2
theorem J_p2_7 {C : JC} {x : Bool} {cc : ByteArray} {nL : Nat} {rm : Room} {rt : Option FieldType} {own : String} {res : Res} {ce sl : Nat} {M : Mem} {pc : Nat} {lv : List (Nat × Value)} {st : List Value} {β : Type} {r0 : β} {f : Mem → Option β} {index : Nat} {a : Option Nat} {v : Option Nat} (hC : Ok C x cc nL rm rt own res) (hin : isInit C) (hdc : (TX2 7).1 = own) (hw : Cond.fieldLink own index RX2 (TX2 7).2.1 (TX2 7).2.2.1 ∈ BIG) (hdg : decode cc pc = .ok (.putfield index, 3)) (h : (pR 2 7 M a v).bind f = some r0)
    (kk : ∀ M', pR 2 7 M a v = some M' → f M' = some r0 → J C ce sl M' (pc + 3) lv st) : J C ce sl M pc lv (rf v :: rf a :: st) := by
  obtain ⟨M', hv, hf⟩ := bnd h
  have kk := kk M' hv hf
  obtain ⟨i, rfl, hv2⟩ := bnd hv
  split at hv2
  case isFalse => cases hv2
  case isTrue hi =>
  cases hv2
  obtain ⟨p, l, e, R, s, m, args, below, meth, c, H0, A, Q, nL0, G, ad0, n0⟩ := C
  obtain ⟨hx, hb, hml, hnl, hown, hts, hKK, hH0, hA, hlk, hrt, hR, hQ, hxt⟩ := hC
  intro ad H locs ls hW hAa hag hn hvl hvs hS hl
  have he := pool_at (G := G) (ad := ad) hi.1
  rw [ent_2 hi.2] at he
  have hD := pool_D hW hAa
  have e2 : (pool G ad M).set i (ad i, .inr (2, [re ad (mR M i 0), re ad (mR M i 1), .int (mI M i 2), re ad (mR M i 3), re ad (mR M i 4), re ad (mR M i 5), .int (mI M i 6), re ad v, re ad (mR M i 8), re ad (mR M i 9)])) = pool G ad (sR M i 7 v) := pool_set rfl hi.1 (by rw [ent_2 hi.2]; simp [sR, mI, mJ, mR, up2]) (fun j hj => ent_sR_ne hj)
  have e3 : phys ad (rf v) = re ad v := phys_rf ad v
  rw [List.map_cons, e3]
  skip
  exact va_putF (D := G.1) (ci := 2) (C := RX2) (T := TX2) (N := 10) (ty := tyX2 7) (v := re ad v) hx hb hts inB2 tyX2 tyX2_ok nmX2 hown hKK.1.1 hW.1 hD hS i he rfl 7 (by decide) (hts _ hw) (fun _ h9 => h9) rfl hin hdc (by decide +kernel) (by cases v <;> rfl) (by cases v <;> rfl) (Nat.le_of_ble_eq_true rfl) hdg (fun H1 locs1 hP1 hD1 hS1 => kk ad H1 locs1 ls ⟨by rw [← e2]; exact hP1, hW.2.1, wf_sR hW.2.2 (vs_h hvs)⟩ hAa hag hn hvl (vs_t (vs_t hvs)) hS1 hl)
theorem J_g2_8 {C : JC} {x : Bool} {cc : ByteArray} {nL : Nat} {rm : Room} {rt : Option FieldType} {own : String} {res : Res} {ce sl : Nat} {M : Mem} {pc : Nat} {lv : List (Nat × Value)} {st : List Value} {β : Type} {r0 : β} {f : Option Nat → Option β} {index : Nat} {a : Option Nat} (hC : Ok C x cc nL rm rt own res) (hw : Cond.fieldLink own index RX2 (TX2 8).2.1 (TX2 8).2.2.1 ∈ BIG) (hdg : decode cc pc = .ok (.getfield index, 3)) (h : (gR 2 8 M a).bind f = some r0)
    (kk : ∀ v, gR 2 8 M a = some v → f v = some r0 → J C ce sl M (pc + 3) lv (rf v :: st)) : J C ce sl M pc lv (rf a :: st) := by
  obtain ⟨v, hv, hf⟩ := bnd h
  have kk := kk v hv hf
  obtain ⟨i, rfl, hv2⟩ := bnd hv
  split at hv2
  case isFalse => cases hv2
  case isTrue hi =>
  cases hv2
  obtain ⟨p, l, e, R, s, m, args, below, meth, c, H0, A, Q, nL0, G, ad0, n0⟩ := C
  obtain ⟨hx, hb, hml, hnl, hown, hts, hKK, hH0, hA, hlk, hrt, hR, hQ, hxt⟩ := hC
  intro ad H locs ls hW hAa hag hn hvl hvs hS hl
  have he := pool_at (G := G) (ad := ad) hi.1
  rw [ent_2 hi.2] at he
  have k2 := kk ad H locs ls hW hAa hag hn hvl (vs_c (Vok_rf (fun j e => hW.2.2 _ _ j hi.1 e)) (vs_t hvs)) hS hl
  rw [List.map_cons, phys_rf] at k2
  exact va_get (D := G.1) (ci := 2) (C := RX2) (T := TX2) (N := 10) hx hb hts inB2 hown hKK.1.1 hW.1 i he rfl 8 (by decide) (hts _ hw) (fun _ h9 => h9) rfl hdg k2
theorem J_p2_8 {C : JC} {x : Bool} {cc : ByteArray} {nL : Nat} {rm : Room} {rt : Option FieldType} {own : String} {res : Res} {ce sl : Nat} {M : Mem} {pc : Nat} {lv : List (Nat × Value)} {st : List Value} {β : Type} {r0 : β} {f : Mem → Option β} {index : Nat} {a : Option Nat} {v : Option Nat} (hC : Ok C x cc nL rm rt own res) (hin : isInit C) (hdc : (TX2 8).1 = own) (hw : Cond.fieldLink own index RX2 (TX2 8).2.1 (TX2 8).2.2.1 ∈ BIG) (hdg : decode cc pc = .ok (.putfield index, 3)) (h : (pR 2 8 M a v).bind f = some r0)
    (kk : ∀ M', pR 2 8 M a v = some M' → f M' = some r0 → J C ce sl M' (pc + 3) lv st) : J C ce sl M pc lv (rf v :: rf a :: st) := by
  obtain ⟨M', hv, hf⟩ := bnd h
  have kk := kk M' hv hf
  obtain ⟨i, rfl, hv2⟩ := bnd hv
  split at hv2
  case isFalse => cases hv2
  case isTrue hi =>
  cases hv2
  obtain ⟨p, l, e, R, s, m, args, below, meth, c, H0, A, Q, nL0, G, ad0, n0⟩ := C
  obtain ⟨hx, hb, hml, hnl, hown, hts, hKK, hH0, hA, hlk, hrt, hR, hQ, hxt⟩ := hC
  intro ad H locs ls hW hAa hag hn hvl hvs hS hl
  have he := pool_at (G := G) (ad := ad) hi.1
  rw [ent_2 hi.2] at he
  have hD := pool_D hW hAa
  have e2 : (pool G ad M).set i (ad i, .inr (2, [re ad (mR M i 0), re ad (mR M i 1), .int (mI M i 2), re ad (mR M i 3), re ad (mR M i 4), re ad (mR M i 5), .int (mI M i 6), re ad (mR M i 7), re ad v, re ad (mR M i 9)])) = pool G ad (sR M i 8 v) := pool_set rfl hi.1 (by rw [ent_2 hi.2]; simp [sR, mI, mJ, mR, up2]) (fun j hj => ent_sR_ne hj)
  have e3 : phys ad (rf v) = re ad v := phys_rf ad v
  rw [List.map_cons, e3]
  skip
  exact va_putF (D := G.1) (ci := 2) (C := RX2) (T := TX2) (N := 10) (ty := tyX2 8) (v := re ad v) hx hb hts inB2 tyX2 tyX2_ok nmX2 hown hKK.1.1 hW.1 hD hS i he rfl 8 (by decide) (hts _ hw) (fun _ h9 => h9) rfl hin hdc (by decide +kernel) (by cases v <;> rfl) (by cases v <;> rfl) (Nat.le_of_ble_eq_true rfl) hdg (fun H1 locs1 hP1 hD1 hS1 => kk ad H1 locs1 ls ⟨by rw [← e2]; exact hP1, hW.2.1, wf_sR hW.2.2 (vs_h hvs)⟩ hAa hag hn hvl (vs_t (vs_t hvs)) hS1 hl)
theorem J_g2_9 {C : JC} {x : Bool} {cc : ByteArray} {nL : Nat} {rm : Room} {rt : Option FieldType} {own : String} {res : Res} {ce sl : Nat} {M : Mem} {pc : Nat} {lv : List (Nat × Value)} {st : List Value} {β : Type} {r0 : β} {f : Option Nat → Option β} {index : Nat} {a : Option Nat} (hC : Ok C x cc nL rm rt own res) (hw : Cond.fieldLink own index RX2 (TX2 9).2.1 (TX2 9).2.2.1 ∈ BIG) (hdg : decode cc pc = .ok (.getfield index, 3)) (h : (gR 2 9 M a).bind f = some r0)
    (kk : ∀ v, gR 2 9 M a = some v → f v = some r0 → J C ce sl M (pc + 3) lv (rf v :: st)) : J C ce sl M pc lv (rf a :: st) := by
  obtain ⟨v, hv, hf⟩ := bnd h
  have kk := kk v hv hf
  obtain ⟨i, rfl, hv2⟩ := bnd hv
  split at hv2
  case isFalse => cases hv2
  case isTrue hi =>
  cases hv2
  obtain ⟨p, l, e, R, s, m, args, below, meth, c, H0, A, Q, nL0, G, ad0, n0⟩ := C
  obtain ⟨hx, hb, hml, hnl, hown, hts, hKK, hH0, hA, hlk, hrt, hR, hQ, hxt⟩ := hC
  intro ad H locs ls hW hAa hag hn hvl hvs hS hl
  have he := pool_at (G := G) (ad := ad) hi.1
  rw [ent_2 hi.2] at he
  have k2 := kk ad H locs ls hW hAa hag hn hvl (vs_c (Vok_rf (fun j e => hW.2.2 _ _ j hi.1 e)) (vs_t hvs)) hS hl
  rw [List.map_cons, phys_rf] at k2
  exact va_get (D := G.1) (ci := 2) (C := RX2) (T := TX2) (N := 10) hx hb hts inB2 hown hKK.1.1 hW.1 i he rfl 9 (by decide) (hts _ hw) (fun _ h9 => h9) rfl hdg k2
theorem J_p2_9 {C : JC} {x : Bool} {cc : ByteArray} {nL : Nat} {rm : Room} {rt : Option FieldType} {own : String} {res : Res} {ce sl : Nat} {M : Mem} {pc : Nat} {lv : List (Nat × Value)} {st : List Value} {β : Type} {r0 : β} {f : Mem → Option β} {index : Nat} {a : Option Nat} {v : Option Nat} (hC : Ok C x cc nL rm rt own res) (hin : isInit C) (hdc : (TX2 9).1 = own) (hw : Cond.fieldLink own index RX2 (TX2 9).2.1 (TX2 9).2.2.1 ∈ BIG) (hdg : decode cc pc = .ok (.putfield index, 3)) (h : (pR 2 9 M a v).bind f = some r0)
    (kk : ∀ M', pR 2 9 M a v = some M' → f M' = some r0 → J C ce sl M' (pc + 3) lv st) : J C ce sl M pc lv (rf v :: rf a :: st) := by
  obtain ⟨M', hv, hf⟩ := bnd h
  have kk := kk M' hv hf
  obtain ⟨i, rfl, hv2⟩ := bnd hv
  split at hv2
  case isFalse => cases hv2
  case isTrue hi =>
  cases hv2
  obtain ⟨p, l, e, R, s, m, args, below, meth, c, H0, A, Q, nL0, G, ad0, n0⟩ := C
  obtain ⟨hx, hb, hml, hnl, hown, hts, hKK, hH0, hA, hlk, hrt, hR, hQ, hxt⟩ := hC
  intro ad H locs ls hW hAa hag hn hvl hvs hS hl
  have he := pool_at (G := G) (ad := ad) hi.1
  rw [ent_2 hi.2] at he
  have hD := pool_D hW hAa
  have e2 : (pool G ad M).set i (ad i, .inr (2, [re ad (mR M i 0), re ad (mR M i 1), .int (mI M i 2), re ad (mR M i 3), re ad (mR M i 4), re ad (mR M i 5), .int (mI M i 6), re ad (mR M i 7), re ad (mR M i 8), re ad v])) = pool G ad (sR M i 9 v) := pool_set rfl hi.1 (by rw [ent_2 hi.2]; simp [sR, mI, mJ, mR, up2]) (fun j hj => ent_sR_ne hj)
  have e3 : phys ad (rf v) = re ad v := phys_rf ad v
  rw [List.map_cons, e3]
  skip
  exact va_putF (D := G.1) (ci := 2) (C := RX2) (T := TX2) (N := 10) (ty := tyX2 9) (v := re ad v) hx hb hts inB2 tyX2 tyX2_ok nmX2 hown hKK.1.1 hW.1 hD hS i he rfl 9 (by decide) (hts _ hw) (fun _ h9 => h9) rfl hin hdc (by decide +kernel) (by cases v <;> rfl) (by cases v <;> rfl) (Nat.le_of_ble_eq_true rfl) hdg (fun H1 locs1 hP1 hD1 hS1 => kk ad H1 locs1 ls ⟨by rw [← e2]; exact hP1, hW.2.1, wf_sR hW.2.2 (vs_h hvs)⟩ hAa hag hn hvl (vs_t (vs_t hvs)) hS1 hl)
theorem J_g11_0 {C : JC} {x : Bool} {cc : ByteArray} {nL : Nat} {rm : Room} {rt : Option FieldType} {own : String} {res : Res} {ce sl : Nat} {M : Mem} {pc : Nat} {lv : List (Nat × Value)} {st : List Value} {β : Type} {r0 : β} {f : Option Nat → Option β} {index : Nat} {a : Option Nat} (hC : Ok C x cc nL rm rt own res) (hw : Cond.fieldLink own index RXT (TXT 0).2.1 (TXT 0).2.2.1 ∈ BIG) (hdg : decode cc pc = .ok (.getfield index, 3)) (h : (gR 11 0 M a).bind f = some r0)
    (kk : ∀ v, gR 11 0 M a = some v → f v = some r0 → J C ce sl M (pc + 3) lv (rf v :: st)) : J C ce sl M pc lv (rf a :: st) := by
  obtain ⟨v, hv, hf⟩ := bnd h
  have kk := kk v hv hf
  obtain ⟨i, rfl, hv2⟩ := bnd hv
  split at hv2
  case isFalse => cases hv2
  case isTrue hi =>
  cases hv2
  obtain ⟨p, l, e, R, s, m, args, below, meth, c, H0, A, Q, nL0, G, ad0, n0⟩ := C
  obtain ⟨hx, hb, hml, hnl, hown, hts, hKK, hH0, hA, hlk, hrt, hR, hQ, hxt⟩ := hC
  intro ad H locs ls hW hAa hag hn hvl hvs hS hl
  have he := pool_at (G := G) (ad := ad) hi.1
  rw [ent_11 hi.2] at he
  have k2 := kk ad H locs ls hW hAa hag hn hvl (vs_c (Vok_rf (fun j e => hW.2.2 _ _ j hi.1 e)) (vs_t hvs)) hS hl
  rw [List.map_cons, phys_rf] at k2
  exact va_get (D := G.1) (ci := 3) (C := RXT) (T := TXT) (N := 1) hx hb hts inB11 hown hKK.1.1 hW.1 i he rfl 0 (by decide) (hts _ hw) (fun _ h9 => h9) rfl hdg k2
theorem J_p11_0 {C : JC} {x : Bool} {cc : ByteArray} {nL : Nat} {rm : Room} {rt : Option FieldType} {own : String} {res : Res} {ce sl : Nat} {M : Mem} {pc : Nat} {lv : List (Nat × Value)} {st : List Value} {β : Type} {r0 : β} {f : Mem → Option β} {index : Nat} {a : Option Nat} {v : Option Nat} (hC : Ok C x cc nL rm rt own res) (hin : isInit C) (hdc : (TXT 0).1 = own) (hw : Cond.fieldLink own index RXT (TXT 0).2.1 (TXT 0).2.2.1 ∈ BIG) (hdg : decode cc pc = .ok (.putfield index, 3)) (h : (pR 11 0 M a v).bind f = some r0)
    (kk : ∀ M', pR 11 0 M a v = some M' → f M' = some r0 → J C ce sl M' (pc + 3) lv st) : J C ce sl M pc lv (rf v :: rf a :: st) := by
  obtain ⟨M', hv, hf⟩ := bnd h
  have kk := kk M' hv hf
  obtain ⟨i, rfl, hv2⟩ := bnd hv
  split at hv2
  case isFalse => cases hv2
  case isTrue hi =>
  cases hv2
  obtain ⟨p, l, e, R, s, m, args, below, meth, c, H0, A, Q, nL0, G, ad0, n0⟩ := C
  obtain ⟨hx, hb, hml, hnl, hown, hts, hKK, hH0, hA, hlk, hrt, hR, hQ, hxt⟩ := hC
  intro ad H locs ls hW hAa hag hn hvl hvs hS hl
  have he := pool_at (G := G) (ad := ad) hi.1
  rw [ent_11 hi.2] at he
  have hD := pool_D hW hAa
  have e2 : (pool G ad M).set i (ad i, .inr (3, [re ad v])) = pool G ad (sR M i 0 v) := pool_set rfl hi.1 (by rw [ent_11 hi.2]; simp [sR, mI, mJ, mR, up2]) (fun j hj => ent_sR_ne hj)
  have e3 : phys ad (rf v) = re ad v := phys_rf ad v
  rw [List.map_cons, e3]
  skip
  exact va_putF (D := G.1) (ci := 3) (C := RXT) (T := TXT) (N := 1) (ty := tyXT 0) (v := re ad v) hx hb hts inB11 tyXT tyXT_ok nmXT hown hKK.1.1 hW.1 hD hS i he rfl 0 (by decide) (hts _ hw) (fun _ h9 => h9) rfl hin hdc (by decide +kernel) (by cases v <;> rfl) (by cases v <;> rfl) (Nat.le_of_ble_eq_true rfl) hdg (fun H1 locs1 hP1 hD1 hS1 => kk ad H1 locs1 ls ⟨by rw [← e2]; exact hP1, hW.2.1, wf_sR hW.2.2 (vs_h hvs)⟩ hAa hag hn hvl (vs_t (vs_t hvs)) hS1 hl)
theorem J_iald {C : JC} {x : Bool} {cc : ByteArray} {nL : Nat} {rm : Room} {rt : Option FieldType} {own : String} {res : Res} {ce sl : Nat} {M : Mem} {pc : Nat} {lv : List (Nat × Value)} {st : List Value} {β : Type} {r0 : β} {f : Int32 → Option β} {a : Option Nat} {z : Int32} (hC : Ok C x cc nL rm rt own res) (hdg : decode cc pc = .ok (.iaload, 1)) (h : (aI M a z).bind f = some r0)
    (kk : ∀ v, aI M a z = some v → f v = some r0 → J C ce sl M (pc + 1) lv (.int v :: st)) : J C ce sl M pc lv (.int z :: rf a :: st) := by
  obtain ⟨v, hv, hf⟩ := bnd h
  have kk := kk v hv hf
  obtain ⟨i, rfl, hv2⟩ := bnd hv
  split at hv2
  case isFalse => cases hv2
  case isTrue hi =>
  cases hv2
  obtain ⟨p, l, e, R, s, m, args, below, meth, c, H0, A, Q, nL0, G, ad0, n0⟩ := C
  obtain ⟨hx, hb, hml, hnl, hown, hts, hKK, hH0, hA, hlk, hrt, hR, hQ, hxt⟩ := hC
  intro ad H locs ls hW hAa hag hn hvl hvs hS hl
  have he := pool_at (G := G) (ad := ad) hi.1
  rw [ent_4 hi.2.1] at he
  have k2 := kk ad H locs ls hW hAa hag hn hvl (vs_c Vok_int (vs_t (vs_t hvs))) hS hl
  skip
  exact va_iald hx hb hKK.1.1 hW.1 i 0 he rfl (inRb_vp hi.2.2) hdg k2
theorem J_lald {C : JC} {x : Bool} {cc : ByteArray} {nL : Nat} {rm : Room} {rt : Option FieldType} {own : String} {res : Res} {ce sl : Nat} {M : Mem} {pc : Nat} {lv : List (Nat × Value)} {st : List Value} {β : Type} {r0 : β} {f : Int64 → Option β} {a : Option Nat} {z : Int32} (hC : Ok C x cc nL rm rt own res) (hdg : decode cc pc = .ok (.laload, 1)) (h : (aJ M a z).bind f = some r0)
    (kk : ∀ v, aJ M a z = some v → f v = some r0 → J C ce sl M (pc + 1) lv (.long v :: st)) : J C ce sl M pc lv (.int z :: rf a :: st) := by
  obtain ⟨v, hv, hf⟩ := bnd h
  have kk := kk v hv hf
  obtain ⟨i, rfl, hv2⟩ := bnd hv
  split at hv2
  case isFalse => cases hv2
  case isTrue hi =>
  cases hv2
  obtain ⟨p, l, e, R, s, m, args, below, meth, c, H0, A, Q, nL0, G, ad0, n0⟩ := C
  obtain ⟨hx, hb, hml, hnl, hown, hts, hKK, hH0, hA, hlk, hrt, hR, hQ, hxt⟩ := hC
  intro ad H locs ls hW hAa hag hn hvl hvs hS hl
  have he := pool_at (G := G) (ad := ad) hi.1
  rw [ent_5 hi.2.1] at he
  have k2 := kk ad H locs ls hW hAa hag hn hvl (vs_c Vok_long (vs_t (vs_t hvs))) hS hl
  skip
  exact va_lald hx hb hKK.1.1 hW.1 i 1 he rfl (inRb_vp hi.2.2) hdg k2
theorem J_zald {C : JC} {x : Bool} {cc : ByteArray} {nL : Nat} {rm : Room} {rt : Option FieldType} {own : String} {res : Res} {ce sl : Nat} {M : Mem} {pc : Nat} {lv : List (Nat × Value)} {st : List Value} {β : Type} {r0 : β} {f : Int32 → Option β} {a : Option Nat} {z : Int32} (hC : Ok C x cc nL rm rt own res) (hdg : decode cc pc = .ok (.baload, 1)) (h : (aZ M a z).bind f = some r0)
    (kk : ∀ v, aZ M a z = some v → f v = some r0 → J C ce sl M (pc + 1) lv (.int v :: st)) : J C ce sl M pc lv (.int z :: rf a :: st) := by
  obtain ⟨v, hv, hf⟩ := bnd h
  have kk := kk v hv hf
  obtain ⟨i, rfl, hv2⟩ := bnd hv
  split at hv2
  case isFalse => cases hv2
  case isTrue hi =>
  cases hv2
  obtain ⟨p, l, e, R, s, m, args, below, meth, c, H0, A, Q, nL0, G, ad0, n0⟩ := C
  obtain ⟨hx, hb, hml, hnl, hown, hts, hKK, hH0, hA, hlk, hrt, hR, hQ, hxt⟩ := hC
  intro ad H locs ls hW hAa hag hn hvl hvs hS hl
  have he := pool_at (G := G) (ad := ad) hi.1
  rw [ent_6 hi.2.1] at he
  have k2 := kk ad H locs ls hW hAa hag hn hvl (vs_c Vok_int (vs_t (vs_t hvs))) hS hl
  skip
  exact va_zald hx hb hKK.1.1 hW.1 i 2 he rfl (inRb_vp hi.2.2) hdg k2
theorem J_aald7 {C : JC} {x : Bool} {cc : ByteArray} {nL : Nat} {rm : Room} {rt : Option FieldType} {own : String} {res : Res} {ce sl : Nat} {M : Mem} {pc : Nat} {lv : List (Nat × Value)} {st : List Value} {β : Type} {r0 : β} {f : Option Nat → Option β} {a : Option Nat} {z : Int32} (hC : Ok C x cc nL rm rt own res) (hdg : decode cc pc = .ok (.aaload, 1)) (h : (aR 7 M a z).bind f = some r0)
    (kk : ∀ v, aR 7 M a z = some v → f v = some r0 → J C ce sl M (pc + 1) lv (rf v :: st)) : J C ce sl M pc lv (.int z :: rf a :: st) := by
  obtain ⟨v, hv, hf⟩ := bnd h
  have kk := kk v hv hf
  obtain ⟨i, rfl, hv2⟩ := bnd hv
  split at hv2
  case isFalse => cases hv2
  case isTrue hi =>
  cases hv2
  obtain ⟨p, l, e, R, s, m, args, below, meth, c, H0, A, Q, nL0, G, ad0, n0⟩ := C
  obtain ⟨hx, hb, hml, hnl, hown, hts, hKK, hH0, hA, hlk, hrt, hR, hQ, hxt⟩ := hC
  intro ad H locs ls hW hAa hag hn hvl hvs hS hl
  have he := pool_at (G := G) (ad := ad) hi.1
  rw [ent_7 hi.2.1] at he
  have k2 := kk ad H locs ls hW hAa hag hn hvl (vs_c (Vok_rf (fun j e => hW.2.2 _ _ j hi.1 e)) (vs_t (vs_t hvs))) hS hl
  rw [List.map_cons, phys_rf] at k2
  exact va_aldq hx hb hKK.1.1 hW.1 i 3 he rfl (inRb_vp hi.2.2) hdg k2
theorem J_aald8 {C : JC} {x : Bool} {cc : ByteArray} {nL : Nat} {rm : Room} {rt : Option FieldType} {own : String} {res : Res} {ce sl : Nat} {M : Mem} {pc : Nat} {lv : List (Nat × Value)} {st : List Value} {β : Type} {r0 : β} {f : Option Nat → Option β} {a : Option Nat} {z : Int32} (hC : Ok C x cc nL rm rt own res) (hdg : decode cc pc = .ok (.aaload, 1)) (h : (aR 8 M a z).bind f = some r0)
    (kk : ∀ v, aR 8 M a z = some v → f v = some r0 → J C ce sl M (pc + 1) lv (rf v :: st)) : J C ce sl M pc lv (.int z :: rf a :: st) := by
  obtain ⟨v, hv, hf⟩ := bnd h
  have kk := kk v hv hf
  obtain ⟨i, rfl, hv2⟩ := bnd hv
  split at hv2
  case isFalse => cases hv2
  case isTrue hi =>
  cases hv2
  obtain ⟨p, l, e, R, s, m, args, below, meth, c, H0, A, Q, nL0, G, ad0, n0⟩ := C
  obtain ⟨hx, hb, hml, hnl, hown, hts, hKK, hH0, hA, hlk, hrt, hR, hQ, hxt⟩ := hC
  intro ad H locs ls hW hAa hag hn hvl hvs hS hl
  have he := pool_at (G := G) (ad := ad) hi.1
  rw [ent_8 hi.2.1] at he
  have k2 := kk ad H locs ls hW hAa hag hn hvl (vs_c (Vok_rf (fun j e => hW.2.2 _ _ j hi.1 e)) (vs_t (vs_t hvs))) hS hl
  rw [List.map_cons, phys_rf] at k2
  exact va_aldq hx hb hKK.1.1 hW.1 i 4 he rfl (inRb_vp hi.2.2) hdg k2
theorem va_aldA {p : Program} {l : Launch} {e : Env} {R : Room} {s : State} {m : MethodId} {args : Array Value} {below : List Frame} {meth : Method} {c : Code} {H : Heap} {locs : List Loc} {cells slots : Nat} {Q : State → Prop} {cc : ByteArray} {pc : Nat} {ls : Array Slot} {rest : List Value} {D : va_G} {cl : List vw_C} {a : Nat} {tys : List (ClassId × FieldType)} {ws : va_W} (hexec : p.tables.exec = Jvm.exec) (hb : c.code = cc) (hK : va_K D cl tys s) (hP : va_P D cl ws H) (q0 t0 : Nat) {cA : ClassId} {ty : FieldType} {n : Nat} {f : Nat → Option Nat} (ha : ws[q0]? = some (a, .inl (cA, n, .inr (.inr (.inr (.inr f)))))) (ht : tys[t0]? = some (cA, .array ty)) {i : Int32} (hin : vp_in i n) (hdg : decode cc pc = .ok (.aaload, 1))
    (kk : W p l e R s m args below meth c H locs cells slots Q (F0 m (pc + 1) ls (va_rf (f i.toNatClampNeg) :: rest))) : W p l e R s m args below meth c H locs cells slots Q (F0 m pc ls (.int i :: .ref a :: rest)) := by
  have hlt : i.toNatClampNeg < n := Nat.not_le.mp fun q => hin (Or.inr q)
  exact W.aald (v := va_rf (f i.toNatClampNeg)) (ty := .array ty) hexec hb (hP q0 _ ha) ((hK.2 t0 _ ht).1 n (fun j => va_rf (f j))) rfl (fun q => by cases q) (by show ¬ (i < 0 ∨ (arrV _ _ _).slots.size ≤ _); rw [arrV_size]; exact hin) (by show (arrV _ _ _).slots[_]? = _; rw [arrV_read _ _ hlt]) rfl rfl hdg kk
theorem J_aald9 {C : JC} {x : Bool} {cc : ByteArray} {nL : Nat} {rm : Room} {rt : Option FieldType} {own : String} {res : Res} {ce sl : Nat} {M : Mem} {pc : Nat} {lv : List (Nat × Value)} {st : List Value} {β : Type} {r0 : β} {f : Option Nat → Option β} {a : Option Nat} {z : Int32} (hC : Ok C x cc nL rm rt own res) (hdg : decode cc pc = .ok (.aaload, 1)) (h : (aR 9 M a z).bind f = some r0)
    (kk : ∀ v, aR 9 M a z = some v → f v = some r0 → J C ce sl M (pc + 1) lv (rf v :: st)) : J C ce sl M pc lv (.int z :: rf a :: st) := by
  obtain ⟨v, hv, hf⟩ := bnd h
  have kk := kk v hv hf
  obtain ⟨i, rfl, hv2⟩ := bnd hv
  split at hv2
  case isFalse => cases hv2
  case isTrue hi =>
  cases hv2
  obtain ⟨p, l, e, R, s, m, args, below, meth, c, H0, A, Q, nL0, G, ad0, n0⟩ := C
  obtain ⟨hx, hb, hml, hnl, hown, hts, hKK, hH0, hA, hlk, hrt, hR, hQ, hxt⟩ := hC
  intro ad H locs ls hW hAa hag hn hvl hvs hS hl
  have he := pool_at (G := G) (ad := ad) hi.1
  rw [ent_9 hi.2.1] at he
  have k2 := kk ad H locs ls hW hAa hag hn hvl (vs_c (Vok_rf (fun j e => hW.2.2 _ _ j hi.1 e)) (vs_t (vs_t hvs))) hS hl
  rw [List.map_cons, phys_rf] at k2
  exact va_aldA hx hb hKK.1.1 hW.1 i 5 he rfl (inRb_vp hi.2.2) hdg k2
theorem J_iast {C : JC} {x : Bool} {cc : ByteArray} {nL : Nat} {rm : Room} {rt : Option FieldType} {own : String} {res : Res} {ce sl : Nat} {M : Mem} {pc : Nat} {lv : List (Nat × Value)} {st : List Value} {β : Type} {r0 : β} {f : Mem → Option β} {a : Option Nat} {z : Int32} {v : Int32} (hC : Ok C x cc nL rm rt own res) (hdg : decode cc pc = .ok (.iastore, 1)) (h : (wI M a z v).bind f = some r0)
    (kk : ∀ M', wI M a z v = some M' → f M' = some r0 → J C ce sl M' (pc + 1) lv st) : J C ce sl M pc lv (.int v :: .int z :: rf a :: st) := by
  obtain ⟨M', hv, hf⟩ := bnd h
  have kk := kk M' hv hf
  obtain ⟨i, rfl, hv2⟩ := bnd hv
  split at hv2
  case isFalse => cases hv2
  case isTrue hi =>
  cases hv2
  obtain ⟨p, l, e, R, s, m, args, below, meth, c, H0, A, Q, nL0, G, ad0, n0⟩ := C
  obtain ⟨hx, hb, hml, hnl, hown, hts, hKK, hH0, hA, hlk, hrt, hR, hQ, hxt⟩ := hC
  intro ad H locs ls hW hAa hag hn hvl hvs hS hl
  have he := pool_at (G := G) (ad := ad) hi.1
  rw [ent_4 hi.2.1] at he
  have hD := pool_D hW hAa
  skip
  have e2 : (pool G ad M).set i (ad i, .inl (G.2 0, ln i, .inl (upd (mI M i) z.toNatClampNeg v))) = pool G ad (sI M i z.toNatClampNeg v) := pool_set rfl hi.1 (by rw [ent_4 hi.2.1]; rw [show mI (sI M i z.toNatClampNeg v) i = upd (mI M i) z.toNatClampNeg v from (funext fun q => by simp [sI, mI, mJ, mR, mD, up2, upd, vp_updL, vf_upd])]) (fun j hj => ent_sI_ne hj)
  exact va_iast hx hb hKK.1.1 hW.1 hD hS i 0 he rfl (inRb_vp hi.2.2) hdg (fun H1 locs1 hP1 hD1 hS1 => kk ad H1 locs1 ls ⟨by rw [← e2]; exact hP1, hW.2⟩ hAa hag hn hvl (vs_t (vs_t (vs_t hvs))) hS1 hl)
theorem J_last {C : JC} {x : Bool} {cc : ByteArray} {nL : Nat} {rm : Room} {rt : Option FieldType} {own : String} {res : Res} {ce sl : Nat} {M : Mem} {pc : Nat} {lv : List (Nat × Value)} {st : List Value} {β : Type} {r0 : β} {f : Mem → Option β} {a : Option Nat} {z : Int32} {v : Int64} (hC : Ok C x cc nL rm rt own res) (hdg : decode cc pc = .ok (.lastore, 1)) (h : (wJ M a z v).bind f = some r0)
    (kk : ∀ M', wJ M a z v = some M' → f M' = some r0 → J C ce sl M' (pc + 1) lv st) : J C ce sl M pc lv (.long v :: .int z :: rf a :: st) := by
  obtain ⟨M', hv, hf⟩ := bnd h
  have kk := kk M' hv hf
  obtain ⟨i, rfl, hv2⟩ := bnd hv
  split at hv2
  case isFalse => cases hv2
  case isTrue hi =>
  cases hv2
  obtain ⟨p, l, e, R, s, m, args, below, meth, c, H0, A, Q, nL0, G, ad0, n0⟩ := C
  obtain ⟨hx, hb, hml, hnl, hown, hts, hKK, hH0, hA, hlk, hrt, hR, hQ, hxt⟩ := hC
  intro ad H locs ls hW hAa hag hn hvl hvs hS hl
  have he := pool_at (G := G) (ad := ad) hi.1
  rw [ent_5 hi.2.1] at he
  have hD := pool_D hW hAa
  skip
  have e2 : (pool G ad M).set i (ad i, .inl (G.2 1, ln i, .inr (.inl (vp_updL (mJ M i) z.toNatClampNeg v)))) = pool G ad (sJ M i z.toNatClampNeg v) := pool_set rfl hi.1 (by rw [ent_5 hi.2.1]; rw [show mJ (sJ M i z.toNatClampNeg v) i = vp_updL (mJ M i) z.toNatClampNeg v from (funext fun q => by simp [sJ, mI, mJ, mR, mD, up2, upd, vp_updL, vf_upd])]) (fun j hj => ent_sJ_ne hj)
  exact va_last hx hb hKK.1.1 hW.1 hD hS i 1 he rfl (inRb_vp hi.2.2) hdg (fun H1 locs1 hP1 hD1 hS1 => kk ad H1 locs1 ls ⟨by rw [← e2]; exact hP1, hW.2⟩ hAa hag hn hvl (vs_t (vs_t (vs_t hvs))) hS1 hl)
theorem J_zast {C : JC} {x : Bool} {cc : ByteArray} {nL : Nat} {rm : Room} {rt : Option FieldType} {own : String} {res : Res} {ce sl : Nat} {M : Mem} {pc : Nat} {lv : List (Nat × Value)} {st : List Value} {β : Type} {r0 : β} {f : Mem → Option β} {a : Option Nat} {z : Int32} {v : Int32} (hC : Ok C x cc nL rm rt own res) (hdg : decode cc pc = .ok (.bastore, 1)) (h : (wZ M a z v).bind f = some r0)
    (kk : ∀ M', wZ M a z v = some M' → f M' = some r0 → J C ce sl M' (pc + 1) lv st) : J C ce sl M pc lv (.int v :: .int z :: rf a :: st) := by
  obtain ⟨M', hv, hf⟩ := bnd h
  have kk := kk M' hv hf
  obtain ⟨i, rfl, hv2⟩ := bnd hv
  split at hv2
  case isFalse => cases hv2
  case isTrue hi =>
  cases hv2
  obtain ⟨p, l, e, R, s, m, args, below, meth, c, H0, A, Q, nL0, G, ad0, n0⟩ := C
  obtain ⟨hx, hb, hml, hnl, hown, hts, hKK, hH0, hA, hlk, hrt, hR, hQ, hxt⟩ := hC
  intro ad H locs ls hW hAa hag hn hvl hvs hS hl
  have he := pool_at (G := G) (ad := ad) hi.1
  rw [ent_6 hi.2.1] at he
  have hD := pool_D hW hAa
  have hn1 : vp_nar .boolean v = v := by rw [hi.2.2.2]; decide
  have e2 : (pool G ad M).set i (ad i, .inl (G.2 2, ln i, .inl (upd (mI M i) z.toNatClampNeg (vp_nar .boolean v)))) = pool G ad (sI M i z.toNatClampNeg v) := pool_set rfl hi.1 (by rw [ent_6 hi.2.1]; rw [show mI (sI M i z.toNatClampNeg v) i = upd (mI M i) z.toNatClampNeg (vp_nar .boolean v) from (funext fun q => by simp [hn1, sI, mI, mJ, mR, mD, up2, upd, vp_updL, vf_upd])]) (fun j hj => ent_sI_ne hj)
  exact va_zast hx hb hKK.1.1 hW.1 hD hS i 2 he rfl (inRb_vp hi.2.2.1) hdg (fun H1 locs1 hP1 hD1 hS1 => kk ad H1 locs1 ls ⟨by rw [← e2]; exact hP1, hW.2⟩ hAa hag hn hvl (vs_t (vs_t (vs_t hvs))) hS1 hl)
theorem J_aast7 {C : JC} {x : Bool} {cc : ByteArray} {nL : Nat} {rm : Room} {rt : Option FieldType} {own : String} {res : Res} {ce sl : Nat} {M : Mem} {pc : Nat} {lv : List (Nat × Value)} {st : List Value} {β : Type} {r0 : β} {f : Mem → Option β} {a v : Option Nat} {z : Int32} (hC : Ok C x cc nL rm rt own res) (hdg : decode cc pc = .ok (.aastore, 1)) (h : (wR 7 0 M a z v).bind f = some r0)
    (kk : ∀ M', wR 7 0 M a z v = some M' → f M' = some r0 → J C ce sl M' (pc + 1) lv st) : J C ce sl M pc lv (rf v :: .int z :: rf a :: st) := by
  obtain ⟨M', hv, hf⟩ := bnd h
  have kk := kk M' hv hf
  obtain ⟨i, rfl, hv2⟩ := bnd hv
  obtain ⟨j, rfl, hv3⟩ := bnd hv2
  split at hv3
  case isFalse => cases hv3
  case isTrue hi =>
  cases hv3
  obtain ⟨p, l, e, R, s, m, args, below, meth, c, H0, A, Q, nL0, G, ad0, n0⟩ := C
  obtain ⟨hx, hb, hml, hnl, hown, hts, hKK, hH0, hA, hlk, hrt, hR, hQ, hxt⟩ := hC
  intro ad H locs ls hW hAa hag hn hvl hvs hS hl
  have he := pool_at (G := G) (ad := ad) hi.1
  rw [ent_7 hi.2.1] at he
  have hej := pool_at (G := G) (ad := ad) hi.2.2.2.1
  rw [ent_0 hi.2.2.2.2] at hej
  have hD := pool_D hW hAa
  have e2 : (pool G ad M).set i (ad i, .inl (G.2 3, ln i, .inr (.inr (.inr (.inr (va_up (fun k => (mR M i k).map ad) z.toNatClampNeg (some (ad j)))))))) = pool G ad (sR M i z.toNatClampNeg (some j)) := pool_set rfl hi.1 (by rw [ent_7 hi.2.1]; congr 7; funext q; by_cases hq : q = z.toNatClampNeg <;> simp [sR, mR, up2, va_up, hq]) (fun j hj => ent_sR_ne hj)
  exact va_astq (r := (RX0, TX0, 6)) hx hb hKK.1.1 hW.1 hD hS i 3 j 0 he rfl hej rfl (inRb_vp hi.2.2.1) hdg (fun H1 locs1 hP1 hD1 hS1 => kk ad H1 locs1 ls ⟨by rw [← e2]; exact hP1, hW.2.1, wf_sR hW.2.2 (vs_h hvs)⟩ hAa hag hn hvl (vs_t (vs_t (vs_t hvs))) hS1 hl)
theorem J_aast8 {C : JC} {x : Bool} {cc : ByteArray} {nL : Nat} {rm : Room} {rt : Option FieldType} {own : String} {res : Res} {ce sl : Nat} {M : Mem} {pc : Nat} {lv : List (Nat × Value)} {st : List Value} {β : Type} {r0 : β} {f : Mem → Option β} {a v : Option Nat} {z : Int32} (hC : Ok C x cc nL rm rt own res) (hdg : decode cc pc = .ok (.aastore, 1)) (h : (wR 8 1 M a z v).bind f = some r0)
    (kk : ∀ M', wR 8 1 M a z v = some M' → f M' = some r0 → J C ce sl M' (pc + 1) lv st) : J C ce sl M pc lv (rf v :: .int z :: rf a :: st) := by
  obtain ⟨M', hv, hf⟩ := bnd h
  have kk := kk M' hv hf
  obtain ⟨i, rfl, hv2⟩ := bnd hv
  obtain ⟨j, rfl, hv3⟩ := bnd hv2
  split at hv3
  case isFalse => cases hv3
  case isTrue hi =>
  cases hv3
  obtain ⟨p, l, e, R, s, m, args, below, meth, c, H0, A, Q, nL0, G, ad0, n0⟩ := C
  obtain ⟨hx, hb, hml, hnl, hown, hts, hKK, hH0, hA, hlk, hrt, hR, hQ, hxt⟩ := hC
  intro ad H locs ls hW hAa hag hn hvl hvs hS hl
  have he := pool_at (G := G) (ad := ad) hi.1
  rw [ent_8 hi.2.1] at he
  have hej := pool_at (G := G) (ad := ad) hi.2.2.2.1
  rw [ent_1 hi.2.2.2.2] at hej
  have hD := pool_D hW hAa
  have e2 : (pool G ad M).set i (ad i, .inl (G.2 4, ln i, .inr (.inr (.inr (.inr (va_up (fun k => (mR M i k).map ad) z.toNatClampNeg (some (ad j)))))))) = pool G ad (sR M i z.toNatClampNeg (some j)) := pool_set rfl hi.1 (by rw [ent_8 hi.2.1]; congr 7; funext q; by_cases hq : q = z.toNatClampNeg <;> simp [sR, mR, up2, va_up, hq]) (fun j hj => ent_sR_ne hj)
  exact va_astq (r := (RX1, TX1, 5)) hx hb hKK.1.1 hW.1 hD hS i 4 j 1 he rfl hej rfl (inRb_vp hi.2.2.1) hdg (fun H1 locs1 hP1 hD1 hS1 => kk ad H1 locs1 ls ⟨by rw [← e2]; exact hP1, hW.2.1, wf_sR hW.2.2 (vs_h hvs)⟩ hAa hag hn hvl (vs_t (vs_t (vs_t hvs))) hS1 hl)
theorem J_copyi {C : JC} {x : Bool} {cc : ByteArray} {nL : Nat} {rm : Room} {rt : Option FieldType} {own : String} {res : Res} {ce sl : Nat} {M : Mem} {pc : Nat} {lv : List (Nat × Value)} {st : List Value} {β : Type} {r0 : β} {f : Mem → Option β} {index : Nat} {a b : Option Nat} {sp dp n : Int32} (hC : Ok C x cc nL rm rt own res) (hw : Cond.methodLink own index arraycopyName ∈ BIG) (hcat : (st.map fun v => v.category).sum ≤ 8) (hfr : 1 ≤ rm.frames) (hlo : 8 + (nativeFrameWords "java/lang/System" "arraycopy" 5 + 11) ≤ rm.locals) (hdg : decode cc pc = .ok (.invokestatic index, 3)) (h : (cpI M a sp b dp n).bind f = some r0)
    (kk : ∀ M', cpI M a sp b dp n = some M' → f M' = some r0 → J C ce sl M' (pc + 3) lv st) : J C ce sl M pc lv (.int n :: .int dp :: rf b :: .int sp :: rf a :: st) := by
  obtain ⟨M', hv, hf⟩ := bnd h
  have kk := kk M' hv hf
  obtain ⟨i, rfl, hv2⟩ := bnd hv
  obtain ⟨j, rfl, hv3⟩ := bnd hv2
  split at hv3
  case isFalse => cases hv3
  case isTrue hi =>
  cases hv3
  obtain ⟨p, l, e, R, s, m, args, below, meth, c, H0, A, Q, nL0, G, ad0, n0⟩ := C
  obtain ⟨hx, hb, hml, hnl, hown, hts, hKK, hH0, hA, hlk, hrt, hR, hQ, hxt⟩ := hC
  intro ad H locs ls hW hAa hag hn hvl hvs hS hl
  obtain ⟨⟨i1, i2, i3, i4⟩, ⟨s1, s2, s3⟩, g1, g2⟩ := hi
  have he := pool_at (G := G) (ad := ad) i1
  rw [ent_4 i2] at he
  have hej := pool_at (G := G) (ad := ad) i3
  rw [ent_4 i4] at hej
  have hD := pool_D hW hAa
  subst hR
  have hcat2 : ((st.map (phys ad)).map fun v => v.category).sum ≤ 8 := by rw [List.map_map, show ((fun v : Value => v.category) ∘ phys ad) = (fun v => v.category) from funext (cat_phys ad)]; exact hcat
  have e2 : (pool G ad M).set j (ad j, .inl (G.2 0, ln j, .inl (va_cpy (mI M i) (mI M j) sp.toNatClampNeg dp.toNatClampNeg n.toNatClampNeg))) = pool G ad (sRow M j (va_cpy (mI M i) (mI M j) sp.toNatClampNeg dp.toNatClampNeg n.toNatClampNeg)) := pool_set rfl i3 (by rw [ent_4 i4]; congr 4; funext q; simp [sRow, mI]) (fun j hj => ent_sRow_ne hj)
  exact va_copyi hx hb (by rw [hml, ← hnl]; exact hl.1.symm) hown (hts _ hw) (hts _ w_acn) (hts _ w_acs) (hts _ w_aci) hKK.1.1 hW.1 hD hS i j 0 0 he hej rfl rfl rfl s1 s2 s3 g1 g2 (fun _ _ => rfl) hfr (by omega) hdg (fun H1 locs1 hP1 hD1 hS1 => kk ad H1 locs1 ls ⟨by rw [← e2]; exact hP1, hW.2⟩ hAa hag hn hvl (vs_t (vs_t (vs_t (vs_t (vs_t hvs))))) hS1 hl)
theorem J_alen {C : JC} {x : Bool} {cc : ByteArray} {nL : Nat} {rm : Room} {rt : Option FieldType} {own : String} {res : Res} {ce sl : Nat} {M : Mem} {pc : Nat} {lv : List (Nat × Value)} {st : List Value} {β : Type} {r0 : β} {f : Int32 → Option β} {a : Option Nat} (hC : Ok C x cc nL rm rt own res) (hdg : decode cc pc = .ok (.arraylength, 1)) (h : (aL M a).bind f = some r0)
    (kk : ∀ v, aL M a = some v → f v = some r0 → J C ce sl M (pc + 1) lv (.int v :: st)) : J C ce sl M pc lv (rf a :: st) := by
  obtain ⟨v, hv, hf⟩ := bnd h
  have kk := kk v hv hf
  obtain ⟨i, rfl, hv2⟩ := bnd hv
  split at hv2
  case isFalse => cases hv2
  case isTrue hi =>
  cases hv2
  obtain ⟨p, l, e, R, s, m, args, below, meth, c, H0, A, Q, nL0, G, ad0, n0⟩ := C
  obtain ⟨hx, hb, hml, hnl, hown, hts, hKK, hH0, hA, hlk, hrt, hR, hQ, hxt⟩ := hC
  intro ad H locs ls hW hAa hag hn hvl hvs hS hl
  have he := pool_at (G := G) (ad := ad) hi.1
  have k2 := kk ad H locs ls hW hAa hag hn hvl (vs_c Vok_int (vs_t hvs)) hS hl
  rcases (show kd i = 4 ∨ kd i = 5 ∨ kd i = 6 ∨ kd i = 7 ∨ kd i = 8 ∨ kd i = 9 by omega) with h9 | h9 | h9 | h9 | h9 | h9
  · rw [ent_4 h9] at he; exact va_alen hx hb hKK.1.1 hW.1 i 0 he rfl rfl hdg k2
  · rw [ent_5 h9] at he; exact va_alen hx hb hKK.1.1 hW.1 i 1 he rfl rfl hdg k2
  · rw [ent_6 h9] at he; exact va_alen hx hb hKK.1.1 hW.1 i 2 he rfl rfl hdg k2
  · rw [ent_7 h9] at he; exact va_alen hx hb hKK.1.1 hW.1 i 3 he rfl rfl hdg k2
  · rw [ent_8 h9] at he; exact va_alen hx hb hKK.1.1 hW.1 i 4 he rfl rfl hdg k2
  · rw [ent_9 h9] at he; exact va_alen hx hb hKK.1.1 hW.1 i 5 he rfl rfl hdg k2

