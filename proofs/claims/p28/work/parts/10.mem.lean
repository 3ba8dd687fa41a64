set_option linter.unusedVariables false
set_option linter.unusedSimpArgs false
/-! ===== the memory: what a pure picture of all cells is, by logical ids ===== -/
abbrev Mem : Type := Nat × (Nat → Nat → Int32) × (Nat → Nat → Int64) × (Nat → Nat → Option Nat) × (Nat → Nat → UInt64)
def mI (M : Mem) : Nat → Nat → Int32 := M.2.1
def mJ (M : Mem) : Nat → Nat → Int64 := M.2.2.1
def mR (M : Mem) : Nat → Nat → Option Nat := M.2.2.2.1
def mD (M : Mem) : Nat → Nat → UInt64 := M.2.2.2.2
def up2 {α : Type} (f : Nat → Nat → α) (a k : Nat) (v : α) : Nat → Nat → α := fun b j => if b = a ∧ j = k then v else f b j
def sI (M : Mem) (a k : Nat) (v : Int32) : Mem := (M.1, up2 (mI M) a k v, mJ M, mR M, mD M)
def sJ (M : Mem) (a k : Nat) (v : Int64) : Mem := (M.1, mI M, up2 (mJ M) a k v, mR M, mD M)
def sR (M : Mem) (a k : Nat) (v : Option Nat) : Mem := (M.1, mI M, mJ M, up2 (mR M) a k v, mD M)
def sD (M : Mem) (a k : Nat) (v : UInt64) : Mem := (M.1, mI M, mJ M, mR M, up2 (mD M) a k v)
/-- kinds of the ids: 0 Division, 1 State, 2 SignRoots, 3 the model, 4 int[], 5 long[], 6 boolean[], 7 Division[], 8 State[], 9 int[][], 10 double[], 11 Tried -/
def kdState : List Nat := [1, 9, 4, 4, 4, 4, 4, 4]
def lnState : List Nat := [0, 5, 9, 9, 9, 9, 9, 8]
def kdDiv : List Nat := [0, 4, 4, 4]
def lnDiv : List Nat := [0, 9, 9, 9]
def kdL : List Nat := [2] ++ kdState ++ [8, 8, 6, 4, 5, 7, 11, 5] ++ (List.replicate 8 kdState).flatten ++ (List.replicate 9 kdDiv).flatten 
def lnL : List Nat := [0] ++ lnState ++ [6, 2, 2, 60, 9, 9, 0, 1231] ++ (List.replicate 8 lnState).flatten ++ (List.replicate 9 lnDiv).flatten 
def kd (i : Nat) : Nat := kdL.getD i 99
/-- a kind's place in the list of classes -/
def kx (k : Nat) : Nat := match k with
  | 0 => 0
  | 1 => 1
  | 2 => 2
  | 11 => 3
  | _ => 99
theorem kx_4 {k : Nat} (h : kx k < 4) : k = 0 ∨ k = 1 ∨ k = 2 ∨ k = 11 := by
  unfold kx at h
  split at h <;> omega
def ln (i : Nat) : Nat := lnL.getD i 0
abbrev Geo : Type := va_G × (Nat → ClassId)
abbrev tysOf (G : Geo) : List (ClassId × FieldType) := [(G.2 0, .int), (G.2 1, .long), (G.2 2, .boolean), (G.2 3, .object RX0), (G.2 4, .object RX1), (G.2 5, .array .int)]
/-- a reference, by its logical id (the machine's words never hold a return address; 'phys' turns it into the address) -/
def enc (a : Option Nat) : Nat := match a with
  | none => 0
  | some i => i + 1
abbrev rf (a : Option Nat) : Value := .retAddr (enc a)
def phys (ad : Nat → Nat) : Value → Value
  | .retAddr 0 => .null
  | .retAddr (i + 1) => .ref (ad i)
  | v => v
def re (ad : Nat → Nat) (r : Option Nat) : Value := va_rf (r.map ad)
theorem phys_rf (ad : Nat → Nat) (r : Option Nat) : phys ad (rf r) = re ad r := by cases r <;> rfl
def ent (G : Geo) (ad : Nat → Nat) (M : Mem) (i : Nat) : va_E :=
  if kd i = 0 then .inr (0, [re ad (mR M i 0), re ad (mR M i 1), re ad (mR M i 2), .int (mI M i 3), .int (mI M i 4), .int (mI M i 5)])
  else if kd i = 1 then .inr (1, [re ad (mR M i 0), re ad (mR M i 1), .int (mI M i 2), .int (mI M i 3), .int (mI M i 4)])
  else if kd i = 2 then .inr (2, [re ad (mR M i 0), re ad (mR M i 1), .int (mI M i 2), re ad (mR M i 3), re ad (mR M i 4), re ad (mR M i 5), .int (mI M i 6), re ad (mR M i 7), re ad (mR M i 8), re ad (mR M i 9)])
  else if kd i = 11 then .inr (3, [re ad (mR M i 0)])
  else if kd i = 4 then .inl (G.2 0, ln i, .inl (mI M i))
  else if kd i = 5 then .inl (G.2 1, ln i, .inr (.inl (mJ M i)))
  else if kd i = 6 then .inl (G.2 2, ln i, .inl (mI M i))
  else if kd i = 7 then .inl (G.2 3, ln i, .inr (.inr (.inr (.inr (fun k => (mR M i k).map ad)))))
  else if kd i = 8 then .inl (G.2 4, ln i, .inr (.inr (.inr (.inr (fun k => (mR M i k).map ad)))))
  else if kd i = 9 then .inl (G.2 5, ln i, .inr (.inr (.inr (.inr (fun k => (mR M i k).map ad)))))
  else .inl (G.2 6, ln i, .inr (.inr (.inr (.inl (mD M i)))))
def pool (G : Geo) (ad : Nat → Nat) (M : Mem) : va_W := (List.range M.1).map (fun i => (ad i, ent G ad M i))
theorem pool_at {G : Geo} {ad : Nat → Nat} {M : Mem} {i : Nat} (h : i < M.1) : (pool G ad M)[i]? = some (ad i, ent G ad M i) := by
  simp [pool, h]
theorem pool_set {G : Geo} {ad : Nat → Nat} {M M2 : Mem} {i : Nat} {x : va_E} (hn : M2.1 = M.1) (h : i < M.1) (hx : ent G ad M2 i = x) (ho : ∀ j, j ≠ i → ent G ad M2 j = ent G ad M j) : (pool G ad M).set i (ad i, x) = pool G ad M2 := by
  apply List.ext_getElem?
  intro j
  by_cases hj : j = i
  · subst hj
    rw [List.getElem?_set_self (by simp [pool, h]), pool_at (by rw [hn]; exact h), hx]
  · rw [List.getElem?_set_ne (Ne.symm hj)]
    by_cases hl : j < M.1
    · rw [pool_at hl, pool_at (by rw [hn]; exact hl), ho j hj]
    · simp [pool, hl, hn]
theorem ent_sI_ne {G : Geo} {ad : Nat → Nat} {M : Mem} {a k : Nat} {v : Int32} {j : Nat} (h : j ≠ a) : ent G ad (sI M a k v) j = ent G ad M j := by
  have e : ∀ q, mI (sI M a k v) j q = mI M j q := fun q => by show up2 _ _ _ _ _ _ = _; simp [up2, h]
  have e2 : mI (sI M a k v) j = mI M j := funext e
  simp only [ent, e2, show mR (sI M a k v) = mR M from rfl, show mJ (sI M a k v) = mJ M from rfl, show mD (sI M a k v) = mD M from rfl]
theorem ent_sJ_ne {G : Geo} {ad : Nat → Nat} {M : Mem} {a k : Nat} {v : Int64} {j : Nat} (h : j ≠ a) : ent G ad (sJ M a k v) j = ent G ad M j := by
  have e2 : mJ (sJ M a k v) j = mJ M j := funext fun q => by show up2 _ _ _ _ _ _ = _; simp [up2, h]
  simp only [ent, e2, show mR (sJ M a k v) = mR M from rfl, show mI (sJ M a k v) = mI M from rfl, show mD (sJ M a k v) = mD M from rfl]
theorem ent_sR_ne {G : Geo} {ad : Nat → Nat} {M : Mem} {a k : Nat} {v : Option Nat} {j : Nat} (h : j ≠ a) : ent G ad (sR M a k v) j = ent G ad M j := by
  have e2 : mR (sR M a k v) j = mR M j := funext fun q => by show up2 _ _ _ _ _ _ = _; simp [up2, h]
  simp only [ent, e2, show mJ (sR M a k v) = mJ M from rfl, show mI (sR M a k v) = mI M from rfl, show mD (sR M a k v) = mD M from rfl]
theorem ent_sD_ne {G : Geo} {ad : Nat → Nat} {M : Mem} {a k : Nat} {v : UInt64} {j : Nat} (h : j ≠ a) : ent G ad (sD M a k v) j = ent G ad M j := by
  have e2 : mD (sD M a k v) j = mD M j := funext fun q => by show up2 _ _ _ _ _ _ = _; simp [up2, h]
  simp only [ent, e2, show mJ (sD M a k v) = mJ M from rfl, show mI (sD M a k v) = mI M from rfl, show mR (sD M a k v) = mR M from rfl]
/-! ===== the words ===== -/
def BIG : List Cond := lw_tbl.filter goodWord
theorem in_big {w : Cond} (i : Nat) (h : lw_tbl[i]? = some w) (g : goodWord w = true) : w ∈ BIG := List.mem_filter.mpr ⟨List.mem_of_getElem? h, g⟩
theorem big_good {w : Cond} (h : w ∈ BIG) : goodWord w = true := (List.mem_filter.mp h).2
theorem big_in {ws : List Cond} (h : ∀ w ∈ ws, w ∈ BIG) {c : Cond} : GoodIn (c :: BIG) ws := fun w hw => ⟨List.mem_cons_of_mem _ (h w hw), good_of_word (big_good (h w hw))⟩
theorem big_inB {ws : List Cond} (h : ∀ w ∈ ws, w ∈ BIG) : GoodIn BIG ws := fun w hw => ⟨h w hw, good_of_word (big_good (h w hw))⟩
theorem big_cons {c : Cond} (h : c ∈ BIG) : ∀ w ∈ c :: BIG, w ∈ BIG := fun w hw => (List.mem_cons.mp hw).elim (fun e => e ▸ h) id
/-! ===== the judgement ===== -/
def Vok (n : Nat) (v : Value) : Prop := ∀ i, v = .retAddr (i + 1) → i < n
def wfM (M : Mem) : Prop := ∀ i k j, i < M.1 → mR M i k = some j → j < M.1
def Wd (G : Geo) (ad : Nat → Nat) (M : Mem) (H : Heap) : Prop := va_P G.1 vwCl (pool G ad M) H ∧ (∀ i j, i < M.1 → j < M.1 → ad i = ad j → i = j) ∧ wfM M
def Aset (ad : Nat → Nat) (n sz : Nat) : Nat → Prop := fun q => (∃ i, i < n ∧ q = ad i) ∨ sz ≤ q
/-- what is known of the machine's tables, at any state of a run -/
def nestB (U : State) : Prop := (va_Nw (.methodLinkNest RX2 55 yX0_init RX2) U ∧ va_Nw (.methodLinkNest RX0 31 yX2_degreeOf RX2) U) ∧ va_Nw (.methodLinkNest RX0 46 yX2_markOf RX2) U ∧ va_Nw (.methodLinkNest RX0 50 yX2_holds RX2) U ∧ va_Nw (.methodLinkNest RX2 50 yXT_init RX2) U
def strB (U : State) : Prop := ∀ q ∈ ([(102, "a root is -9 to 9"), (147, "the slot is empty"), (149, "there is no saved state"), (220, "there is no such polynomial"), (223, "a power is 0 to 8"), (225, "a sign is -1, 0 or 1"), (227, "a slot is 0 or 1"), (229, "there is no such thing to tell")] : List (Nat × String)), ∃ sa, vk_R RX2 q.1 q.2 sa U
def overB (U : State) : Prop := va_AO RX0 U ∧ va_AO RX1 U ∧ va_AOA .int U
abbrev yRE : MethodName := ⟨"java/lang/RuntimeException", "<init>", "(Ljava/lang/String;)V"⟩
abbrev yEX : MethodName := ⟨"java/lang/Exception", "<init>", "(Ljava/lang/String;)V"⟩
abbrev yTH : MethodName := ⟨"java/lang/Throwable", "<init>", "(Ljava/lang/String;)V"⟩
def ncB (_ : State) : Prop := True
def castB (U : State) : Prop := (va_Nw (.castable "java/lang/IllegalArgumentException" "java/lang/IllegalArgumentException") U ∧ va_Nw (.castable "java/lang/IndexOutOfBoundsException" "java/lang/IndexOutOfBoundsException") U ∧ va_Nw (.castable "java/lang/IllegalStateException" "java/lang/IllegalStateException") U) ∧ va_Nw (.declares yRE) U ∧ va_Nw (.declares yEX) U ∧ va_Nw (.declares yTH) U ∧ ncB U
def KK (G : Geo) (A : Nat → Prop) (U : State) (H : Heap) : Prop := (va_K G.1 vwCl (tysOf G) U ∧ nestB U ∧ strB U ∧ overB U ∧ castB U) ∧ vx_Zq Bundle.tN "UNASSIGNED_STACK" Bundle.steD A U H ∧ vx_Zq Bundle.tN "SUPPRESSED_SENTINEL" Bundle.listD A U H
theorem idx_bare2 (vm : Vm) (comp : ClassId) : (vm.bare.classes.findIdx? fun (x : Class) => match x.kind with | .array component _ => component == comp | _ => false) = (vm.classes.findIdx? fun (x : Class) => match x.kind with | .array component _ => component == comp | _ => false) := by
  simp only [Vm.bare, Array.findIdx?_map]
  rfl
theorem va_AOA.moved {t : FieldType} {u U : State} (hvm : u.vm.Alike U.vm) (h : va_AOA t u) : va_AOA t U := by
  obtain ⟨comp, c, k, h1, h2, h3, h4, h5⟩ := Jvm.Stand.arrayOver_specB h
  obtain ⟨k', hk', he⟩ := hvm.2.2 _ _ h3
  have hi : (U.vm.classes.findIdx? fun (x : Class) => match x.kind with | .array component _ => component == comp | _ => false) = some c := by
    rw [← idx_bare2]
    first | rw [hvm.bare_eq] | rw [← hvm.bare_eq]
    rw [idx_bare2]
    exact h2
  have hkind : k'.kind = .array comp (.array t) := by rw [he]; exact h4
  have f1 : U.vm.findClass (FieldType.array t).toString = some comp := by rw [hvm.findClass]; exact h1
  have f2 : U.vm.findClass ("[" ++ (FieldType.array t).toString) = some c := by rw [hvm.findClass]; exact h5
  unfold va_AOA Cond.before Cond.holds
  simp only [Cond.value]
  rw [f1, Option.bind_some]
  refine (congrArg (fun o : Option Nat => (o.bind (fun c => (U.vm.classes[c]?).map fun (k : Class) => match k.kind with | .array _ ty => decide (ty = FieldType.array t) && decide (U.vm.findClass ("[" ++ (FieldType.array t).toString) = some c) | _ => false) == some true)) hi).trans ?_
  simp [hk', hkind, f2]
theorem KK.warm {G : Geo} {A : Nat → Prop} {s U : State} {H : Heap} (hW : s.WarmedH U.vm) (h : KK G A s H) : KK G A U H := by
  obtain ⟨⟨h1, ⟨⟨n1, n2⟩, n3, n4, n5⟩, h3, ⟨o1, o2, o3⟩, ⟨c1, c2, c3⟩, e1, e2, e3, n9⟩, z1, z2⟩ := h
  exact ⟨⟨va_K.moved hW.alike h1, ⟨⟨va_Nw.warmM hW n1, va_Nw.warmM hW n2⟩, va_Nw.warmM hW n3, va_Nw.warmM hW n4, va_Nw.warmM hW n5⟩, fun q hq => (h3 q hq).elim fun sa hsa => ⟨sa, vk_R.warm hW hsa⟩, ⟨va_AO.moved hW.alike o1, va_AO.moved hW.alike o2, va_AOA.moved hW.alike o3⟩, ⟨va_Nw.warmC hW c1, va_Nw.warmC hW c2, va_Nw.warmC hW c3⟩, va_Nw.warmD hW e1, va_Nw.warmD hW e2, va_Nw.warmD hW e3, trivial⟩, vx_Zq.moved hW.alike z1, vx_Zq.moved hW.alike z2⟩
theorem KK.kept {G : Geo} {A : Nat → Prop} {U : State} {H H1 : Heap} (h : KK G A U H) (hq : ∀ a : Nat, a < H.size → ¬ A a → H1[a]? = H[a]?) : KK G A U H1 := ⟨h.1, vx_Zq.kept h.2.1 hq, vx_Zq.kept h.2.2 hq⟩
theorem KK.narrow {G : Geo} {A B : Nat → Prop} {U : State} {H : Heap} (h : KK G A U H) (hAB : ∀ q, B q → A q) : KK G B U H := ⟨h.1, vx_Zq.narrow h.2.1 hAB, vx_Zq.narrow h.2.2 hAB⟩
def J (C : Program × Launch × Env × Room × State × MethodId × Array Value × List Frame × Method × Code × Heap × (Nat → Prop) × (State → Prop) × Nat × Geo × (Nat → Nat) × Nat) (cells slots : Nat) (M : Mem) (pc : Nat) (lv : List (Nat × Value)) (st : List Value) : Prop :=
  match C with
  | (p, l, e, R, s, m, args, below, meth, c, H0, A, Q, nL, G, ad0, n0) => ∀ (ad : Nat → Nat) (H : Heap) (locs : List Loc) (ls : Array Slot), Wd G ad M H → (∀ i, i < M.1 → A (ad i)) → (∀ i, i < n0 → ad i = ad0 i) → n0 ≤ M.1 → (∀ q ∈ lv, Vok M.1 q.2) → (∀ v ∈ st, Vok M.1 v) → va_S A H0 H locs → lv_has ls nL (lv.map fun q => (q.1, phys ad q.2)) → W p l e R s m args below meth c H locs cells slots Q (F0 m pc ls (st.map (phys ad)))
