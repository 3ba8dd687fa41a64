abbrev JC : Type := Program × Launch × Env × Room × State × MethodId × Array Value × List Frame × Method × Code × Heap × (Nat → Prop) × (State → Prop) × Nat × Geo × (Nat → Nat) × Nat
abbrev Res : Type := Mem × (String ⊕ Option Value)
theorem Vok_int {n : Nat} {v : Int32} : Vok n (.int v) := fun _ h => by cases h
theorem Vok_long {n : Nat} {v : Int64} : Vok n (.long v) := fun _ h => by cases h
theorem Vok_double {n : Nat} {v : UInt64} : Vok n (.double v) := fun _ h => by cases h
theorem Vok_null {n : Nat} : Vok n .null := fun _ h => by cases h
theorem Vok_ref {n a : Nat} : Vok n (.ref a) := fun _ h => by cases h
theorem Vok_rf {n : Nat} {r : Option Nat} (h : ∀ j, r = some j → j < n) : Vok n (rf r) := fun i e => by
  cases r with
  | none => cases e
  | some j => cases e; exact h _ rfl
theorem vs_c {n : Nat} {v : Value} {st : List Value} (h : Vok n v) (hs : ∀ w ∈ st, Vok n w) : ∀ w ∈ v :: st, Vok n w := fun w hw => (List.mem_cons.mp hw).elim (fun e => e ▸ h) (hs w)
theorem vs_t {n : Nat} {v : Value} {st : List Value} (hs : ∀ w ∈ v :: st, Vok n w) : ∀ w ∈ st, Vok n w := fun w hw => hs w (List.mem_cons_of_mem _ hw)
theorem vs_h {n : Nat} {v : Value} {st : List Value} (hs : ∀ w ∈ v :: st, Vok n w) : Vok n v := hs v List.mem_cons_self
theorem vl_at {n : Nat} {lv : List (Nat × Value)} (h : ∀ q ∈ lv, Vok n q.2) {k i : Nat} {v : Value} (e : lv[k]? = some (i, v)) : Vok n v := h (i, v) (List.mem_of_getElem? e)
theorem mp_at {ad : Nat → Nat} {lv : List (Nat × Value)} {k i : Nat} {v : Value} (e : lv[k]? = some (i, v)) : (lv.map fun q => (q.1, phys ad q.2))[k]? = some (i, phys ad v) := by
  rw [List.getElem?_map, e]
  rfl
theorem cat_phys (ad : Nat → Nat) (v : Value) : (phys ad v).category = v.category := by
  cases v <;> try rfl
  case retAddr n => cases n <;> rfl
theorem mp_st1 {ad : Nat → Nat} {lv lv' : List (Nat × Value)} {i : Nat} {v : Value} (hl : (i, v) :: lv.filter (fun q => !(q.1 == i) && !(q.1 + 1 == i && q.2.category == 2)) = lv') :
    (i, phys ad v) :: (lv.map fun q => (q.1, phys ad q.2)).filter (fun q => !(q.1 == i) && !(q.1 + 1 == i && q.2.category == 2)) = lv'.map fun q => (q.1, phys ad q.2) := by
  subst hl
  simp only [List.map_cons, List.filter_map, Function.comp_def, cat_phys]
theorem mp_st2 {ad : Nat → Nat} {lv lv' : List (Nat × Value)} {i : Nat} {v : Value} (hl : (i, v) :: lv.filter (fun q => !(q.1 == i) && (!(q.1 == i + 1) && !(q.1 + 1 == i && q.2.category == 2))) = lv') :
    (i, phys ad v) :: (lv.map fun q => (q.1, phys ad q.2)).filter (fun q => !(q.1 == i) && (!(q.1 == i + 1) && !(q.1 + 1 == i && q.2.category == 2))) = lv'.map fun q => (q.1, phys ad q.2) := by
  subst hl
  simp only [List.map_cons, List.filter_map, Function.comp_def, cat_phys]
theorem vl_st {n : Nat} {lv lv' : List (Nat × Value)} {i : Nat} {v : Value} {f : Nat × Value → Bool} (hl : (i, v) :: lv.filter f = lv') (hv : Vok n v) (h : ∀ q ∈ lv, Vok n q.2) : ∀ q ∈ lv', Vok n q.2 := by
  subst hl
  intro q hq
  rcases List.mem_cons.mp hq with e | e
  · rw [e]; exact hv
  · exact h q (List.mem_filter.mp e).1
/-- what a return must show -/
def Qret (G : Geo) (ad0 : Nat → Nat) (n0 : Nat) (A : Nat → Prop) (res : Res) : Array Value → State → Outcome → State → Prop := fun _ st o t =>
  (∃ (ad : Nat → Nat) (rv : Option Value), res.2 = .inr rv ∧ o = .returned (rv.map (phys ad)) ∧ (∀ i, i < n0 → ad i = ad0 i) ∧ n0 ≤ res.1.1 ∧ Wd G ad res.1 t.heap ∧ (∀ i, i < res.1.1 → A (ad i)) ∧ ∀ v, rv = some v → Vok res.1.1 v) ∧ va_F A st t
def Qthr (G : Geo) (ad0 : Nat → Nat) (n0 : Nat) (A : Nat → Prop) (res : Res) : String → State → State → Prop := fun E st t =>
  (∃ (ad : Nat → Nat), res.2 = .inl E ∧ (∀ i, i < n0 → ad i = ad0 i) ∧ n0 ≤ res.1.1 ∧ Wd G ad res.1 t.heap ∧ (∀ i, i < res.1.1 → A (ad i))) ∧ va_F A st t
def PreC (G : Geo) (ad : Nat → Nat) (sz : Nat) (As : List Value) (M : Mem) : Array Value → State → Prop := va_Pc (As.map (phys ad)) (fun U => U.heap.size = sz ∧ Wd G ad M U.heap ∧ KK G (Aset ad M.1 sz) U U.heap ∧ ∀ v ∈ As, Vok M.1 v)
/-- a method's contract: x: it may throw -/
def Con (x : Bool) (l : Launch) (y : MethodName) (cc : ByteArray) (maxL : Nat) (ret : Option FieldType) (rm : Room) (As : List Value) (M : Mem) (res : Res) : Prop := ∀ (G : Geo) (ad : Nat → Nat) (sz : Nat),
  if x = true then vx_Met l y (.code y cc maxL ret :: BIG) rm (PreC G ad sz As M) (Qret G ad M.1 (Aset ad M.1 sz) res) (Qthr G ad M.1 (Aset ad M.1 sz) res) rm.cells rm.slots (Aset ad M.1 sz)
  else Met l y (.code y cc maxL ret :: BIG) rm (PreC G ad sz As M) (Qret G ad M.1 (Aset ad M.1 sz) res) rm.cells rm.slots (Aset ad M.1 sz)
def Ok (C : JC) (x : Bool) (cc : ByteArray) (nL : Nat) (rm : Room) (rt : Option FieldType) (own : String) (res : Res) : Prop := match C with
  | (p, l, e, R, s, m, args, below, meth, c, H0, A, Q, nL0, G, ad0, n0) => p.tables.exec = Jvm.exec ∧ c.code = cc ∧ c.maxLocals = nL ∧ nL0 = nL ∧ s.vm.findClass own = some m.cls ∧ (∀ w ∈ BIG, w.before args s = true) ∧ KK G A s s.heap ∧ H0 = s.heap ∧ (∀ q, s.heap.size ≤ q → A q) ∧ meth.locks = false ∧ meth.sig.returnType = rt ∧ R = rm ∧
    (Q = if x = true then vx_MQ below (Qret G ad0 n0 A res) (Qthr G ad0 n0 A res) args s rm.cells rm.slots A else MQ below (Qret G ad0 n0 A res) args s rm.cells rm.slots A) ∧ ((x = true → ∀ z ∈ c.exceptionTable.toList, False) ∧ l.stackTraces = false)
theorem J_iconst {C : JC} {x : Bool} {cc : ByteArray} {nL : Nat} {rm : Room} {rt : Option FieldType} {own : String} {res : Res} {ce sl : Nat} {M : Mem} {pc : Nat} {lv : List (Nat × Value)} {st : List Value} {n : Int} {v : Int32} (hC : Ok C x cc nL rm rt own res) (hdg : decode cc pc = .ok (.iconst n, 1)) (hv : Int32.ofInt n = v)
    (kk : J C ce sl M (pc + 1) lv (.int v :: st)) : J C ce sl M pc lv (st) := by
  obtain ⟨p, l, e, R, s, m, args, below, meth, c, H0, A, Q, nL0, G, ad0, n0⟩ := C
  obtain ⟨hx, hb, hml, hnl, hown, hts, hKK, hH0, hA, hlk, hrt, hR, hQ, hxt⟩ := hC
  intro ad H locs ls hW hAa hag hn hvl hvs hS hl
  exact lv_iconst hx hb hdg hv (kk ad H locs ls hW hAa hag hn hvl (vs_c Vok_int hvs) hS hl)
theorem J_bipush {C : JC} {x : Bool} {cc : ByteArray} {nL : Nat} {rm : Room} {rt : Option FieldType} {own : String} {res : Res} {ce sl : Nat} {M : Mem} {pc : Nat} {lv : List (Nat × Value)} {st : List Value} {n : Int} {v : Int32} (hC : Ok C x cc nL rm rt own res) (hdg : decode cc pc = .ok (.bipush n, 2)) (hv : (Int8.ofInt n).toInt32 = v)
    (kk : J C ce sl M (pc + 2) lv (.int v :: st)) : J C ce sl M pc lv (st) := by
  obtain ⟨p, l, e, R, s, m, args, below, meth, c, H0, A, Q, nL0, G, ad0, n0⟩ := C
  obtain ⟨hx, hb, hml, hnl, hown, hts, hKK, hH0, hA, hlk, hrt, hR, hQ, hxt⟩ := hC
  intro ad H locs ls hW hAa hag hn hvl hvs hS hl
  exact lv_bipush hx hb hdg hv (kk ad H locs ls hW hAa hag hn hvl (vs_c Vok_int hvs) hS hl)
theorem J_sipush {C : JC} {x : Bool} {cc : ByteArray} {nL : Nat} {rm : Room} {rt : Option FieldType} {own : String} {res : Res} {ce sl : Nat} {M : Mem} {pc : Nat} {lv : List (Nat × Value)} {st : List Value} {n : Int} {v : Int32} (hC : Ok C x cc nL rm rt own res) (hdg : decode cc pc = .ok (.sipush n, 3)) (hv : (Int16.ofInt n).toInt32 = v)
    (kk : J C ce sl M (pc + 3) lv (.int v :: st)) : J C ce sl M pc lv (st) := by
  obtain ⟨p, l, e, R, s, m, args, below, meth, c, H0, A, Q, nL0, G, ad0, n0⟩ := C
  obtain ⟨hx, hb, hml, hnl, hown, hts, hKK, hH0, hA, hlk, hrt, hR, hQ, hxt⟩ := hC
  intro ad H locs ls hW hAa hag hn hvl hvs hS hl
  exact lv_sipush hx hb hdg hv (kk ad H locs ls hW hAa hag hn hvl (vs_c Vok_int hvs) hS hl)
theorem J_lconst {C : JC} {x : Bool} {cc : ByteArray} {nL : Nat} {rm : Room} {rt : Option FieldType} {own : String} {res : Res} {ce sl : Nat} {M : Mem} {pc : Nat} {lv : List (Nat × Value)} {st : List Value} {n : Fin 2} {v : Int64} (hC : Ok C x cc nL rm rt own res) (hdg : decode cc pc = .ok (.lconst n, 1)) (hv : Int64.ofNat (n : Nat) = v)
    (kk : J C ce sl M (pc + 1) lv (.long v :: st)) : J C ce sl M pc lv (st) := by
  obtain ⟨p, l, e, R, s, m, args, below, meth, c, H0, A, Q, nL0, G, ad0, n0⟩ := C
  obtain ⟨hx, hb, hml, hnl, hown, hts, hKK, hH0, hA, hlk, hrt, hR, hQ, hxt⟩ := hC
  intro ad H locs ls hW hAa hag hn hvl hvs hS hl
  exact lv_lconst hx hb hdg hv (kk ad H locs ls hW hAa hag hn hvl (vs_c Vok_long hvs) hS hl)
theorem J_dconst0 {C : JC} {x : Bool} {cc : ByteArray} {nL : Nat} {rm : Room} {rt : Option FieldType} {own : String} {res : Res} {ce sl : Nat} {M : Mem} {pc : Nat} {lv : List (Nat × Value)} {st : List Value}  (hC : Ok C x cc nL rm rt own res) (hdg : decode cc pc = .ok (.dconst 0, 1))
    (kk : J C ce sl M (pc + 1) lv (.double FP.dconst0 :: st)) : J C ce sl M pc lv (st) := by
  obtain ⟨p, l, e, R, s, m, args, below, meth, c, H0, A, Q, nL0, G, ad0, n0⟩ := C
  obtain ⟨hx, hb, hml, hnl, hown, hts, hKK, hH0, hA, hlk, hrt, hR, hQ, hxt⟩ := hC
  intro ad H locs ls hW hAa hag hn hvl hvs hS hl
  exact lv_dconst0 hx hb hdg (kk ad H locs ls hW hAa hag hn hvl (vs_c Vok_double hvs) hS hl)
theorem J_dconst1 {C : JC} {x : Bool} {cc : ByteArray} {nL : Nat} {rm : Room} {rt : Option FieldType} {own : String} {res : Res} {ce sl : Nat} {M : Mem} {pc : Nat} {lv : List (Nat × Value)} {st : List Value}  (hC : Ok C x cc nL rm rt own res) (hdg : decode cc pc = .ok (.dconst 1, 1))
    (kk : J C ce sl M (pc + 1) lv (.double FP.dconst1 :: st)) : J C ce sl M pc lv (st) := by
  obtain ⟨p, l, e, R, s, m, args, below, meth, c, H0, A, Q, nL0, G, ad0, n0⟩ := C
  obtain ⟨hx, hb, hml, hnl, hown, hts, hKK, hH0, hA, hlk, hrt, hR, hQ, hxt⟩ := hC
  intro ad H locs ls hW hAa hag hn hvl hvs hS hl
  exact lv_dconst1 hx hb hdg (kk ad H locs ls hW hAa hag hn hvl (vs_c Vok_double hvs) hS hl)
theorem J_ldc {C : JC} {x : Bool} {cc : ByteArray} {nL : Nat} {rm : Room} {rt : Option FieldType} {own : String} {res : Res} {ce sl : Nat} {M : Mem} {pc : Nat} {lv : List (Nat × Value)} {st : List Value} {index : Nat} {v : Int32} (hC : Ok C x cc nL rm rt own res) (hw : Cond.constant own index v ∈ BIG) (hdg : decode cc pc = .ok (.ldc index, 2))
    (kk : J C ce sl M (pc + 2) lv (.int v :: st)) : J C ce sl M pc lv (st) := by
  obtain ⟨p, l, e, R, s, m, args, below, meth, c, H0, A, Q, nL0, G, ad0, n0⟩ := C
  obtain ⟨hx, hb, hml, hnl, hown, hts, hKK, hH0, hA, hlk, hrt, hR, hQ, hxt⟩ := hC
  intro ad H locs ls hW hAa hag hn hvl hvs hS hl
  exact lv_ldc hx hb hown (hts _ hw) hdg (kk ad H locs ls hW hAa hag hn hvl (vs_c Vok_int hvs) hS hl)
theorem J_ldc2 {C : JC} {x : Bool} {cc : ByteArray} {nL : Nat} {rm : Room} {rt : Option FieldType} {own : String} {res : Res} {ce sl : Nat} {M : Mem} {pc : Nat} {lv : List (Nat × Value)} {st : List Value} {index : Nat} {v : Int64} (hC : Ok C x cc nL rm rt own res) (hw : Cond.constantLong own index v ∈ BIG) (hdg : decode cc pc = .ok (.ldc2_w index, 3))
    (kk : J C ce sl M (pc + 3) lv (.long v :: st)) : J C ce sl M pc lv (st) := by
  obtain ⟨p, l, e, R, s, m, args, below, meth, c, H0, A, Q, nL0, G, ad0, n0⟩ := C
  obtain ⟨hx, hb, hml, hnl, hown, hts, hKK, hH0, hA, hlk, hrt, hR, hQ, hxt⟩ := hC
  intro ad H locs ls hW hAa hag hn hvl hvs hS hl
  exact lv_ldc2 hx hb hown (hts _ hw) hdg (kk ad H locs ls hW hAa hag hn hvl (vs_c Vok_long hvs) hS hl)
theorem J_ldc2d {C : JC} {x : Bool} {cc : ByteArray} {nL : Nat} {rm : Room} {rt : Option FieldType} {own : String} {res : Res} {ce sl : Nat} {M : Mem} {pc : Nat} {lv : List (Nat × Value)} {st : List Value} {index : Nat} {v : UInt64} (hC : Ok C x cc nL rm rt own res) (hw : Cond.constantDouble own index v ∈ BIG) (hdg : decode cc pc = .ok (.ldc2_w index, 3))
    (kk : J C ce sl M (pc + 3) lv (.double v :: st)) : J C ce sl M pc lv (st) := by
  obtain ⟨p, l, e, R, s, m, args, below, meth, c, H0, A, Q, nL0, G, ad0, n0⟩ := C
  obtain ⟨hx, hb, hml, hnl, hown, hts, hKK, hH0, hA, hlk, hrt, hR, hQ, hxt⟩ := hC
  intro ad H locs ls hW hAa hag hn hvl hvs hS hl
  exact lv_ldc2d hx hb hown (hts _ hw) hdg (kk ad H locs ls hW hAa hag hn hvl (vs_c Vok_double hvs) hS hl)
theorem J_iload_n {C : JC} {x : Bool} {cc : ByteArray} {nL : Nat} {rm : Room} {rt : Option FieldType} {own : String} {res : Res} {ce sl : Nat} {M : Mem} {pc : Nat} {lv : List (Nat × Value)} {st : List Value} {k : Fin 4} {j : Nat} {v : Int32} (hC : Ok C x cc nL rm rt own res) (hdg : decode cc pc = .ok (.iload_n k, 1)) (hlv : lv[j]? = some ((k : Nat), .int v))
    (kk : J C ce sl M (pc + 1) lv (.int v :: st)) : J C ce sl M pc lv (st) := by
  obtain ⟨p, l, e, R, s, m, args, below, meth, c, H0, A, Q, nL0, G, ad0, n0⟩ := C
  obtain ⟨hx, hb, hml, hnl, hown, hts, hKK, hH0, hA, hlk, hrt, hR, hQ, hxt⟩ := hC
  intro ad H locs ls hW hAa hag hn hvl hvs hS hl
  exact lv_iload_n hx hb hdg rfl (lv_at hl j (mp_at hlv)) (kk ad H locs ls hW hAa hag hn hvl (vs_c Vok_int hvs) hS hl)
theorem J_iload {C : JC} {x : Bool} {cc : ByteArray} {nL : Nat} {rm : Room} {rt : Option FieldType} {own : String} {res : Res} {ce sl : Nat} {M : Mem} {pc : Nat} {lv : List (Nat × Value)} {st : List Value} {i j : Nat} {v : Int32} (hC : Ok C x cc nL rm rt own res) (hdg : decode cc pc = .ok (.iload i, 2)) (hlv : lv[j]? = some (i, .int v))
    (kk : J C ce sl M (pc + 2) lv (.int v :: st)) : J C ce sl M pc lv (st) := by
  obtain ⟨p, l, e, R, s, m, args, below, meth, c, H0, A, Q, nL0, G, ad0, n0⟩ := C
  obtain ⟨hx, hb, hml, hnl, hown, hts, hKK, hH0, hA, hlk, hrt, hR, hQ, hxt⟩ := hC
  intro ad H locs ls hW hAa hag hn hvl hvs hS hl
  exact lv_iload hx hb hdg (lv_at hl j (mp_at hlv)) (kk ad H locs ls hW hAa hag hn hvl (vs_c Vok_int hvs) hS hl)
theorem J_lload_n {C : JC} {x : Bool} {cc : ByteArray} {nL : Nat} {rm : Room} {rt : Option FieldType} {own : String} {res : Res} {ce sl : Nat} {M : Mem} {pc : Nat} {lv : List (Nat × Value)} {st : List Value} {k : Fin 4} {j : Nat} {v : Int64} (hC : Ok C x cc nL rm rt own res) (hdg : decode cc pc = .ok (.lload_n k, 1)) (hlv : lv[j]? = some ((k : Nat), .long v))
    (kk : J C ce sl M (pc + 1) lv (.long v :: st)) : J C ce sl M pc lv (st) := by
  obtain ⟨p, l, e, R, s, m, args, below, meth, c, H0, A, Q, nL0, G, ad0, n0⟩ := C
  obtain ⟨hx, hb, hml, hnl, hown, hts, hKK, hH0, hA, hlk, hrt, hR, hQ, hxt⟩ := hC
  intro ad H locs ls hW hAa hag hn hvl hvs hS hl
  exact lv_lload_n hx hb hdg rfl (lv_at hl j (mp_at hlv)) (kk ad H locs ls hW hAa hag hn hvl (vs_c Vok_long hvs) hS hl)
theorem J_lload {C : JC} {x : Bool} {cc : ByteArray} {nL : Nat} {rm : Room} {rt : Option FieldType} {own : String} {res : Res} {ce sl : Nat} {M : Mem} {pc : Nat} {lv : List (Nat × Value)} {st : List Value} {i j : Nat} {v : Int64} (hC : Ok C x cc nL rm rt own res) (hdg : decode cc pc = .ok (.lload i, 2)) (hlv : lv[j]? = some (i, .long v))
    (kk : J C ce sl M (pc + 2) lv (.long v :: st)) : J C ce sl M pc lv (st) := by
  obtain ⟨p, l, e, R, s, m, args, below, meth, c, H0, A, Q, nL0, G, ad0, n0⟩ := C
  obtain ⟨hx, hb, hml, hnl, hown, hts, hKK, hH0, hA, hlk, hrt, hR, hQ, hxt⟩ := hC
  intro ad H locs ls hW hAa hag hn hvl hvs hS hl
  exact lv_lload hx hb hdg (lv_at hl j (mp_at hlv)) (kk ad H locs ls hW hAa hag hn hvl (vs_c Vok_long hvs) hS hl)
theorem J_dload_n {C : JC} {x : Bool} {cc : ByteArray} {nL : Nat} {rm : Room} {rt : Option FieldType} {own : String} {res : Res} {ce sl : Nat} {M : Mem} {pc : Nat} {lv : List (Nat × Value)} {st : List Value} {k : Fin 4} {j : Nat} {v : UInt64} (hC : Ok C x cc nL rm rt own res) (hdg : decode cc pc = .ok (.dload_n k, 1)) (hlv : lv[j]? = some ((k : Nat), .double v))
    (kk : J C ce sl M (pc + 1) lv (.double v :: st)) : J C ce sl M pc lv (st) := by
  obtain ⟨p, l, e, R, s, m, args, below, meth, c, H0, A, Q, nL0, G, ad0, n0⟩ := C
  obtain ⟨hx, hb, hml, hnl, hown, hts, hKK, hH0, hA, hlk, hrt, hR, hQ, hxt⟩ := hC
  intro ad H locs ls hW hAa hag hn hvl hvs hS hl
  exact lv_dload_n hx hb hdg rfl (lv_at hl j (mp_at hlv)) (kk ad H locs ls hW hAa hag hn hvl (vs_c Vok_double hvs) hS hl)
theorem J_dload {C : JC} {x : Bool} {cc : ByteArray} {nL : Nat} {rm : Room} {rt : Option FieldType} {own : String} {res : Res} {ce sl : Nat} {M : Mem} {pc : Nat} {lv : List (Nat × Value)} {st : List Value} {i j : Nat} {v : UInt64} (hC : Ok C x cc nL rm rt own res) (hdg : decode cc pc = .ok (.dload i, 2)) (hlv : lv[j]? = some (i, .double v))
    (kk : J C ce sl M (pc + 2) lv (.double v :: st)) : J C ce sl M pc lv (st) := by
  obtain ⟨p, l, e, R, s, m, args, below, meth, c, H0, A, Q, nL0, G, ad0, n0⟩ := C
  obtain ⟨hx, hb, hml, hnl, hown, hts, hKK, hH0, hA, hlk, hrt, hR, hQ, hxt⟩ := hC
  intro ad H locs ls hW hAa hag hn hvl hvs hS hl
  exact lv_dload hx hb hdg (lv_at hl j (mp_at hlv)) (kk ad H locs ls hW hAa hag hn hvl (vs_c Vok_double hvs) hS hl)
theorem J_aload_n {C : JC} {x : Bool} {cc : ByteArray} {nL : Nat} {rm : Room} {rt : Option FieldType} {own : String} {res : Res} {ce sl : Nat} {M : Mem} {pc : Nat} {lv : List (Nat × Value)} {st : List Value} {k : Fin 4} {j : Nat} {r : Option Nat} (hC : Ok C x cc nL rm rt own res) (hdg : decode cc pc = .ok (.aload_n k, 1)) (hlv : lv[j]? = some ((k : Nat), rf r))
    (kk : J C ce sl M (pc + 1) lv (rf r :: st)) : J C ce sl M pc lv (st) := by
  obtain ⟨p, l, e, R, s, m, args, below, meth, c, H0, A, Q, nL0, G, ad0, n0⟩ := C
  obtain ⟨hx, hb, hml, hnl, hown, hts, hKK, hH0, hA, hlk, hrt, hR, hQ, hxt⟩ := hC
  intro ad H locs ls hW hAa hag hn hvl hvs hS hl
  have kk := (kk ad H locs ls hW hAa hag hn hvl (vs_c (vl_at hvl hlv) hvs) hS hl)
  have h9 := lv_at hl j (mp_at hlv)
  cases r with
  | none => exact lv_aload_nN hx hb hdg rfl h9 kk
  | some q => exact lv_aload_n hx hb hdg rfl h9 kk
theorem J_aload {C : JC} {x : Bool} {cc : ByteArray} {nL : Nat} {rm : Room} {rt : Option FieldType} {own : String} {res : Res} {ce sl : Nat} {M : Mem} {pc : Nat} {lv : List (Nat × Value)} {st : List Value} {i j : Nat} {r : Option Nat} (hC : Ok C x cc nL rm rt own res) (hdg : decode cc pc = .ok (.aload i, 2)) (hlv : lv[j]? = some (i, rf r))
    (kk : J C ce sl M (pc + 2) lv (rf r :: st)) : J C ce sl M pc lv (st) := by
  obtain ⟨p, l, e, R, s, m, args, below, meth, c, H0, A, Q, nL0, G, ad0, n0⟩ := C
  obtain ⟨hx, hb, hml, hnl, hown, hts, hKK, hH0, hA, hlk, hrt, hR, hQ, hxt⟩ := hC
  intro ad H locs ls hW hAa hag hn hvl hvs hS hl
  have kk := (kk ad H locs ls hW hAa hag hn hvl (vs_c (vl_at hvl hlv) hvs) hS hl)
  have h9 := lv_at hl j (mp_at hlv)
  cases r with
  | none => exact lv_aloadN hx hb hdg h9 kk
  | some q => exact lv_aload hx hb hdg h9 kk
theorem J_istore_n {C : JC} {x : Bool} {cc : ByteArray} {nL : Nat} {rm : Room} {rt : Option FieldType} {own : String} {res : Res} {ce sl : Nat} {M : Mem} {pc : Nat} {lv : List (Nat × Value)} {st : List Value} {k : Fin 4} {i : Nat} {v : Int32} (hk : (k : Nat) = i) {lv' : List (Nat × Value)} (hC : Ok C x cc nL rm rt own res) (hdg : decode cc pc = .ok (.istore_n k, 1)) (hi : i < nL) (hlv : (i, Value.int v) :: lv.filter (fun q => !(q.1 == i) && !(q.1 + 1 == i && q.2.category == 2)) = lv')
    (kk : J C ce sl M (pc + 1) lv' st) : J C ce sl M pc lv (Value.int v :: st) := by
  obtain ⟨p, l, e, R, s, m, args, below, meth, c, H0, A, Q, nL0, G, ad0, n0⟩ := C
  obtain ⟨hx, hb, hml, hnl, hown, hts, hKK, hH0, hA, hlk, hrt, hR, hQ, hxt⟩ := hC
  intro ad H locs ls hW hAa hag hn hvl hvs hS hl
  subst hnl
  have kk := fun ls hl => kk ad H locs ls hW hAa hag hn (vl_st hlv (vs_h hvs) hvl) (vs_t hvs) hS hl
  have h9 := mp_st1 (ad := ad) hlv
  exact lv_istore_n hx hb hdg hk hl hi h9 kk
theorem J_istore {C : JC} {x : Bool} {cc : ByteArray} {nL : Nat} {rm : Room} {rt : Option FieldType} {own : String} {res : Res} {ce sl : Nat} {M : Mem} {pc : Nat} {lv : List (Nat × Value)} {st : List Value} {i : Nat} {v : Int32} {lv' : List (Nat × Value)} (hC : Ok C x cc nL rm rt own res) (hdg : decode cc pc = .ok (.istore i, 2)) (hi : i < nL) (hlv : (i, Value.int v) :: lv.filter (fun q => !(q.1 == i) && !(q.1 + 1 == i && q.2.category == 2)) = lv')
    (kk : J C ce sl M (pc + 2) lv' st) : J C ce sl M pc lv (Value.int v :: st) := by
  obtain ⟨p, l, e, R, s, m, args, below, meth, c, H0, A, Q, nL0, G, ad0, n0⟩ := C
  obtain ⟨hx, hb, hml, hnl, hown, hts, hKK, hH0, hA, hlk, hrt, hR, hQ, hxt⟩ := hC
  intro ad H locs ls hW hAa hag hn hvl hvs hS hl
  subst hnl
  have kk := fun ls hl => kk ad H locs ls hW hAa hag hn (vl_st hlv (vs_h hvs) hvl) (vs_t hvs) hS hl
  have h9 := mp_st1 (ad := ad) hlv
  exact lv_istore hx hb hdg hl hi h9 kk
theorem J_lstore_n {C : JC} {x : Bool} {cc : ByteArray} {nL : Nat} {rm : Room} {rt : Option FieldType} {own : String} {res : Res} {ce sl : Nat} {M : Mem} {pc : Nat} {lv : List (Nat × Value)} {st : List Value} {k : Fin 4} {i : Nat} {v : Int64} (hk : (k : Nat) = i) {lv' : List (Nat × Value)} (hC : Ok C x cc nL rm rt own res) (hdg : decode cc pc = .ok (.lstore_n k, 1)) (hi : i + 1 < nL) (hlv : (i, Value.long v) :: lv.filter (fun q => !(q.1 == i) && (!(q.1 == i + 1) && !(q.1 + 1 == i && q.2.category == 2))) = lv')
    (kk : J C ce sl M (pc + 1) lv' st) : J C ce sl M pc lv (Value.long v :: st) := by
  obtain ⟨p, l, e, R, s, m, args, below, meth, c, H0, A, Q, nL0, G, ad0, n0⟩ := C
  obtain ⟨hx, hb, hml, hnl, hown, hts, hKK, hH0, hA, hlk, hrt, hR, hQ, hxt⟩ := hC
  intro ad H locs ls hW hAa hag hn hvl hvs hS hl
  subst hnl
  have kk := fun ls hl => kk ad H locs ls hW hAa hag hn (vl_st hlv (vs_h hvs) hvl) (vs_t hvs) hS hl
  have h9 := mp_st2 (ad := ad) hlv
  exact lv_lstore_n hx hb hdg hk hl hi h9 kk
theorem J_lstore {C : JC} {x : Bool} {cc : ByteArray} {nL : Nat} {rm : Room} {rt : Option FieldType} {own : String} {res : Res} {ce sl : Nat} {M : Mem} {pc : Nat} {lv : List (Nat × Value)} {st : List Value} {i : Nat} {v : Int64} {lv' : List (Nat × Value)} (hC : Ok C x cc nL rm rt own res) (hdg : decode cc pc = .ok (.lstore i, 2)) (hi : i + 1 < nL) (hlv : (i, Value.long v) :: lv.filter (fun q => !(q.1 == i) && (!(q.1 == i + 1) && !(q.1 + 1 == i && q.2.category == 2))) = lv')
    (kk : J C ce sl M (pc + 2) lv' st) : J C ce sl M pc lv (Value.long v :: st) := by
  obtain ⟨p, l, e, R, s, m, args, below, meth, c, H0, A, Q, nL0, G, ad0, n0⟩ := C
  obtain ⟨hx, hb, hml, hnl, hown, hts, hKK, hH0, hA, hlk, hrt, hR, hQ, hxt⟩ := hC
  intro ad H locs ls hW hAa hag hn hvl hvs hS hl
  subst hnl
  have kk := fun ls hl => kk ad H locs ls hW hAa hag hn (vl_st hlv (vs_h hvs) hvl) (vs_t hvs) hS hl
  have h9 := mp_st2 (ad := ad) hlv
  exact lv_lstore hx hb hdg hl hi h9 kk
theorem J_dstore_n {C : JC} {x : Bool} {cc : ByteArray} {nL : Nat} {rm : Room} {rt : Option FieldType} {own : String} {res : Res} {ce sl : Nat} {M : Mem} {pc : Nat} {lv : List (Nat × Value)} {st : List Value} {k : Fin 4} {i : Nat} {v : UInt64} (hk : (k : Nat) = i) {lv' : List (Nat × Value)} (hC : Ok C x cc nL rm rt own res) (hdg : decode cc pc = .ok (.dstore_n k, 1)) (hi : i + 1 < nL) (hlv : (i, Value.double v) :: lv.filter (fun q => !(q.1 == i) && (!(q.1 == i + 1) && !(q.1 + 1 == i && q.2.category == 2))) = lv')
    (kk : J C ce sl M (pc + 1) lv' st) : J C ce sl M pc lv (Value.double v :: st) := by
  obtain ⟨p, l, e, R, s, m, args, below, meth, c, H0, A, Q, nL0, G, ad0, n0⟩ := C
  obtain ⟨hx, hb, hml, hnl, hown, hts, hKK, hH0, hA, hlk, hrt, hR, hQ, hxt⟩ := hC
  intro ad H locs ls hW hAa hag hn hvl hvs hS hl
  subst hnl
  have kk := fun ls hl => kk ad H locs ls hW hAa hag hn (vl_st hlv (vs_h hvs) hvl) (vs_t hvs) hS hl
  have h9 := mp_st2 (ad := ad) hlv
  exact lv_dstore_n hx hb hdg hk hl hi h9 kk
theorem J_dstore {C : JC} {x : Bool} {cc : ByteArray} {nL : Nat} {rm : Room} {rt : Option FieldType} {own : String} {res : Res} {ce sl : Nat} {M : Mem} {pc : Nat} {lv : List (Nat × Value)} {st : List Value} {i : Nat} {v : UInt64} {lv' : List (Nat × Value)} (hC : Ok C x cc nL rm rt own res) (hdg : decode cc pc = .ok (.dstore i, 2)) (hi : i + 1 < nL) (hlv : (i, Value.double v) :: lv.filter (fun q => !(q.1 == i) && (!(q.1 == i + 1) && !(q.1 + 1 == i && q.2.category == 2))) = lv')
    (kk : J C ce sl M (pc + 2) lv' st) : J C ce sl M pc lv (Value.double v :: st) := by
  obtain ⟨p, l, e, R, s, m, args, below, meth, c, H0, A, Q, nL0, G, ad0, n0⟩ := C
  obtain ⟨hx, hb, hml, hnl, hown, hts, hKK, hH0, hA, hlk, hrt, hR, hQ, hxt⟩ := hC
  intro ad H locs ls hW hAa hag hn hvl hvs hS hl
  subst hnl
  have kk := fun ls hl => kk ad H locs ls hW hAa hag hn (vl_st hlv (vs_h hvs) hvl) (vs_t hvs) hS hl
  have h9 := mp_st2 (ad := ad) hlv
  exact lv_dstore hx hb hdg hl hi h9 kk
theorem J_astore_n {C : JC} {x : Bool} {cc : ByteArray} {nL : Nat} {rm : Room} {rt : Option FieldType} {own : String} {res : Res} {ce sl : Nat} {M : Mem} {pc : Nat} {lv : List (Nat × Value)} {st : List Value} {k : Fin 4} {i : Nat} {r : Option Nat} (hk : (k : Nat) = i) {lv' : List (Nat × Value)} (hC : Ok C x cc nL rm rt own res) (hdg : decode cc pc = .ok (.astore_n k, 1)) (hi : i < nL) (hlv : (i, rf r) :: lv.filter (fun q => !(q.1 == i) && !(q.1 + 1 == i && q.2.category == 2)) = lv')
    (kk : J C ce sl M (pc + 1) lv' st) : J C ce sl M pc lv (rf r :: st) := by
  obtain ⟨p, l, e, R, s, m, args, below, meth, c, H0, A, Q, nL0, G, ad0, n0⟩ := C
  obtain ⟨hx, hb, hml, hnl, hown, hts, hKK, hH0, hA, hlk, hrt, hR, hQ, hxt⟩ := hC
  intro ad H locs ls hW hAa hag hn hvl hvs hS hl
  subst hnl
  have kk := fun ls hl => kk ad H locs ls hW hAa hag hn (vl_st hlv (vs_h hvs) hvl) (vs_t hvs) hS hl
  have h9 := mp_st1 (ad := ad) hlv
  cases r with
  | none => exact lv_astore_nN hx hb hdg hk hl hi h9 kk
  | some q => exact lv_astore_n hx hb hdg hk hl hi h9 kk
theorem J_astore {C : JC} {x : Bool} {cc : ByteArray} {nL : Nat} {rm : Room} {rt : Option FieldType} {own : String} {res : Res} {ce sl : Nat} {M : Mem} {pc : Nat} {lv : List (Nat × Value)} {st : List Value} {i : Nat} {r : Option Nat} {lv' : List (Nat × Value)} (hC : Ok C x cc nL rm rt own res) (hdg : decode cc pc = .ok (.astore i, 2)) (hi : i < nL) (hlv : (i, rf r) :: lv.filter (fun q => !(q.1 == i) && !(q.1 + 1 == i && q.2.category == 2)) = lv')
    (kk : J C ce sl M (pc + 2) lv' st) : J C ce sl M pc lv (rf r :: st) := by
  obtain ⟨p, l, e, R, s, m, args, below, meth, c, H0, A, Q, nL0, G, ad0, n0⟩ := C
  obtain ⟨hx, hb, hml, hnl, hown, hts, hKK, hH0, hA, hlk, hrt, hR, hQ, hxt⟩ := hC
  intro ad H locs ls hW hAa hag hn hvl hvs hS hl
  subst hnl
  have kk := fun ls hl => kk ad H locs ls hW hAa hag hn (vl_st hlv (vs_h hvs) hvl) (vs_t hvs) hS hl
  have h9 := mp_st1 (ad := ad) hlv
  cases r with
  | none => exact lv_astoreN hx hb hdg hl hi h9 kk
  | some q => exact lv_astore hx hb hdg hl hi h9 kk
theorem J_iinc {C : JC} {x : Bool} {cc : ByteArray} {nL : Nat} {rm : Room} {rt : Option FieldType} {own : String} {res : Res} {ce sl : Nat} {M : Mem} {pc : Nat} {lv : List (Nat × Value)} {st : List Value} {i j : Nat} {n : Int} {v w : Int32} {lv' : List (Nat × Value)} (hC : Ok C x cc nL rm rt own res) (hdg : decode cc pc = .ok (.iinc i n, 3)) (hi : i < nL) (hj : lv[j]? = some (i, .int v)) (hw : v + Int32.ofInt n = w) (hlv : (i, Value.int w) :: lv.filter (fun q => !(q.1 == i) && !(q.1 + 1 == i && q.2.category == 2)) = lv')
    (kk : J C ce sl M (pc + 3) lv' st) : J C ce sl M pc lv st := by
  obtain ⟨p, l, e, R, s, m, args, below, meth, c, H0, A, Q, nL0, G, ad0, n0⟩ := C
  obtain ⟨hx, hb, hml, hnl, hown, hts, hKK, hH0, hA, hlk, hrt, hR, hQ, hxt⟩ := hC
  intro ad H locs ls hW hAa hag hn hvl hvs hS hl
  subst hnl
  have h9 := mp_st1 (ad := ad) hlv
  exact lv_iinc hx hb hdg hl (mp_at hj) hw hi h9 (fun ls hl => kk ad H locs ls hW hAa hag hn (vl_st hlv Vok_int hvl) hvs hS hl)
theorem J_iadd {C : JC} {x : Bool} {cc : ByteArray} {nL : Nat} {rm : Room} {rt : Option FieldType} {own : String} {res : Res} {ce sl : Nat} {M : Mem} {pc : Nat} {lv : List (Nat × Value)} {st : List Value} {a b : Int32} (hC : Ok C x cc nL rm rt own res) (hdg : decode cc pc = .ok (.iadd, 1))
    (kk : J C ce sl M (pc + 1) lv (.int (a + b) :: st)) : J C ce sl M pc lv (.int b :: .int a :: st) := by
  obtain ⟨p, l, e, R, s, m, args, below, meth, c, H0, A, Q, nL0, G, ad0, n0⟩ := C
  obtain ⟨hx, hb, hml, hnl, hown, hts, hKK, hH0, hA, hlk, hrt, hR, hQ, hxt⟩ := hC
  intro ad H locs ls hW hAa hag hn hvl hvs hS hl
  exact lv_iadd hx hb hdg (kk ad H locs ls hW hAa hag hn hvl (vs_c Vok_int (vs_t (vs_t hvs))) hS hl)
theorem J_isub {C : JC} {x : Bool} {cc : ByteArray} {nL : Nat} {rm : Room} {rt : Option FieldType} {own : String} {res : Res} {ce sl : Nat} {M : Mem} {pc : Nat} {lv : List (Nat × Value)} {st : List Value} {a b : Int32} (hC : Ok C x cc nL rm rt own res) (hdg : decode cc pc = .ok (.isub, 1))
    (kk : J C ce sl M (pc + 1) lv (.int (a - b) :: st)) : J C ce sl M pc lv (.int b :: .int a :: st) := by
  obtain ⟨p, l, e, R, s, m, args, below, meth, c, H0, A, Q, nL0, G, ad0, n0⟩ := C
  obtain ⟨hx, hb, hml, hnl, hown, hts, hKK, hH0, hA, hlk, hrt, hR, hQ, hxt⟩ := hC
  intro ad H locs ls hW hAa hag hn hvl hvs hS hl
  exact lv_isub hx hb hdg (kk ad H locs ls hW hAa hag hn hvl (vs_c Vok_int (vs_t (vs_t hvs))) hS hl)
theorem J_imul {C : JC} {x : Bool} {cc : ByteArray} {nL : Nat} {rm : Room} {rt : Option FieldType} {own : String} {res : Res} {ce sl : Nat} {M : Mem} {pc : Nat} {lv : List (Nat × Value)} {st : List Value} {a b : Int32} (hC : Ok C x cc nL rm rt own res) (hdg : decode cc pc = .ok (.imul, 1))
    (kk : J C ce sl M (pc + 1) lv (.int (a * b) :: st)) : J C ce sl M pc lv (.int b :: .int a :: st) := by
  obtain ⟨p, l, e, R, s, m, args, below, meth, c, H0, A, Q, nL0, G, ad0, n0⟩ := C
  obtain ⟨hx, hb, hml, hnl, hown, hts, hKK, hH0, hA, hlk, hrt, hR, hQ, hxt⟩ := hC
  intro ad H locs ls hW hAa hag hn hvl hvs hS hl
  exact lv_imul hx hb hdg (kk ad H locs ls hW hAa hag hn hvl (vs_c Vok_int (vs_t (vs_t hvs))) hS hl)
theorem J_iand {C : JC} {x : Bool} {cc : ByteArray} {nL : Nat} {rm : Room} {rt : Option FieldType} {own : String} {res : Res} {ce sl : Nat} {M : Mem} {pc : Nat} {lv : List (Nat × Value)} {st : List Value} {a b : Int32} (hC : Ok C x cc nL rm rt own res) (hdg : decode cc pc = .ok (.iand, 1))
    (kk : J C ce sl M (pc + 1) lv (.int (a &&& b) :: st)) : J C ce sl M pc lv (.int b :: .int a :: st) := by
  obtain ⟨p, l, e, R, s, m, args, below, meth, c, H0, A, Q, nL0, G, ad0, n0⟩ := C
  obtain ⟨hx, hb, hml, hnl, hown, hts, hKK, hH0, hA, hlk, hrt, hR, hQ, hxt⟩ := hC
  intro ad H locs ls hW hAa hag hn hvl hvs hS hl
  exact lv_iand hx hb hdg (kk ad H locs ls hW hAa hag hn hvl (vs_c Vok_int (vs_t (vs_t hvs))) hS hl)
theorem J_ior {C : JC} {x : Bool} {cc : ByteArray} {nL : Nat} {rm : Room} {rt : Option FieldType} {own : String} {res : Res} {ce sl : Nat} {M : Mem} {pc : Nat} {lv : List (Nat × Value)} {st : List Value} {a b : Int32} (hC : Ok C x cc nL rm rt own res) (hdg : decode cc pc = .ok (.ior, 1))
    (kk : J C ce sl M (pc + 1) lv (.int (a ||| b) :: st)) : J C ce sl M pc lv (.int b :: .int a :: st) := by
  obtain ⟨p, l, e, R, s, m, args, below, meth, c, H0, A, Q, nL0, G, ad0, n0⟩ := C
  obtain ⟨hx, hb, hml, hnl, hown, hts, hKK, hH0, hA, hlk, hrt, hR, hQ, hxt⟩ := hC
  intro ad H locs ls hW hAa hag hn hvl hvs hS hl
  exact lv_ior hx hb hdg (kk ad H locs ls hW hAa hag hn hvl (vs_c Vok_int (vs_t (vs_t hvs))) hS hl)
theorem J_ladd {C : JC} {x : Bool} {cc : ByteArray} {nL : Nat} {rm : Room} {rt : Option FieldType} {own : String} {res : Res} {ce sl : Nat} {M : Mem} {pc : Nat} {lv : List (Nat × Value)} {st : List Value} {a b : Int64} (hC : Ok C x cc nL rm rt own res) (hdg : decode cc pc = .ok (.ladd, 1))
    (kk : J C ce sl M (pc + 1) lv (.long (a + b) :: st)) : J C ce sl M pc lv (.long b :: .long a :: st) := by
  obtain ⟨p, l, e, R, s, m, args, below, meth, c, H0, A, Q, nL0, G, ad0, n0⟩ := C
  obtain ⟨hx, hb, hml, hnl, hown, hts, hKK, hH0, hA, hlk, hrt, hR, hQ, hxt⟩ := hC
  intro ad H locs ls hW hAa hag hn hvl hvs hS hl
  exact lv_ladd hx hb hdg (kk ad H locs ls hW hAa hag hn hvl (vs_c Vok_long (vs_t (vs_t hvs))) hS hl)
theorem J_lsub {C : JC} {x : Bool} {cc : ByteArray} {nL : Nat} {rm : Room} {rt : Option FieldType} {own : String} {res : Res} {ce sl : Nat} {M : Mem} {pc : Nat} {lv : List (Nat × Value)} {st : List Value} {a b : Int64} (hC : Ok C x cc nL rm rt own res) (hdg : decode cc pc = .ok (.lsub, 1))
    (kk : J C ce sl M (pc + 1) lv (.long (a - b) :: st)) : J C ce sl M pc lv (.long b :: .long a :: st) := by
  obtain ⟨p, l, e, R, s, m, args, below, meth, c, H0, A, Q, nL0, G, ad0, n0⟩ := C
  obtain ⟨hx, hb, hml, hnl, hown, hts, hKK, hH0, hA, hlk, hrt, hR, hQ, hxt⟩ := hC
  intro ad H locs ls hW hAa hag hn hvl hvs hS hl
  exact lv_lsub hx hb hdg (kk ad H locs ls hW hAa hag hn hvl (vs_c Vok_long (vs_t (vs_t hvs))) hS hl)
theorem J_lmul {C : JC} {x : Bool} {cc : ByteArray} {nL : Nat} {rm : Room} {rt : Option FieldType} {own : String} {res : Res} {ce sl : Nat} {M : Mem} {pc : Nat} {lv : List (Nat × Value)} {st : List Value} {a b : Int64} (hC : Ok C x cc nL rm rt own res) (hdg : decode cc pc = .ok (.lmul, 1))
    (kk : J C ce sl M (pc + 1) lv (.long (a * b) :: st)) : J C ce sl M pc lv (.long b :: .long a :: st) := by
  obtain ⟨p, l, e, R, s, m, args, below, meth, c, H0, A, Q, nL0, G, ad0, n0⟩ := C
  obtain ⟨hx, hb, hml, hnl, hown, hts, hKK, hH0, hA, hlk, hrt, hR, hQ, hxt⟩ := hC
  intro ad H locs ls hW hAa hag hn hvl hvs hS hl
  exact lv_lmul hx hb hdg (kk ad H locs ls hW hAa hag hn hvl (vs_c Vok_long (vs_t (vs_t hvs))) hS hl)
theorem J_land {C : JC} {x : Bool} {cc : ByteArray} {nL : Nat} {rm : Room} {rt : Option FieldType} {own : String} {res : Res} {ce sl : Nat} {M : Mem} {pc : Nat} {lv : List (Nat × Value)} {st : List Value} {a b : Int64} (hC : Ok C x cc nL rm rt own res) (hdg : decode cc pc = .ok (.land, 1))
    (kk : J C ce sl M (pc + 1) lv (.long (a &&& b) :: st)) : J C ce sl M pc lv (.long b :: .long a :: st) := by
  obtain ⟨p, l, e, R, s, m, args, below, meth, c, H0, A, Q, nL0, G, ad0, n0⟩ := C
  obtain ⟨hx, hb, hml, hnl, hown, hts, hKK, hH0, hA, hlk, hrt, hR, hQ, hxt⟩ := hC
  intro ad H locs ls hW hAa hag hn hvl hvs hS hl
  exact lv_land hx hb hdg (kk ad H locs ls hW hAa hag hn hvl (vs_c Vok_long (vs_t (vs_t hvs))) hS hl)
theorem J_lor {C : JC} {x : Bool} {cc : ByteArray} {nL : Nat} {rm : Room} {rt : Option FieldType} {own : String} {res : Res} {ce sl : Nat} {M : Mem} {pc : Nat} {lv : List (Nat × Value)} {st : List Value} {a b : Int64} (hC : Ok C x cc nL rm rt own res) (hdg : decode cc pc = .ok (.lor, 1))
    (kk : J C ce sl M (pc + 1) lv (.long (a ||| b) :: st)) : J C ce sl M pc lv (.long b :: .long a :: st) := by
  obtain ⟨p, l, e, R, s, m, args, below, meth, c, H0, A, Q, nL0, G, ad0, n0⟩ := C
  obtain ⟨hx, hb, hml, hnl, hown, hts, hKK, hH0, hA, hlk, hrt, hR, hQ, hxt⟩ := hC
  intro ad H locs ls hW hAa hag hn hvl hvs hS hl
  exact lv_lor hx hb hdg (kk ad H locs ls hW hAa hag hn hvl (vs_c Vok_long (vs_t (vs_t hvs))) hS hl)
theorem J_idiv {C : JC} {x : Bool} {cc : ByteArray} {nL : Nat} {rm : Room} {rt : Option FieldType} {own : String} {res : Res} {ce sl : Nat} {M : Mem} {pc : Nat} {lv : List (Nat × Value)} {st : List Value} {a b : Int32} (hC : Ok C x cc nL rm rt own res) (hdg : decode cc pc = .ok (.idiv, 1)) (h0 : ¬ b = 0)
    (kk : J C ce sl M (pc + 1) lv (.int (a / b) :: st)) : J C ce sl M pc lv (.int b :: .int a :: st) := by
  obtain ⟨p, l, e, R, s, m, args, below, meth, c, H0, A, Q, nL0, G, ad0, n0⟩ := C
  obtain ⟨hx, hb, hml, hnl, hown, hts, hKK, hH0, hA, hlk, hrt, hR, hQ, hxt⟩ := hC
  intro ad H locs ls hW hAa hag hn hvl hvs hS hl
  exact lv_idiv hx hb hdg h0 (kk ad H locs ls hW hAa hag hn hvl (vs_c Vok_int (vs_t (vs_t hvs))) hS hl)
theorem J_irem {C : JC} {x : Bool} {cc : ByteArray} {nL : Nat} {rm : Room} {rt : Option FieldType} {own : String} {res : Res} {ce sl : Nat} {M : Mem} {pc : Nat} {lv : List (Nat × Value)} {st : List Value} {a b : Int32} (hC : Ok C x cc nL rm rt own res) (hdg : decode cc pc = .ok (.irem, 1)) (h0 : ¬ b = 0)
    (kk : J C ce sl M (pc + 1) lv (.int (a - a / b * b) :: st)) : J C ce sl M pc lv (.int b :: .int a :: st) := by
  obtain ⟨p, l, e, R, s, m, args, below, meth, c, H0, A, Q, nL0, G, ad0, n0⟩ := C
  obtain ⟨hx, hb, hml, hnl, hown, hts, hKK, hH0, hA, hlk, hrt, hR, hQ, hxt⟩ := hC
  intro ad H locs ls hW hAa hag hn hvl hvs hS hl
  exact lv_irem hx hb hdg h0 (kk ad H locs ls hW hAa hag hn hvl (vs_c Vok_int (vs_t (vs_t hvs))) hS hl)
theorem J_ineg {C : JC} {x : Bool} {cc : ByteArray} {nL : Nat} {rm : Room} {rt : Option FieldType} {own : String} {res : Res} {ce sl : Nat} {M : Mem} {pc : Nat} {lv : List (Nat × Value)} {st : List Value} {a : Int32} (hC : Ok C x cc nL rm rt own res) (hdg : decode cc pc = .ok (.ineg, 1))
    (kk : J C ce sl M (pc + 1) lv (.int (-a) :: st)) : J C ce sl M pc lv (.int a :: st) := by
  obtain ⟨p, l, e, R, s, m, args, below, meth, c, H0, A, Q, nL0, G, ad0, n0⟩ := C
  obtain ⟨hx, hb, hml, hnl, hown, hts, hKK, hH0, hA, hlk, hrt, hR, hQ, hxt⟩ := hC
  intro ad H locs ls hW hAa hag hn hvl hvs hS hl
  exact lv_ineg hx hb hdg (kk ad H locs ls hW hAa hag hn hvl (vs_c Vok_int (vs_t hvs)) hS hl)
theorem J_i2l {C : JC} {x : Bool} {cc : ByteArray} {nL : Nat} {rm : Room} {rt : Option FieldType} {own : String} {res : Res} {ce sl : Nat} {M : Mem} {pc : Nat} {lv : List (Nat × Value)} {st : List Value} {a : Int32} (hC : Ok C x cc nL rm rt own res) (hdg : decode cc pc = .ok (.i2l, 1))
    (kk : J C ce sl M (pc + 1) lv (.long a.toInt64 :: st)) : J C ce sl M pc lv (.int a :: st) := by
  obtain ⟨p, l, e, R, s, m, args, below, meth, c, H0, A, Q, nL0, G, ad0, n0⟩ := C
  obtain ⟨hx, hb, hml, hnl, hown, hts, hKK, hH0, hA, hlk, hrt, hR, hQ, hxt⟩ := hC
  intro ad H locs ls hW hAa hag hn hvl hvs hS hl
  exact lv_i2l hx hb hdg rfl (kk ad H locs ls hW hAa hag hn hvl (vs_c Vok_long (vs_t hvs)) hS hl)
theorem J_i2d {C : JC} {x : Bool} {cc : ByteArray} {nL : Nat} {rm : Room} {rt : Option FieldType} {own : String} {res : Res} {ce sl : Nat} {M : Mem} {pc : Nat} {lv : List (Nat × Value)} {st : List Value} {a : Int32} (hC : Ok C x cc nL rm rt own res) (hdg : decode cc pc = .ok (.i2d, 1))
    (kk : J C ce sl M (pc + 1) lv (.double (FP.i2d a) :: st)) : J C ce sl M pc lv (.int a :: st) := by
  obtain ⟨p, l, e, R, s, m, args, below, meth, c, H0, A, Q, nL0, G, ad0, n0⟩ := C
  obtain ⟨hx, hb, hml, hnl, hown, hts, hKK, hH0, hA, hlk, hrt, hR, hQ, hxt⟩ := hC
  intro ad H locs ls hW hAa hag hn hvl hvs hS hl
  exact lv_i2d hx hb hdg (kk ad H locs ls hW hAa hag hn hvl (vs_c Vok_double (vs_t hvs)) hS hl)
theorem J_d2l {C : JC} {x : Bool} {cc : ByteArray} {nL : Nat} {rm : Room} {rt : Option FieldType} {own : String} {res : Res} {ce sl : Nat} {M : Mem} {pc : Nat} {lv : List (Nat × Value)} {st : List Value} {a : UInt64} (hC : Ok C x cc nL rm rt own res) (hdg : decode cc pc = .ok (.d2l, 1))
    (kk : J C ce sl M (pc + 1) lv (.long (FP.d2l a) :: st)) : J C ce sl M pc lv (.double a :: st) := by
  obtain ⟨p, l, e, R, s, m, args, below, meth, c, H0, A, Q, nL0, G, ad0, n0⟩ := C
  obtain ⟨hx, hb, hml, hnl, hown, hts, hKK, hH0, hA, hlk, hrt, hR, hQ, hxt⟩ := hC
  intro ad H locs ls hW hAa hag hn hvl hvs hS hl
  exact lv_d2l hx hb hdg (kk ad H locs ls hW hAa hag hn hvl (vs_c Vok_long (vs_t hvs)) hS hl)
theorem J_lshl {C : JC} {x : Bool} {cc : ByteArray} {nL : Nat} {rm : Room} {rt : Option FieldType} {own : String} {res : Res} {ce sl : Nat} {M : Mem} {pc : Nat} {lv : List (Nat × Value)} {st : List Value} {a : Int64} {b : Int32} (hC : Ok C x cc nL rm rt own res) (hdg : decode cc pc = .ok (.lshl, 1))
    (kk : J C ce sl M (pc + 1) lv (.long (a <<< (b.toInt64 &&& 63)) :: st)) : J C ce sl M pc lv (.int b :: .long a :: st) := by
  obtain ⟨p, l, e, R, s, m, args, below, meth, c, H0, A, Q, nL0, G, ad0, n0⟩ := C
  obtain ⟨hx, hb, hml, hnl, hown, hts, hKK, hH0, hA, hlk, hrt, hR, hQ, hxt⟩ := hC
  intro ad H locs ls hW hAa hag hn hvl hvs hS hl
  exact lv_lshl hx hb hdg rfl (kk ad H locs ls hW hAa hag hn hvl (vs_c Vok_long (vs_t (vs_t hvs))) hS hl)
theorem J_lushr {C : JC} {x : Bool} {cc : ByteArray} {nL : Nat} {rm : Room} {rt : Option FieldType} {own : String} {res : Res} {ce sl : Nat} {M : Mem} {pc : Nat} {lv : List (Nat × Value)} {st : List Value} {a : Int64} {b : Int32} (hC : Ok C x cc nL rm rt own res) (hdg : decode cc pc = .ok (.lushr, 1))
    (kk : J C ce sl M (pc + 1) lv (.long (a.toUInt64 >>> (b.toInt64.toUInt64 &&& Int64.toUInt64 63)).toInt64 :: st)) : J C ce sl M pc lv (.int b :: .long a :: st) := by
  obtain ⟨p, l, e, R, s, m, args, below, meth, c, H0, A, Q, nL0, G, ad0, n0⟩ := C
  obtain ⟨hx, hb, hml, hnl, hown, hts, hKK, hH0, hA, hlk, hrt, hR, hQ, hxt⟩ := hC
  intro ad H locs ls hW hAa hag hn hvl hvs hS hl
  exact lv_lushr hx hb hdg rfl (kk ad H locs ls hW hAa hag hn hvl (vs_c Vok_long (vs_t (vs_t hvs))) hS hl)
theorem J_l2i {C : JC} {x : Bool} {cc : ByteArray} {nL : Nat} {rm : Room} {rt : Option FieldType} {own : String} {res : Res} {ce sl : Nat} {M : Mem} {pc : Nat} {lv : List (Nat × Value)} {st : List Value} {a : Int64} (hC : Ok C x cc nL rm rt own res) (hdg : decode cc pc = .ok (.l2i, 1))
    (kk : J C ce sl M (pc + 1) lv (.int a.toInt32 :: st)) : J C ce sl M pc lv (.long a :: st) := by
  obtain ⟨p, l, e, R, s, m, args, below, meth, c, H0, A, Q, nL0, G, ad0, n0⟩ := C
  obtain ⟨hx, hb, hml, hnl, hown, hts, hKK, hH0, hA, hlk, hrt, hR, hQ, hxt⟩ := hC
  intro ad H locs ls hW hAa hag hn hvl hvs hS hl
  exact lv_l2i hx hb hdg rfl (kk ad H locs ls hW hAa hag hn hvl (vs_c Vok_int (vs_t hvs)) hS hl)
theorem J_ishr {C : JC} {x : Bool} {cc : ByteArray} {nL : Nat} {rm : Room} {rt : Option FieldType} {own : String} {res : Res} {ce sl : Nat} {M : Mem} {pc : Nat} {lv : List (Nat × Value)} {st : List Value} {a b : Int32} (hC : Ok C x cc nL rm rt own res) (hdg : decode cc pc = .ok (.ishr, 1))
    (kk : J C ce sl M (pc + 1) lv (.int (a >>> (b &&& 31)) :: st)) : J C ce sl M pc lv (.int b :: .int a :: st) := by
  obtain ⟨p, l, e, R, s, m, args, below, meth, c, H0, A, Q, nL0, G, ad0, n0⟩ := C
  obtain ⟨hx, hb, hml, hnl, hown, hts, hKK, hH0, hA, hlk, hrt, hR, hQ, hxt⟩ := hC
  intro ad H locs ls hW hAa hag hn hvl hvs hS hl
  exact lv_ishr hx hb hdg (kk ad H locs ls hW hAa hag hn hvl (vs_c Vok_int (vs_t (vs_t hvs))) hS hl)
theorem J_pop {C : JC} {x : Bool} {cc : ByteArray} {nL : Nat} {rm : Room} {rt : Option FieldType} {own : String} {res : Res} {ce sl : Nat} {M : Mem} {pc : Nat} {lv : List (Nat × Value)} {st : List Value} {v : Value} (hC : Ok C x cc nL rm rt own res) (hdg : decode cc pc = .ok (.pop, 1)) (h1 : v.category = 1)
    (kk : J C ce sl M (pc + 1) lv (st)) : J C ce sl M pc lv (v :: st) := by
  obtain ⟨p, l, e, R, s, m, args, below, meth, c, H0, A, Q, nL0, G, ad0, n0⟩ := C
  obtain ⟨hx, hb, hml, hnl, hown, hts, hKK, hH0, hA, hlk, hrt, hR, hQ, hxt⟩ := hC
  intro ad H locs ls hW hAa hag hn hvl hvs hS hl
  exact lv_pop hx hb hdg (by rw [cat_phys]; exact h1) (kk ad H locs ls hW hAa hag hn hvl (vs_t hvs) hS hl)
theorem J_lcmp {C : JC} {x : Bool} {cc : ByteArray} {nL : Nat} {rm : Room} {rt : Option FieldType} {own : String} {res : Res} {ce sl : Nat} {M : Mem} {pc : Nat} {lv : List (Nat × Value)} {st : List Value} {a b : Int64} (hC : Ok C x cc nL rm rt own res) (hdg : decode cc pc = .ok (.lcmp, 1))
    (kk : J C ce sl M (pc + 1) lv (.int (lg_cmp a b) :: st)) : J C ce sl M pc lv (.long b :: .long a :: st) := by
  obtain ⟨p, l, e, R, s, m, args, below, meth, c, H0, A, Q, nL0, G, ad0, n0⟩ := C
  obtain ⟨hx, hb, hml, hnl, hown, hts, hKK, hH0, hA, hlk, hrt, hR, hQ, hxt⟩ := hC
  intro ad H locs ls hW hAa hag hn hvl hvs hS hl
  exact W.lcmp hx hb hdg (kk ad H locs ls hW hAa hag hn hvl (vs_c Vok_int (vs_t (vs_t hvs))) hS hl)
theorem J_ddiv {C : JC} {x : Bool} {cc : ByteArray} {nL : Nat} {rm : Room} {rt : Option FieldType} {own : String} {res : Res} {ce sl : Nat} {M : Mem} {pc : Nat} {lv : List (Nat × Value)} {st : List Value} {a b : UInt64} (hC : Ok C x cc nL rm rt own res) (hdg : decode cc pc = .ok (.ddiv, 1)) (h0 : vf_n64 (FP.ddiv a b))
    (kk : J C ce sl M (pc + 1) lv (.double (FP.ddiv a b) :: st)) : J C ce sl M pc lv (.double b :: .double a :: st) := by
  obtain ⟨p, l, e, R, s, m, args, below, meth, c, H0, A, Q, nL0, G, ad0, n0⟩ := C
  obtain ⟨hx, hb, hml, hnl, hown, hts, hKK, hH0, hA, hlk, hrt, hR, hQ, hxt⟩ := hC
  intro ad H locs ls hW hAa hag hn hvl hvs hS hl
  exact lv_ddiv hx hb hdg h0 (kk ad H locs ls hW hAa hag hn hvl (vs_c Vok_double (vs_t (vs_t hvs))) hS hl)
theorem J_dmul {C : JC} {x : Bool} {cc : ByteArray} {nL : Nat} {rm : Room} {rt : Option FieldType} {own : String} {res : Res} {ce sl : Nat} {M : Mem} {pc : Nat} {lv : List (Nat × Value)} {st : List Value} {a b : UInt64} (hC : Ok C x cc nL rm rt own res) (hdg : decode cc pc = .ok (.dmul, 1)) (h0 : vf_n64 (FP.dmul a b))
    (kk : J C ce sl M (pc + 1) lv (.double (FP.dmul a b) :: st)) : J C ce sl M pc lv (.double b :: .double a :: st) := by
  obtain ⟨p, l, e, R, s, m, args, below, meth, c, H0, A, Q, nL0, G, ad0, n0⟩ := C
  obtain ⟨hx, hb, hml, hnl, hown, hts, hKK, hH0, hA, hlk, hrt, hR, hQ, hxt⟩ := hC
  intro ad H locs ls hW hAa hag hn hvl hvs hS hl
  exact lv_dmul hx hb hdg h0 (kk ad H locs ls hW hAa hag hn hvl (vs_c Vok_double (vs_t (vs_t hvs))) hS hl)
theorem J_dsub {C : JC} {x : Bool} {cc : ByteArray} {nL : Nat} {rm : Room} {rt : Option FieldType} {own : String} {res : Res} {ce sl : Nat} {M : Mem} {pc : Nat} {lv : List (Nat × Value)} {st : List Value} {a b : UInt64} (hC : Ok C x cc nL rm rt own res) (hdg : decode cc pc = .ok (.dsub, 1)) (h0 : vf_n64 (FP.dsub a b))
    (kk : J C ce sl M (pc + 1) lv (.double (FP.dsub a b) :: st)) : J C ce sl M pc lv (.double b :: .double a :: st) := by
  obtain ⟨p, l, e, R, s, m, args, below, meth, c, H0, A, Q, nL0, G, ad0, n0⟩ := C
  obtain ⟨hx, hb, hml, hnl, hown, hts, hKK, hH0, hA, hlk, hrt, hR, hQ, hxt⟩ := hC
  intro ad H locs ls hW hAa hag hn hvl hvs hS hl
  exact lv_dsub hx hb hdg h0 (kk ad H locs ls hW hAa hag hn hvl (vs_c Vok_double (vs_t (vs_t hvs))) hS hl)
theorem J_dup {C : JC} {x : Bool} {cc : ByteArray} {nL : Nat} {rm : Room} {rt : Option FieldType} {own : String} {res : Res} {ce sl : Nat} {M : Mem} {pc : Nat} {lv : List (Nat × Value)} {st : List Value} {v : Value} (hC : Ok C x cc nL rm rt own res) (hdg : decode cc pc = .ok (.dup, 1)) (h1 : v.category = 1)
    (kk : J C ce sl M (pc + 1) lv (v :: v :: st)) : J C ce sl M pc lv (v :: st) := by
  obtain ⟨p, l, e, R, s, m, args, below, meth, c, H0, A, Q, nL0, G, ad0, n0⟩ := C
  obtain ⟨hx, hb, hml, hnl, hown, hts, hKK, hH0, hA, hlk, hrt, hR, hQ, hxt⟩ := hC
  intro ad H locs ls hW hAa hag hn hvl hvs hS hl
  exact lv_dup hx hb hdg (by rw [cat_phys]; exact h1) (kk ad H locs ls hW hAa hag hn hvl (vs_c (vs_h hvs) hvs) hS hl)
theorem J_dup2 {C : JC} {x : Bool} {cc : ByteArray} {nL : Nat} {rm : Room} {rt : Option FieldType} {own : String} {res : Res} {ce sl : Nat} {M : Mem} {pc : Nat} {lv : List (Nat × Value)} {st : List Value} {v w : Value} (hC : Ok C x cc nL rm rt own res) (hdg : decode cc pc = .ok (.dup2, 1)) (h1 : v.category = 1) (h2 : w.category = 1)
    (kk : J C ce sl M (pc + 1) lv (v :: w :: v :: w :: st)) : J C ce sl M pc lv (v :: w :: st) := by
  obtain ⟨p, l, e, R, s, m, args, below, meth, c, H0, A, Q, nL0, G, ad0, n0⟩ := C
  obtain ⟨hx, hb, hml, hnl, hown, hts, hKK, hH0, hA, hlk, hrt, hR, hQ, hxt⟩ := hC
  intro ad H locs ls hW hAa hag hn hvl hvs hS hl
  exact lv_dup2_11 hx hb hdg (by rw [cat_phys]; exact h1) (by rw [cat_phys]; exact h2) (kk ad H locs ls hW hAa hag hn hvl (vs_c (vs_h hvs) (vs_c (vs_h (vs_t hvs)) hvs)) hS hl)
theorem J_if_eq {C : JC} {x : Bool} {cc : ByteArray} {nL : Nat} {rm : Room} {rt : Option FieldType} {own : String} {res : Res} {ce sl : Nat} {M : Mem} {pc : Nat} {lv : List (Nat × Value)} {st : List Value} {a : Int32} {off : Int} {tgt : Nat} (hC : Ok C x cc nL rm rt own res) (hdg : decode cc pc = .ok (.ifCond .eq off, 3)) (ht : (pc : Int) + off = (tgt : Int))
    (kt : a = 0 → J C ce sl M tgt lv st) (kf : ¬ (a = 0) → J C ce sl M (pc + 3) lv st) : J C ce sl M pc lv (.int a :: st) := by
  obtain ⟨p, l, e, R, s, m, args, below, meth, c, H0, A, Q, nL0, G, ad0, n0⟩ := C
  obtain ⟨hx, hb, hml, hnl, hown, hts, hKK, hH0, hA, hlk, hrt, hR, hQ, hxt⟩ := hC
  intro ad H locs ls hW hAa hag hn hvl hvs hS hl
  exact lv_if_eq hx hb hdg ht (fun h => kt h ad H locs ls hW hAa hag hn hvl (vs_t hvs) hS hl) (fun h => kf h ad H locs ls hW hAa hag hn hvl (vs_t hvs) hS hl)
theorem J_icmp_eq {C : JC} {x : Bool} {cc : ByteArray} {nL : Nat} {rm : Room} {rt : Option FieldType} {own : String} {res : Res} {ce sl : Nat} {M : Mem} {pc : Nat} {lv : List (Nat × Value)} {st : List Value} {a b : Int32} {off : Int} {tgt : Nat} (hC : Ok C x cc nL rm rt own res) (hdg : decode cc pc = .ok (.if_icmp .eq off, 3)) (ht : (pc : Int) + off = (tgt : Int))
    (kt : a = b → J C ce sl M tgt lv st) (kf : ¬ (a = b) → J C ce sl M (pc + 3) lv st) : J C ce sl M pc lv (.int b :: .int a :: st) := by
  obtain ⟨p, l, e, R, s, m, args, below, meth, c, H0, A, Q, nL0, G, ad0, n0⟩ := C
  obtain ⟨hx, hb, hml, hnl, hown, hts, hKK, hH0, hA, hlk, hrt, hR, hQ, hxt⟩ := hC
  intro ad H locs ls hW hAa hag hn hvl hvs hS hl
  exact lv_icmp_eq hx hb hdg ht (fun h => kt h ad H locs ls hW hAa hag hn hvl (vs_t (vs_t hvs)) hS hl) (fun h => kf h ad H locs ls hW hAa hag hn hvl (vs_t (vs_t hvs)) hS hl)
theorem J_if_lt {C : JC} {x : Bool} {cc : ByteArray} {nL : Nat} {rm : Room} {rt : Option FieldType} {own : String} {res : Res} {ce sl : Nat} {M : Mem} {pc : Nat} {lv : List (Nat × Value)} {st : List Value} {a : Int32} {off : Int} {tgt : Nat} (hC : Ok C x cc nL rm rt own res) (hdg : decode cc pc = .ok (.ifCond .lt off, 3)) (ht : (pc : Int) + off = (tgt : Int))
    (kt : a < 0 → J C ce sl M tgt lv st) (kf : ¬ (a < 0) → J C ce sl M (pc + 3) lv st) : J C ce sl M pc lv (.int a :: st) := by
  obtain ⟨p, l, e, R, s, m, args, below, meth, c, H0, A, Q, nL0, G, ad0, n0⟩ := C
  obtain ⟨hx, hb, hml, hnl, hown, hts, hKK, hH0, hA, hlk, hrt, hR, hQ, hxt⟩ := hC
  intro ad H locs ls hW hAa hag hn hvl hvs hS hl
  exact lv_if_lt hx hb hdg ht (fun h => kt h ad H locs ls hW hAa hag hn hvl (vs_t hvs) hS hl) (fun h => kf h ad H locs ls hW hAa hag hn hvl (vs_t hvs) hS hl)
theorem J_icmp_lt {C : JC} {x : Bool} {cc : ByteArray} {nL : Nat} {rm : Room} {rt : Option FieldType} {own : String} {res : Res} {ce sl : Nat} {M : Mem} {pc : Nat} {lv : List (Nat × Value)} {st : List Value} {a b : Int32} {off : Int} {tgt : Nat} (hC : Ok C x cc nL rm rt own res) (hdg : decode cc pc = .ok (.if_icmp .lt off, 3)) (ht : (pc : Int) + off = (tgt : Int))
    (kt : a < b → J C ce sl M tgt lv st) (kf : ¬ (a < b) → J C ce sl M (pc + 3) lv st) : J C ce sl M pc lv (.int b :: .int a :: st) := by
  obtain ⟨p, l, e, R, s, m, args, below, meth, c, H0, A, Q, nL0, G, ad0, n0⟩ := C
  obtain ⟨hx, hb, hml, hnl, hown, hts, hKK, hH0, hA, hlk, hrt, hR, hQ, hxt⟩ := hC
  intro ad H locs ls hW hAa hag hn hvl hvs hS hl
  exact lv_icmp_lt hx hb hdg ht (fun h => kt h ad H locs ls hW hAa hag hn hvl (vs_t (vs_t hvs)) hS hl) (fun h => kf h ad H locs ls hW hAa hag hn hvl (vs_t (vs_t hvs)) hS hl)
theorem J_if_ge {C : JC} {x : Bool} {cc : ByteArray} {nL : Nat} {rm : Room} {rt : Option FieldType} {own : String} {res : Res} {ce sl : Nat} {M : Mem} {pc : Nat} {lv : List (Nat × Value)} {st : List Value} {a : Int32} {off : Int} {tgt : Nat} (hC : Ok C x cc nL rm rt own res) (hdg : decode cc pc = .ok (.ifCond .ge off, 3)) (ht : (pc : Int) + off = (tgt : Int))
    (kt : 0 ≤ a → J C ce sl M tgt lv st) (kf : ¬ (0 ≤ a) → J C ce sl M (pc + 3) lv st) : J C ce sl M pc lv (.int a :: st) := by
  obtain ⟨p, l, e, R, s, m, args, below, meth, c, H0, A, Q, nL0, G, ad0, n0⟩ := C
  obtain ⟨hx, hb, hml, hnl, hown, hts, hKK, hH0, hA, hlk, hrt, hR, hQ, hxt⟩ := hC
  intro ad H locs ls hW hAa hag hn hvl hvs hS hl
  exact lv_if_ge hx hb hdg ht (fun h => kt h ad H locs ls hW hAa hag hn hvl (vs_t hvs) hS hl) (fun h => kf h ad H locs ls hW hAa hag hn hvl (vs_t hvs) hS hl)
theorem J_icmp_ge {C : JC} {x : Bool} {cc : ByteArray} {nL : Nat} {rm : Room} {rt : Option FieldType} {own : String} {res : Res} {ce sl : Nat} {M : Mem} {pc : Nat} {lv : List (Nat × Value)} {st : List Value} {a b : Int32} {off : Int} {tgt : Nat} (hC : Ok C x cc nL rm rt own res) (hdg : decode cc pc = .ok (.if_icmp .ge off, 3)) (ht : (pc : Int) + off = (tgt : Int))
    (kt : b ≤ a → J C ce sl M tgt lv st) (kf : ¬ (b ≤ a) → J C ce sl M (pc + 3) lv st) : J C ce sl M pc lv (.int b :: .int a :: st) := by
  obtain ⟨p, l, e, R, s, m, args, below, meth, c, H0, A, Q, nL0, G, ad0, n0⟩ := C
  obtain ⟨hx, hb, hml, hnl, hown, hts, hKK, hH0, hA, hlk, hrt, hR, hQ, hxt⟩ := hC
  intro ad H locs ls hW hAa hag hn hvl hvs hS hl
  exact lv_icmp_ge hx hb hdg ht (fun h => kt h ad H locs ls hW hAa hag hn hvl (vs_t (vs_t hvs)) hS hl) (fun h => kf h ad H locs ls hW hAa hag hn hvl (vs_t (vs_t hvs)) hS hl)
theorem J_if_gt {C : JC} {x : Bool} {cc : ByteArray} {nL : Nat} {rm : Room} {rt : Option FieldType} {own : String} {res : Res} {ce sl : Nat} {M : Mem} {pc : Nat} {lv : List (Nat × Value)} {st : List Value} {a : Int32} {off : Int} {tgt : Nat} (hC : Ok C x cc nL rm rt own res) (hdg : decode cc pc = .ok (.ifCond .gt off, 3)) (ht : (pc : Int) + off = (tgt : Int))
    (kt : 0 < a → J C ce sl M tgt lv st) (kf : ¬ (0 < a) → J C ce sl M (pc + 3) lv st) : J C ce sl M pc lv (.int a :: st) := by
  obtain ⟨p, l, e, R, s, m, args, below, meth, c, H0, A, Q, nL0, G, ad0, n0⟩ := C
  obtain ⟨hx, hb, hml, hnl, hown, hts, hKK, hH0, hA, hlk, hrt, hR, hQ, hxt⟩ := hC
  intro ad H locs ls hW hAa hag hn hvl hvs hS hl
  exact lv_if_gt hx hb hdg ht (fun h => kt h ad H locs ls hW hAa hag hn hvl (vs_t hvs) hS hl) (fun h => kf h ad H locs ls hW hAa hag hn hvl (vs_t hvs) hS hl)
theorem J_icmp_gt {C : JC} {x : Bool} {cc : ByteArray} {nL : Nat} {rm : Room} {rt : Option FieldType} {own : String} {res : Res} {ce sl : Nat} {M : Mem} {pc : Nat} {lv : List (Nat × Value)} {st : List Value} {a b : Int32} {off : Int} {tgt : Nat} (hC : Ok C x cc nL rm rt own res) (hdg : decode cc pc = .ok (.if_icmp .gt off, 3)) (ht : (pc : Int) + off = (tgt : Int))
    (kt : b < a → J C ce sl M tgt lv st) (kf : ¬ (b < a) → J C ce sl M (pc + 3) lv st) : J C ce sl M pc lv (.int b :: .int a :: st) := by
  obtain ⟨p, l, e, R, s, m, args, below, meth, c, H0, A, Q, nL0, G, ad0, n0⟩ := C
  obtain ⟨hx, hb, hml, hnl, hown, hts, hKK, hH0, hA, hlk, hrt, hR, hQ, hxt⟩ := hC
  intro ad H locs ls hW hAa hag hn hvl hvs hS hl
  exact lv_icmp_gt hx hb hdg ht (fun h => kt h ad H locs ls hW hAa hag hn hvl (vs_t (vs_t hvs)) hS hl) (fun h => kf h ad H locs ls hW hAa hag hn hvl (vs_t (vs_t hvs)) hS hl)
theorem J_if_le {C : JC} {x : Bool} {cc : ByteArray} {nL : Nat} {rm : Room} {rt : Option FieldType} {own : String} {res : Res} {ce sl : Nat} {M : Mem} {pc : Nat} {lv : List (Nat × Value)} {st : List Value} {a : Int32} {off : Int} {tgt : Nat} (hC : Ok C x cc nL rm rt own res) (hdg : decode cc pc = .ok (.ifCond .le off, 3)) (ht : (pc : Int) + off = (tgt : Int))
    (kt : a ≤ 0 → J C ce sl M tgt lv st) (kf : ¬ (a ≤ 0) → J C ce sl M (pc + 3) lv st) : J C ce sl M pc lv (.int a :: st) := by
  obtain ⟨p, l, e, R, s, m, args, below, meth, c, H0, A, Q, nL0, G, ad0, n0⟩ := C
  obtain ⟨hx, hb, hml, hnl, hown, hts, hKK, hH0, hA, hlk, hrt, hR, hQ, hxt⟩ := hC
  intro ad H locs ls hW hAa hag hn hvl hvs hS hl
  exact lv_if_le hx hb hdg ht (fun h => kt h ad H locs ls hW hAa hag hn hvl (vs_t hvs) hS hl) (fun h => kf h ad H locs ls hW hAa hag hn hvl (vs_t hvs) hS hl)
theorem J_icmp_le {C : JC} {x : Bool} {cc : ByteArray} {nL : Nat} {rm : Room} {rt : Option FieldType} {own : String} {res : Res} {ce sl : Nat} {M : Mem} {pc : Nat} {lv : List (Nat × Value)} {st : List Value} {a b : Int32} {off : Int} {tgt : Nat} (hC : Ok C x cc nL rm rt own res) (hdg : decode cc pc = .ok (.if_icmp .le off, 3)) (ht : (pc : Int) + off = (tgt : Int))
    (kt : a ≤ b → J C ce sl M tgt lv st) (kf : ¬ (a ≤ b) → J C ce sl M (pc + 3) lv st) : J C ce sl M pc lv (.int b :: .int a :: st) := by
  obtain ⟨p, l, e, R, s, m, args, below, meth, c, H0, A, Q, nL0, G, ad0, n0⟩ := C
  obtain ⟨hx, hb, hml, hnl, hown, hts, hKK, hH0, hA, hlk, hrt, hR, hQ, hxt⟩ := hC
  intro ad H locs ls hW hAa hag hn hvl hvs hS hl
  exact lv_icmp_le hx hb hdg ht (fun h => kt h ad H locs ls hW hAa hag hn hvl (vs_t (vs_t hvs)) hS hl) (fun h => kf h ad H locs ls hW hAa hag hn hvl (vs_t (vs_t hvs)) hS hl)
theorem J_if_ne {C : JC} {x : Bool} {cc : ByteArray} {nL : Nat} {rm : Room} {rt : Option FieldType} {own : String} {res : Res} {ce sl : Nat} {M : Mem} {pc : Nat} {lv : List (Nat × Value)} {st : List Value} {a : Int32} {off : Int} {tgt : Nat} (hC : Ok C x cc nL rm rt own res) (hdg : decode cc pc = .ok (.ifCond .ne off, 3)) (ht : (pc : Int) + off = (tgt : Int))
    (kt : ¬ (a = 0) → J C ce sl M tgt lv st) (kf : a = 0 → J C ce sl M (pc + 3) lv st) : J C ce sl M pc lv (.int a :: st) := by
  obtain ⟨p, l, e, R, s, m, args, below, meth, c, H0, A, Q, nL0, G, ad0, n0⟩ := C
  obtain ⟨hx, hb, hml, hnl, hown, hts, hKK, hH0, hA, hlk, hrt, hR, hQ, hxt⟩ := hC
  intro ad H locs ls hW hAa hag hn hvl hvs hS hl
  exact lv_if_ne hx hb hdg ht (fun h => kt h ad H locs ls hW hAa hag hn hvl (vs_t hvs) hS hl) (fun h => kf h ad H locs ls hW hAa hag hn hvl (vs_t hvs) hS hl)
theorem J_icmp_ne {C : JC} {x : Bool} {cc : ByteArray} {nL : Nat} {rm : Room} {rt : Option FieldType} {own : String} {res : Res} {ce sl : Nat} {M : Mem} {pc : Nat} {lv : List (Nat × Value)} {st : List Value} {a b : Int32} {off : Int} {tgt : Nat} (hC : Ok C x cc nL rm rt own res) (hdg : decode cc pc = .ok (.if_icmp .ne off, 3)) (ht : (pc : Int) + off = (tgt : Int))
    (kt : ¬ (a = b) → J C ce sl M tgt lv st) (kf : a = b → J C ce sl M (pc + 3) lv st) : J C ce sl M pc lv (.int b :: .int a :: st) := by
  obtain ⟨p, l, e, R, s, m, args, below, meth, c, H0, A, Q, nL0, G, ad0, n0⟩ := C
  obtain ⟨hx, hb, hml, hnl, hown, hts, hKK, hH0, hA, hlk, hrt, hR, hQ, hxt⟩ := hC
  intro ad H locs ls hW hAa hag hn hvl hvs hS hl
  exact lv_icmp_ne hx hb hdg ht (fun h => kt h ad H locs ls hW hAa hag hn hvl (vs_t (vs_t hvs)) hS hl) (fun h => kf h ad H locs ls hW hAa hag hn hvl (vs_t (vs_t hvs)) hS hl)
theorem J_goto {C : JC} {x : Bool} {cc : ByteArray} {nL : Nat} {rm : Room} {rt : Option FieldType} {own : String} {res : Res} {ce sl : Nat} {M : Mem} {pc : Nat} {lv : List (Nat × Value)} {st : List Value} {off : Int} {tgt : Nat} (hC : Ok C x cc nL rm rt own res) (hdg : decode cc pc = .ok (.goto off, 3)) (ht : (pc : Int) + off = (tgt : Int)) (kk : J C ce sl M tgt lv st) : J C ce sl M pc lv st := by
  obtain ⟨p, l, e, R, s, m, args, below, meth, c, H0, A, Q, nL0, G, ad0, n0⟩ := C
  obtain ⟨hx, hb, hml, hnl, hown, hts, hKK, hH0, hA, hlk, hrt, hR, hQ, hxt⟩ := hC
  intro ad H locs ls hW hAa hag hn hvl hvs hS hl
  exact lv_goto hx hb hdg ht (kk ad H locs ls hW hAa hag hn hvl hvs hS hl)
/-- fewer locals, in another order -/
theorem J_sub {C : JC} {ce sl : Nat} {M : Mem} {pc : Nat} {lv lv' : List (Nat × Value)} {st : List Value} (ks : List Nat) (h : lv_pick lv ks = lv') (kk : J C ce sl M pc lv' st) : J C ce sl M pc lv st := by
  obtain ⟨p, l, e, R, s, m, args, below, meth, c, H0, A, Q, nL0, G, ad0, n0⟩ := C
  intro ad H locs ls hW hAa hag hn hvl hvs hS hl
  refine kk ad H locs ls hW hAa hag hn (fun q hq => ?_) hvs hS (lv_sub hl ks ?_)
  · subst h
    obtain ⟨i, -, hi⟩ := List.mem_filterMap.mp hq
    exact hvl q (List.mem_of_getElem? hi)
  · subst h
    simp only [lv_pick, List.map_filterMap, List.getElem?_map]
theorem J_tableIn {C : JC} {x : Bool} {cc : ByteArray} {nL : Nat} {rm : Room} {rt : Option FieldType} {own : String} {res : Res} {ce sl : Nat} {M : Mem} {pc : Nat} {lv : List (Nat × Value)} {st : List Value} {dflt lo hi off : Int} {offs : Array Int} {len tgt : Nat} {a : Int32} (hC : Ok C x cc nL rm rt own res) (hdg : decode cc pc = .ok (.tableswitch dflt lo hi offs, len)) (h1 : ¬ a.toInt < lo) (h2 : ¬ hi < a.toInt) (ho : offs[(a.toInt - lo).toNat]? = some off) (ht : (pc : Int) + off = (tgt : Int)) (kk : J C ce sl M tgt lv st) : J C ce sl M pc lv (.int a :: st) := by
  obtain ⟨p, l, e, R, s, m, args, below, meth, c, H0, A, Q, nL0, G, ad0, n0⟩ := C
  obtain ⟨hx, hb, hml, hnl, hown, hts, hKK, hH0, hA, hlk, hrt, hR, hQ, hxt⟩ := hC
  intro ad H locs ls hW hAa hag hn hvl hvs hS hl
  exact lv_tableIn hx hb hdg h1 h2 ho ht (kk ad H locs ls hW hAa hag hn hvl (vs_t hvs) hS hl)
theorem J_tableOut {C : JC} {x : Bool} {cc : ByteArray} {nL : Nat} {rm : Room} {rt : Option FieldType} {own : String} {res : Res} {ce sl : Nat} {M : Mem} {pc : Nat} {lv : List (Nat × Value)} {st : List Value} {dflt lo hi : Int} {offs : Array Int} {len tgt : Nat} {a : Int32} (hC : Ok C x cc nL rm rt own res) (hdg : decode cc pc = .ok (.tableswitch dflt lo hi offs, len)) (h : a.toInt < lo ∨ hi < a.toInt) (ht : (pc : Int) + dflt = (tgt : Int)) (kk : J C ce sl M tgt lv st) : J C ce sl M pc lv (.int a :: st) := by
  obtain ⟨p, l, e, R, s, m, args, below, meth, c, H0, A, Q, nL0, G, ad0, n0⟩ := C
  obtain ⟨hx, hb, hml, hnl, hown, hts, hKK, hH0, hA, hlk, hrt, hR, hQ, hxt⟩ := hC
  intro ad H locs ls hW hAa hag hn hvl hvs hS hl
  exact lv_tableOut hx hb hdg h ht (kk ad H locs ls hW hAa hag hn hvl (vs_t hvs) hS hl)
theorem J_iret {C : JC} {x : Bool} {cc : ByteArray} {nL : Nat} {rm : Room} {own : String} {res : Res} {ce sl : Nat} {M : Mem} {pc : Nat} {lv : List (Nat × Value)} {v : Int32} (hC : Ok C x cc nL rm (some .int) own res) (hdg : decode cc pc = .ok (.ireturn, 1)) (h : (M, Sum.inr (some (Value.int v))) = res) (h1 : ce ≤ rm.cells) (h2 : sl ≤ rm.slots) : J C ce sl M pc lv [.int v] := by
  obtain ⟨p, l, e, R, s, m, args, below, meth, c, H0, A, Q, nL0, G, ad0, n0⟩ := C
  obtain ⟨hx, hb, hml, hnl, hown, hts, hKK, hH0, hA, hlk, hrt, hR, hQ, hxt⟩ := hC
  intro ad H locs ls hW hAa hag hn hvl hvs hS hl
  subst h
  refine W.widen h1 h2 ?_
  have key : ∀ t : State, t.heap = H → s.WarmedH t.vm → Qret G ad0 n0 A (M, Sum.inr (some (Value.int v))) args s (.returned (some (.int v))) t := fun t ht hWm => ⟨⟨ad, _, rfl, rfl, hag, hn, by rw [ht]; exact hW, hAa, fun w hw => by cases hw; exact Vok_int⟩, (hH0 ▸ hS).F ht⟩
  have k2 : W p l e R s m args below meth c H locs rm.cells rm.slots (MQ below (Qret G ad0 n0 A (M, Sum.inr (some (Value.int v)))) args s rm.cells rm.slots A) (F0 m pc ls [.int v]) := W.iret hx hb hrt key hS.2.2 hdg hlk
  subst hQ
  cases x with
  | false => exact k2
  | true => exact vx_ret k2
theorem J_lret {C : JC} {x : Bool} {cc : ByteArray} {nL : Nat} {rm : Room} {own : String} {res : Res} {ce sl : Nat} {M : Mem} {pc : Nat} {lv : List (Nat × Value)} {v : Int64} (hC : Ok C x cc nL rm (some .long) own res) (hdg : decode cc pc = .ok (.lreturn, 1)) (h : (M, Sum.inr (some (Value.long v))) = res) (h1 : ce ≤ rm.cells) (h2 : sl ≤ rm.slots) : J C ce sl M pc lv [.long v] := by
  obtain ⟨p, l, e, R, s, m, args, below, meth, c, H0, A, Q, nL0, G, ad0, n0⟩ := C
  obtain ⟨hx, hb, hml, hnl, hown, hts, hKK, hH0, hA, hlk, hrt, hR, hQ, hxt⟩ := hC
  intro ad H locs ls hW hAa hag hn hvl hvs hS hl
  subst h
  refine W.widen h1 h2 ?_
  have key : ∀ t : State, t.heap = H → s.WarmedH t.vm → Qret G ad0 n0 A (M, Sum.inr (some (Value.long v))) args s (.returned (some (.long v))) t := fun t ht hWm => ⟨⟨ad, _, rfl, rfl, hag, hn, by rw [ht]; exact hW, hAa, fun w hw => by cases hw; exact Vok_long⟩, (hH0 ▸ hS).F ht⟩
  have k2 : W p l e R s m args below meth c H locs rm.cells rm.slots (MQ below (Qret G ad0 n0 A (M, Sum.inr (some (Value.long v)))) args s rm.cells rm.slots A) (F0 m pc ls [.long v]) := W.lret hx hb hrt key hS.2.2 hdg hlk
  subst hQ
  cases x with
  | false => exact k2
  | true => exact vx_ret k2
theorem J_dret {C : JC} {x : Bool} {cc : ByteArray} {nL : Nat} {rm : Room} {own : String} {res : Res} {ce sl : Nat} {M : Mem} {pc : Nat} {lv : List (Nat × Value)} {v : UInt64} (hC : Ok C x cc nL rm (some .double) own res) (hdg : decode cc pc = .ok (.dreturn, 1)) (h : (M, Sum.inr (some (Value.double v))) = res) (h1 : ce ≤ rm.cells) (h2 : sl ≤ rm.slots) : J C ce sl M pc lv [.double v] := by
  obtain ⟨p, l, e, R, s, m, args, below, meth, c, H0, A, Q, nL0, G, ad0, n0⟩ := C
  obtain ⟨hx, hb, hml, hnl, hown, hts, hKK, hH0, hA, hlk, hrt, hR, hQ, hxt⟩ := hC
  intro ad H locs ls hW hAa hag hn hvl hvs hS hl
  subst h
  refine W.widen h1 h2 ?_
  have key : ∀ t : State, t.heap = H → s.WarmedH t.vm → Qret G ad0 n0 A (M, Sum.inr (some (Value.double v))) args s (.returned (some (.double v))) t := fun t ht hWm => ⟨⟨ad, _, rfl, rfl, hag, hn, by rw [ht]; exact hW, hAa, fun w hw => by cases hw; exact Vok_double⟩, (hH0 ▸ hS).F ht⟩
  have k2 : W p l e R s m args below meth c H locs rm.cells rm.slots (MQ below (Qret G ad0 n0 A (M, Sum.inr (some (Value.double v)))) args s rm.cells rm.slots A) (F0 m pc ls [.double v]) := W.dret hx hb hrt key hS.2.2 hdg hlk
  subst hQ
  cases x with
  | false => exact k2
  | true => exact vx_ret k2
theorem J_zret {C : JC} {x : Bool} {cc : ByteArray} {nL : Nat} {rm : Room} {own : String} {res : Res} {ce sl : Nat} {M : Mem} {pc : Nat} {lv : List (Nat × Value)} {v : Int32} (hC : Ok C x cc nL rm (some .boolean) own res) (hdg : decode cc pc = .ok (.ireturn, 1)) (hz : narrow .boolean (.int v) = .int v) (h : (M, Sum.inr (some (Value.int v))) = res) (h1 : ce ≤ rm.cells) (h2 : sl ≤ rm.slots) : J C ce sl M pc lv [.int v] := by
  obtain ⟨p, l, e, R, s, m, args, below, meth, c, H0, A, Q, nL0, G, ad0, n0⟩ := C
  obtain ⟨hx, hb, hml, hnl, hown, hts, hKK, hH0, hA, hlk, hrt, hR, hQ, hxt⟩ := hC
  intro ad H locs ls hW hAa hag hn hvl hvs hS hl
  subst h
  refine W.widen h1 h2 ?_
  have key : ∀ t : State, t.heap = H → s.WarmedH t.vm → Qret G ad0 n0 A (M, Sum.inr (some (Value.int v))) args s (.returned (some (.int v))) t := fun t ht hWm => ⟨⟨ad, _, rfl, rfl, hag, hn, by rw [ht]; exact hW, hAa, fun w hw => by cases hw; exact Vok_int⟩, (hH0 ▸ hS).F ht⟩
  have k2 : W p l e R s m args below meth c H locs rm.cells rm.slots (MQ below (Qret G ad0 n0 A (M, Sum.inr (some (Value.int v)))) args s rm.cells rm.slots A) (F0 m pc ls [.int v]) := W.zret hx hb hrt hz key hS.2.2 hdg hlk
  subst hQ
  cases x with
  | false => exact k2
  | true => exact vx_ret k2
theorem J_vret {C : JC} {x : Bool} {cc : ByteArray} {nL : Nat} {rm : Room} {own : String} {res : Res} {ce sl : Nat} {M : Mem} {pc : Nat} {lv : List (Nat × Value)} (hC : Ok C x cc nL rm none own res) (hdg : decode cc pc = .ok (.return_, 1)) (h : (M, Sum.inr none) = res) (h1 : ce ≤ rm.cells) (h2 : sl ≤ rm.slots) : J C ce sl M pc lv [] := by
  obtain ⟨p, l, e, R, s, m, args, below, meth, c, H0, A, Q, nL0, G, ad0, n0⟩ := C
  obtain ⟨hx, hb, hml, hnl, hown, hts, hKK, hH0, hA, hlk, hrt, hR, hQ, hxt⟩ := hC
  intro ad H locs ls hW hAa hag hn hvl hvs hS hl
  subst h
  refine W.widen h1 h2 ?_
  have key : ∀ t : State, t.heap = H → s.WarmedH t.vm → Qret G ad0 n0 A (M, Sum.inr none) args s (.returned none) t := fun t ht hWm => ⟨⟨ad, none, rfl, rfl, hag, hn, by rw [ht]; exact hW, hAa, fun w hw => by cases hw⟩, (hH0 ▸ hS).F ht⟩
  have k2 : W p l e R s m args below meth c H locs rm.cells rm.slots (MQ below (Qret G ad0 n0 A (M, Sum.inr none)) args s rm.cells rm.slots A) (F0 m pc ls []) := W.vret hx hb hrt key hS.2.2 hdg hlk
  subst hQ
  cases x with
  | false => exact k2
  | true => exact vx_ret k2
