theorem lv_args_phys (ad : Nat → Nat) (vs : List Value) : ∀ i : Nat, lv_args i (vs.map (phys ad)) = (lv_args i vs).map fun q => (q.1, phys ad q.2) := by
  induction vs with
  | nil => intro i; rfl
  | cons v vs ih => intro i; simp only [List.map_cons, lv_args, cat_phys, ih]
theorem lg_sl_len (ad : Nat → Nat) (vs : List Value) : (lg_sl (vs.map (phys ad))).length = (lg_sl vs).length := by
  induction vs with
  | nil => rfl
  | cons v vs ih =>
    simp only [List.map_cons, lg_sl, List.flatMap_cons, List.length_append, cat_phys] at ih ⊢
    rw [ih]
    split <;> rfl
theorem vl_args {n : Nat} (vs : List Value) (h : ∀ v ∈ vs, Vok n v) : ∀ i : Nat, ∀ q ∈ lv_args i vs, Vok n q.2 := by
  induction vs with
  | nil => intro i q hq; cases hq
  | cons v vs ih =>
    intro i q hq
    rcases List.mem_cons.mp hq with e | e
    · rw [e]; exact vs_h h
    · exact ih (vs_t h) _ q e
theorem Con.enter {l : Launch} (hst : l.stackTraces = false) {y : MethodName} {cc : ByteArray} {maxL : Nat} {ret : Option FieldType} {rm : Room} {As : List Value} {M : Mem} {res : Res} {own : String} (hy : plainName y.cls = true) (ho : y.cls = own) (hlen : (lg_sl As).length ≤ maxL) {lv0 : List (Nat × Value)} (hlv : lv_args 0 As = lv0)
    (k : ∀ C : JC, Ok C false cc maxL rm ret own res → (y.name = "<init>" → isInit C) → J C 0 0 M 0 lv0 []) : Con false l y cc maxL ret rm As M res := by
  intro G ad sz
  rw [if_neg (by decide)]
  refine Met.ofW (cc := cc) (maxL := maxL) (ret := ret) hy rfl ?_
  intro p e s m args below meth c s₁ B hml hv
  obtain ⟨rfl, hsz, hW, hKK, hVok⟩ := hv
  subst hsz
  have hts := atoms_spec (ws := .code y cc maxL ret :: BIG) B.pre
  have hown : s.vm.findClass y.cls = some m.cls := findClass_of_methodNamed B.named
  have hnm : meth.name = y.name := (name_of_methodNamed B.named B.method).1
  have hl := lv_entry (As.map (phys ad)) (n := maxL) (by rw [lg_sl_len]; exact hlen)
  rw [lg_entry_eq]
  generalize (lg_sl (As.map (phys ad)) ++ List.replicate (maxL - (lg_sl (As.map (phys ad))).length) Slot.unset).toArray = ls at hl ⊢
  rw [lv_args_phys, hlv] at hl
  exact k (p, l, e, (headSpec (.code y cc maxL ret :: BIG) rm).room, s, m, (As.map (phys ad)).toArray, below, meth, c, s.heap, Aset ad M.1 s.heap.size, MQ below (Qret G ad M.1 (Aset ad M.1 s.heap.size) res) (As.map (phys ad)).toArray s rm.cells rm.slots (Aset ad M.1 s.heap.size), maxL, G, ad, M.1)
    ⟨B.exec, B.bytes, hml, rfl, ho ▸ hown, fun w hw => hts w (List.mem_cons_of_mem _ hw), hKK, rfl, fun q h => Or.inr h, B.notSynchronized, B.returns, rfl, rfl, (fun h => by cases h), hst⟩ (fun h => hnm.trans h)
    ad s.heap [] ls hW (fun i hi => Or.inl ⟨i, hi, rfl⟩) (fun _ _ => rfl) (Nat.le_refl _) (hlv ▸ vl_args As hVok 0) (fun v hv => by cases hv) va_S.rf hl
theorem Con.enterX {l : Launch} (hst : l.stackTraces = false) {y : MethodName} {cc : ByteArray} {maxL : Nat} {ret : Option FieldType} {rm : Room} {As : List Value} {M : Mem} {res : Res} {own : String} (hy : plainName y.cls = true) (ho : y.cls = own) (hlen : (lg_sl As).length ≤ maxL) {lv0 : List (Nat × Value)} (hlv : lv_args 0 As = lv0)
    (k : ∀ C : JC, Ok C true cc maxL rm ret own res → J C 0 0 M 0 lv0 []) : Con true l y cc maxL ret rm As M res := by
  intro G ad sz
  rw [if_pos rfl]
  refine vx_ofW (cc := cc) (maxL := maxL) (ret := ret) hy rfl ?_
  intro p e s m args below meth c s₁ B hml hex hv
  obtain ⟨rfl, hsz, hW, hKK, hVok⟩ := hv
  subst hsz
  have hts := atoms_spec (ws := .code y cc maxL ret :: BIG) B.pre
  have hown : s.vm.findClass y.cls = some m.cls := findClass_of_methodNamed B.named
  have hl := lv_entry (As.map (phys ad)) (n := maxL) (by rw [lg_sl_len]; exact hlen)
  rw [lg_entry_eq]
  generalize (lg_sl (As.map (phys ad)) ++ List.replicate (maxL - (lg_sl (As.map (phys ad))).length) Slot.unset).toArray = ls at hl ⊢
  rw [lv_args_phys, hlv] at hl
  exact k (p, l, e, (headSpec (.code y cc maxL ret :: BIG) rm).room, s, m, (As.map (phys ad)).toArray, below, meth, c, s.heap, Aset ad M.1 s.heap.size, vx_MQ below (Qret G ad M.1 (Aset ad M.1 s.heap.size) res) (Qthr G ad M.1 (Aset ad M.1 s.heap.size) res) (As.map (phys ad)).toArray s rm.cells rm.slots (Aset ad M.1 s.heap.size), maxL, G, ad, M.1)
    ⟨B.exec, B.bytes, hml, rfl, ho ▸ hown, fun w hw => hts w (List.mem_cons_of_mem _ hw), hKK, rfl, fun q h => Or.inr h, B.notSynchronized, B.returns, rfl, rfl, (fun _ => hex), hst⟩
    ad s.heap [] ls hW (fun i hi => Or.inl ⟨i, hi, rfl⟩) (fun _ _ => rfl) (Nat.le_refl _) (hlv ▸ vl_args As hVok 0) (fun v hv => by cases hv) va_S.rf hl
theorem w_oi1 : Cond.instanceMethod objectInit ∈ BIG := by decide +kernel
theorem w_oi2 : Cond.code objectInit ⟨#[0xb1]⟩ 1 none ∈ BIG := by decide +kernel
/-! ===== calls ===== -/
section WCALL
variable {p : Program} {l : Launch} {e : Env} {R : Room} {s : State} {m : MethodId} {args : Array Value} {below : List Frame} {meth : Method} {c : Code} {H : Heap} {locs : List Loc} {cells slots : Nat} {Q : State → Prop} {pc : Nat} {ls : Array Slot}
theorem Aset_sub {A : Nat → Prop} {H0 H : Heap} {ad : Nat → Nat} {n : Nat} (hAa : ∀ i, i < n → A (ad i)) (hA : ∀ q, H0.size ≤ q → A q) (hz : H0.size ≤ H.size) : ∀ q, Aset ad n H.size q → A q := fun q h => h.elim (fun ⟨i, hi, e⟩ => e ▸ hAa i hi) (fun h => hA q (Nat.le_trans hz h))
theorem W_call {G : Geo} {ad : Nat → Nat} {M M' : Mem} {rv : Option Value} {A : Nat → Prop} {H0 : Heap} {mc ms : Nat} {a : Array Value} {st0 rest : List Value}
    (hr : va_Run p l e R s m args below meth c H locs cells slots mc ms (F0 m pc ls st0) rest (Qret G ad M.1 (Aset ad M.1 H.size) (M', .inr rv) a) (Aset ad M.1 H.size))
    (hAa : ∀ i, i < M.1 → A (ad i)) (hA : ∀ q, H0.size ≤ q → A q) (hS : va_S A H0 H locs)
    (kk : ∀ (ad' : Nat → Nat) (H1 : Heap) (locs1 : List Loc), (∀ i, i < M.1 → ad' i = ad i) → M.1 ≤ M'.1 → Wd G ad' M' H1 → (∀ i, i < M'.1 → A (ad' i)) → (∀ v, rv = some v → Vok M'.1 v) → va_S A H0 H1 locs1 → W p l e R s m args below meth c H1 locs1 (cells + mc) (slots + ms) Q (F0 m (pc + 3) ls ((rv.map (phys ad')).toList ++ rest))) : W p l e R s m args below meth c H locs cells slots Q (F0 m pc ls st0) := by
  intro T hT X
  obtain ⟨v, st₀, t, T', L, h0, X', hL, e1, e2, ⟨⟨ad', rv', q1, q2, q3, q4, q5, q6, q7⟩, hz, hk⟩, stp⟩ := hr T hT X
  cases q1
  cases q2
  rw [h0] at hz hk
  have hsub := Aset_sub hAa hA hS.1
  obtain ⟨t2, a1, b1⟩ := kk ad' T'.heap (locs ++ L) q3 q4 (by rw [e1]; exact q5) (fun i hi => hsub _ (q6 i hi)) q7
    ⟨Nat.le_trans hS.1 (by rw [e1]; exact hz), fun q h1 h2 => by rw [e1, hk q (Nat.lt_of_lt_of_le h1 hS.1) (fun z => h2 (hsub q z))]; exact hS.2.1 q h1 h2, fun q hq => by
      rcases List.mem_append.mp hq with h | h
      · exact hS.2.2 q h
      · exact hsub _ (hL q h)⟩ T' rfl X'
  exact ⟨t2, stp t2 a1, b1⟩
theorem run_of_x {Qa : State → Outcome → State → Prop} {G : Geo} {ad0 : Nat → Nat} {n0 : Nat} {A : Nat → Prop} {M' : Mem} {rv : Option Value} {free : Nat → Prop} {g : JFrame} {rest : List Value} {mc ms : Nat} (h : vx_Run p l e R s m args below meth c H locs cells slots mc ms g rest Qa (Qthr G ad0 n0 A (M', .inr rv)) free) : va_Run p l e R s m args below meth c H locs cells slots mc ms g rest Qa free := by
  intro T hT X
  rcases h T hT X with h1 | ⟨q, st₀, t, T', L, E, ce, h0, X', hL, e1, e2, hx, -⟩
  · exact h1
  · obtain ⟨⟨ad, h1, -⟩, -⟩ := hx
    cases h1
end WCALL
/-- how a state keeps its contract's precondition, for a callee -/
theorem PreC_of {G : Geo} {ad : Nat → Nat} {M : Mem} {A : Nat → Prop} {s : State} {H : Heap} {locs : List Loc} {As : List Value} (hW : Wd G ad M H) (hAa : ∀ i, i < M.1 → A (ad i)) (hA : ∀ q, s.heap.size ≤ q → A q) (hKK : KK G A s s.heap) (hS : va_S A s.heap H locs) (hv : ∀ v ∈ As, Vok M.1 v) : ∀ U : State, U.heap = H → s.WarmedH U.vm → PreC G ad H.size As M (As.map (phys ad)).toArray U := fun U hU hWm =>
  ⟨rfl, by rw [hU], by rw [hU]; exact hW, by rw [hU]; exact KK.warm hWm ((hKK.kept (H1 := H) (fun q h1 h2 => hS.2.1 q h1 h2)).narrow (Aset_sub hAa hA hS.1)), hv⟩
theorem PreC_blind {G : Geo} {ad : Nat → Nat} {sz : Nat} {As : List Value} {M : Mem} : FrameBlind (PreC G ad sz As M) := fun a U g mk q => by
  obtain ⟨q0, q1, q2, q3, q4⟩ := q
  exact ⟨q0, q1, q2, KK.warm (U := U.calling g mk a) (State.WarmedH.refl U) q3, q4⟩
/-- a method's words, all in the great list -/
def VMok (y : MethodName) (C : String) (cc : ByteArray) (maxL : Nat) (ret : Option FieldType) (n : Nat) : Prop := Cond.code y cc maxL ret ∈ BIG ∧ Cond.instanceMethod y ∈ BIG ∧ Cond.selects C y y ∈ BIG ∧ Cond.initialized C ∈ BIG ∧ (y.cls = C ∧ y.cls ≠ "java/lang/invoke/MethodHandle" ∧ y.cls ≠ "java/lang/invoke/VarHandle" ∧ (parseMethodDescriptor y.desc).map (fun d => d.parameters.length) = some n)
def SMok (y : MethodName) (cc : ByteArray) (maxL : Nat) (ret : Option FieldType) (n : Nat) : Prop := Cond.code y cc maxL ret ∈ BIG ∧ Cond.static y ∈ BIG ∧ Cond.initialized y.cls ∈ BIG ∧ (y.cls ≠ "java/lang/invoke/MethodHandle" ∧ y.cls ≠ "java/lang/invoke/VarHandle" ∧ (parseMethodDescriptor y.desc).map (fun d => d.parameters.length) = some n)
def IMok (y : MethodName) (cc : ByteArray) (maxL : Nat) (n : Nat) : Prop := Cond.code y cc maxL none ∈ BIG ∧ Cond.instanceMethod y ∈ BIG ∧ Cond.initialized y.cls ∈ BIG ∧ y.name = "<init>" ∧ (y.cls ≠ "java/lang/invoke/MethodHandle" ∧ y.cls ≠ "java/lang/invoke/VarHandle" ∧ (parseMethodDescriptor y.desc).map (fun d => d.parameters.length) = some n)
def ck (ci : Nat) (M : Mem) (o : Option Nat) : Option Unit := o.bind fun i => if i < M.1 ∧ kd i = ci then some () else none
theorem ck_s {ci : Nat} {M : Mem} {o : Option Nat} {u : Unit} (h : ck ci M o = some u) : ∃ i, o = some i ∧ i < M.1 ∧ kd i = ci := by
  obtain ⟨i, rfl, h2⟩ := bnd h
  split at h2
  case isTrue hi => exact ⟨i, rfl, hi⟩
  case isFalse => cases h2
theorem cat_map (ad : Nat → Nat) (st : List Value) : ((st.map (phys ad)).map fun v => v.category).sum = (st.map fun v => v.category).sum := by
  rw [List.map_map, show ((fun v : Value => v.category) ∘ phys ad) = (fun v => v.category) from funext (cat_phys ad)]
theorem vs_arr {n : Nat} {As st : List Value} (h : ∀ v ∈ As.reverse ++ st, Vok n v) : (∀ v ∈ As, Vok n v) ∧ ∀ v ∈ st, Vok n v := ⟨fun v hv => h v (List.mem_append_left _ (List.mem_reverse.mpr hv)), fun v hv => h v (List.mem_append_right _ hv)⟩
theorem vs_ret {n : Nat} {rv : Option Value} {st : List Value} (h : ∀ v, rv = some v → Vok n v) (hs : ∀ v ∈ st, Vok n v) : ∀ v ∈ rv.toList ++ st, Vok n v := fun v hv => by
  rcases List.mem_append.mp hv with h1 | h1
  · exact h v (Option.mem_toList.mp h1)
  · exact hs v h1
theorem Vok_mono {n m : Nat} (h : n ≤ m) {v : Value} (hv : Vok n v) : Vok m v := fun i e => Nat.lt_of_lt_of_le (hv i e) h
theorem phys_ag {n : Nat} {ad ad' : Nat → Nat} (h : ∀ i, i < n → ad' i = ad i) {v : Value} (hv : Vok n v) : phys ad' v = phys ad v := by
  cases v <;> try rfl
  case retAddr n =>
    cases n with
    | zero => rfl
    | succ i => exact congrArg Value.ref (h i (hv i rfl))
theorem map_ag {n : Nat} {ad ad' : Nat → Nat} (h : ∀ i, i < n → ad' i = ad i) {st : List Value} (hs : ∀ v ∈ st, Vok n v) : st.map (phys ad') = st.map (phys ad) := List.map_congr_left fun v hv => phys_ag h (hs v hv)
theorem mapl_ag {n : Nat} {ad ad' : Nat → Nat} (h : ∀ i, i < n → ad' i = ad i) {lv : List (Nat × Value)} (hs : ∀ q ∈ lv, Vok n q.2) : (lv.map fun q => (q.1, phys ad' q.2)) = lv.map fun q => (q.1, phys ad q.2) := List.map_congr_left fun q hq => by rw [phys_ag h (hs q hq)]
theorem ret_map (ad : Nat → Nat) (rv : Option Value) (st : List Value) : (rv.map (phys ad)).toList ++ st.map (phys ad) = (rv.toList ++ st).map (phys ad) := by cases rv <;> rfl
theorem rcv_of9 {G : Geo} {ad : Nat → Nat} {M : Mem} {H : Heap} {A : Nat → Prop} {s : State} {Hk : Heap} (hW : Wd G ad M H) (hKK : KK G A s Hk) {ci i : Nat} {q : vw_C} (hi : i < M.1) (hk : kd i = ci) (hc : vwCl[kx ci]? = some q) : ∃ cell : Cell, H[ad i]? = some cell ∧ cell.vm.isStatics = false ∧ s.vm.findClass q.1 = some cell.cls := by
  have he := pool_at (G := G) (ad := ad) hi
  have h4 : kx ci < 4 := (List.getElem?_eq_some_iff.mp hc).1
  rcases kx_4 h4 with rfl | rfl | rfl | rfl
  · rw [ent_0 hk] at he; exact va_recv hKK.1.1 hW.1 hc he
  · rw [ent_1 hk] at he; exact va_recv hKK.1.1 hW.1 hc he
  · rw [ent_2 hk] at he; exact va_recv hKK.1.1 hW.1 hc he
  · rw [ent_11 hk] at he; exact va_recv hKK.1.1 hW.1 hc he
theorem J_callV {C : JC} {x : Bool} {cc : ByteArray} {nL : Nat} {rm : Room} {rt : Option FieldType} {own : String} {res : Res} {ce sl : Nat} {M : Mem} {pc : Nat} {lv : List (Nat × Value)} {st : List Value} {y : MethodName} {cc2 : ByteArray} {maxL2 index : Nat} {ret2 : Option FieldType} {rm2 : Room} {As : List Value} {M' : Mem} {rv : Option Value} {stk : List Value} {n : Nat} {Cn : String} {o : Option Nat} {ci : Nat} {qc : vw_C} (hC : Ok C x cc nL rm rt own res) (hcon : ∀ l, l.stackTraces = false → Con false l y cc2 maxL2 ret2 rm2 (rf o :: As) M (M', .inr rv)) (hm : VMok y Cn cc2 maxL2 ret2 n) (hw : Cond.methodLink own index y ∈ BIG) (ho : ∃ i, o = some i ∧ i < M.1 ∧ kd i = ci) (hq : vwCl[kx ci]? = some qc ∧ qc.1 = Cn) (hn9 : As.length = n) (hf : rm2.frames + 1 ≤ rm.frames ∧ 8 + (maxL2 + 11) + rm2.locals ≤ rm.locals) (hcat : (st.map fun v => v.category).sum ≤ 8) (hce : ce + rm2.cells ≤ rm.cells ∧ sl + rm2.slots ≤ rm.slots)
    (hdg : decode cc pc = .ok (.invokevirtual index, 3)) (hstk : stk = As.reverse ++ rf o :: st) (kk : J C (ce + rm2.cells) (sl + rm2.slots) M' (pc + 3) lv (rv.toList ++ st)) : J C ce sl M pc lv stk := by
  obtain ⟨i, rfl, hi1, hi2⟩ := ho
  subst hstk
  obtain ⟨m1, m2, m3, m4, m5⟩ := hm
  obtain ⟨p, l, e, R, s, m, args, below, meth, c, H0, A, Q, nL0, G, ad0, n0⟩ := C
  obtain ⟨hx, hb, hml, hnl, hown, hts, hKK, hH0, hA, hlk, hrt, hR, hQ, hxt⟩ := hC
  intro ad H locs ls hW hAa hag hn hvl hvs hS hl
  subst hR
  subst hnl
  have hvs2 := vs_arr hvs
  refine W_call (M := M) (M' := M') (rv := rv) (va_runV (cc := cc) (nL := nL0) (Ts := BIG) (own := own) (As := As.map (phys ad)) (rest := st.map (phys ad)) (C := Cn) (b := ad i) ⟨hx, hb, hml, hown, hts⟩ (by have h9 := hcon l hxt.2 G ad H.size; rw [if_neg (by decide)] at h9; exact h9) (cwV n hts (big_inB (fun w hw9 => by
      rcases List.mem_append.mp hw9 with h | h
      · simp only [List.mem_cons, List.not_mem_nil, or_false] at h
        rcases h with h | h | h | h <;> subst h
        · exact hw
        · exact m2
        · exact m3
        · exact m4
      · exact big_cons m1 w h)) rfl rfl rfl m5 hf) ⟨PreC_blind, hq.2 ▸ rcv_of9 hW hKK hi1 hi2 hq.1, PreC_of hW hAa hA hKK (hH0 ▸ hS) (vs_c (vs_h hvs2.2) hvs2.1)⟩ rfl (by rw [List.length_map]; exact hn9) hl.1 (by show List.map (phys ad) _ = _; rw [List.map_append, List.map_reverse]; rfl) (by show 0 + _ ≤ 8; rw [Nat.zero_add, cat_map]; exact hcat) hdg hce) hAa (by rw [hH0]; exact hA) hS (fun ad' H1 locs1 g1 g2 g3 g4 g5 g6 => ?_)
  have k2 := kk ad' H1 locs1 ls g3 g4 (fun i hi => (g1 i (Nat.lt_of_lt_of_le hi hn)).trans (hag i hi)) (Nat.le_trans hn g2) (fun q hq => Vok_mono g2 (hvl q hq)) (vs_ret g5 (fun v hv => Vok_mono g2 ((vs_t hvs2.2) v hv))) g6 (by rw [mapl_ag g1 hvl]; exact hl)
  rw [← ret_map, map_ag g1 (vs_t hvs2.2)] at k2
  exact k2
theorem J_callS {C : JC} {x : Bool} {cc : ByteArray} {nL : Nat} {rm : Room} {rt : Option FieldType} {own : String} {res : Res} {ce sl : Nat} {M : Mem} {pc : Nat} {lv : List (Nat × Value)} {st : List Value} {y : MethodName} {cc2 : ByteArray} {maxL2 index : Nat} {ret2 : Option FieldType} {rm2 : Room} {As : List Value} {M' : Mem} {rv : Option Value} {stk : List Value} {n : Nat} (hC : Ok C x cc nL rm rt own res) (hcon : ∀ l, l.stackTraces = false → Con false l y cc2 maxL2 ret2 rm2 As M (M', .inr rv)) (hm : SMok y cc2 maxL2 ret2 n) (hw : Cond.methodLink own index y ∈ BIG) (hn9 : As.length = n) (hf : rm2.frames + 1 ≤ rm.frames ∧ 8 + (maxL2 + 11) + rm2.locals ≤ rm.locals) (hcat : (st.map fun v => v.category).sum ≤ 8) (hce : ce + rm2.cells ≤ rm.cells ∧ sl + rm2.slots ≤ rm.slots)
    (hdg : decode cc pc = .ok (.invokestatic index, 3)) (hstk : stk = As.reverse ++ st) (kk : J C (ce + rm2.cells) (sl + rm2.slots) M' (pc + 3) lv (rv.toList ++ st)) : J C ce sl M pc lv stk := by
  subst hstk
  obtain ⟨m1, m2, m3, m4⟩ := hm
  obtain ⟨p, l, e, R, s, m, args, below, meth, c, H0, A, Q, nL0, G, ad0, n0⟩ := C
  obtain ⟨hx, hb, hml, hnl, hown, hts, hKK, hH0, hA, hlk, hrt, hR, hQ, hxt⟩ := hC
  intro ad H locs ls hW hAa hag hn hvl hvs hS hl
  subst hR
  subst hnl
  have hvs2 := vs_arr hvs
  refine W_call (M := M) (M' := M') (rv := rv) (va_runS (cc := cc) (nL := nL0) (Ts := BIG) (own := own) (As := As.map (phys ad)) (rest := st.map (phys ad)) ⟨hx, hb, hml, hown, hts⟩ (by have h9 := hcon l hxt.2 G ad H.size; rw [if_neg (by decide)] at h9; exact h9) (va_cwS n hts (big_inB (fun w hw9 => by
      rcases List.mem_append.mp hw9 with h | h
      · simp only [List.mem_cons, List.not_mem_nil, or_false] at h
        rcases h with h | h | h <;> subst h
        · exact hw
        · exact m2
        · exact m3
      · exact big_cons m1 w h)) rfl rfl rfl m4 hf) ⟨PreC_blind, PreC_of hW hAa hA hKK (hH0 ▸ hS) hvs2.1⟩ rfl (by rw [List.length_map]; exact hn9) hl.1 (by show List.map (phys ad) _ = _; rw [List.map_append, List.map_reverse]) (by show 0 + _ ≤ 8; rw [Nat.zero_add, cat_map]; exact hcat) hdg hce) hAa (by rw [hH0]; exact hA) hS (fun ad' H1 locs1 g1 g2 g3 g4 g5 g6 => ?_)
  have k2 := kk ad' H1 locs1 ls g3 g4 (fun i hi => (g1 i (Nat.lt_of_lt_of_le hi hn)).trans (hag i hi)) (Nat.le_trans hn g2) (fun q hq => Vok_mono g2 (hvl q hq)) (vs_ret g5 (fun v hv => Vok_mono g2 (hvs2.2 v hv))) g6 (by rw [mapl_ag g1 hvl]; exact hl)
  rw [← ret_map, map_ag g1 hvs2.2] at k2
  exact k2
theorem J_callSN {C : JC} {x : Bool} {cc : ByteArray} {nL : Nat} {rm : Room} {rt : Option FieldType} {own : String} {res : Res} {ce sl : Nat} {M : Mem} {pc : Nat} {lv : List (Nat × Value)} {st : List Value} {y : MethodName} {cc2 : ByteArray} {maxL2 index : Nat} {ret2 : Option FieldType} {rm2 : Room} {As : List Value} {M' : Mem} {rv : Option Value} {stk : List Value} {n : Nat} {host : String} (hC : Ok C x cc nL rm rt own res) (hcon : ∀ l, l.stackTraces = false → Con false l y cc2 maxL2 ret2 rm2 As M (M', .inr rv)) (hm : SMok y cc2 maxL2 ret2 n) (hw : ∀ U, nestB U → va_Nw (.methodLinkNest own index y host) U) (hn9 : As.length = n) (hf : rm2.frames + 1 ≤ rm.frames ∧ 8 + (maxL2 + 11) + rm2.locals ≤ rm.locals) (hcat : (st.map fun v => v.category).sum ≤ 8) (hce : ce + rm2.cells ≤ rm.cells ∧ sl + rm2.slots ≤ rm.slots)
    (hdg : decode cc pc = .ok (.invokestatic index, 3)) (hstk : stk = As.reverse ++ st) (kk : J C (ce + rm2.cells) (sl + rm2.slots) M' (pc + 3) lv (rv.toList ++ st)) : J C ce sl M pc lv stk := by
  subst hstk
  obtain ⟨m1, m2, m3, m4⟩ := hm
  obtain ⟨p, l, e, R, s, m, args, below, meth, c, H0, A, Q, nL0, G, ad0, n0⟩ := C
  obtain ⟨hx, hb, hml, hnl, hown, hts, hKK, hH0, hA, hlk, hrt, hR, hQ, hxt⟩ := hC
  intro ad H locs ls hW hAa hag hn hvl hvs hS hl
  subst hR
  subst hnl
  have hvs2 := vs_arr hvs
  refine W_call (M := M) (M' := M') (rv := rv) (va_runSN (host := host) (cc := cc) (nL := nL0) (Ts := BIG) (own := own) (As := As.map (phys ad)) (rest := st.map (phys ad)) ⟨hx, hb, hml, hown, hts⟩ (by have h9 := hcon l hxt.2 G ad H.size; rw [if_neg (by decide)] at h9; exact h9) ⟨va_cnB n hts (big_inB (big_cons m1)) rfl rfl rfl (hw s hKK.1.2.1) (hts _ m3) m4 hf, hts _ m2, trivial⟩ ⟨PreC_blind, PreC_of hW hAa hA hKK (hH0 ▸ hS) hvs2.1⟩ rfl (by rw [List.length_map]; exact hn9) hl.1 (by show List.map (phys ad) _ = _; rw [List.map_append, List.map_reverse]) (by show 0 + _ ≤ 8; rw [Nat.zero_add, cat_map]; exact hcat) hdg hce) hAa (by rw [hH0]; exact hA) hS (fun ad' H1 locs1 g1 g2 g3 g4 g5 g6 => ?_)
  have k2 := kk ad' H1 locs1 ls g3 g4 (fun i hi => (g1 i (Nat.lt_of_lt_of_le hi hn)).trans (hag i hi)) (Nat.le_trans hn g2) (fun q hq => Vok_mono g2 (hvl q hq)) (vs_ret g5 (fun v hv => Vok_mono g2 (hvs2.2 v hv))) g6 (by rw [mapl_ag g1 hvl]; exact hl)
  rw [← ret_map, map_ag g1 hvs2.2] at k2
  exact k2
theorem J_callI {C : JC} {x : Bool} {cc : ByteArray} {nL : Nat} {rm : Room} {rt : Option FieldType} {own : String} {res : Res} {ce sl : Nat} {M : Mem} {pc : Nat} {lv : List (Nat × Value)} {st : List Value} {y : MethodName} {cc2 : ByteArray} {maxL2 index : Nat} {rm2 : Room} {As : List Value} {M' : Mem} {rv : Option Value} {stk : List Value} {n : Nat} {o : Option Nat} (hC : Ok C x cc nL rm rt own res) (hcon : ∀ l, l.stackTraces = false → Con false l y cc2 maxL2 none rm2 (rf o :: As) M (M', .inr rv)) (hm : IMok y cc2 maxL2 n) (hw : Cond.methodLink own index y ∈ BIG) (ho : ∃ i, o = some i) (hn9 : As.length = n) (hf : rm2.frames + 1 ≤ rm.frames ∧ 8 + (maxL2 + 11) + rm2.locals ≤ rm.locals) (hcat : (st.map fun v => v.category).sum ≤ 8) (hce : ce + rm2.cells ≤ rm.cells ∧ sl + rm2.slots ≤ rm.slots)
    (hdg : decode cc pc = .ok (.invokespecial index, 3)) (hstk : stk = As.reverse ++ rf o :: st) (kk : J C (ce + rm2.cells) (sl + rm2.slots) M' (pc + 3) lv (rv.toList ++ st)) : J C ce sl M pc lv stk := by
  obtain ⟨i, rfl⟩ := ho
  subst hstk
  obtain ⟨m1, m2, m3, m4, m5⟩ := hm
  obtain ⟨p, l, e, R, s, m, args, below, meth, c, H0, A, Q, nL0, G, ad0, n0⟩ := C
  obtain ⟨hx, hb, hml, hnl, hown, hts, hKK, hH0, hA, hlk, hrt, hR, hQ, hxt⟩ := hC
  intro ad H locs ls hW hAa hag hn hvl hvs hS hl
  subst hR
  subst hnl
  have hvs2 := vs_arr hvs
  refine W_call (M := M) (M' := M') (rv := rv) (va_runI (cc := cc) (nL := nL0) (Ts := BIG) (own := own) (As := As.map (phys ad)) (rest := st.map (phys ad)) (b := ad i) ⟨hx, hb, hml, hown, hts⟩ (by have h9 := hcon l hxt.2 G ad H.size; rw [if_neg (by decide)] at h9; exact h9) (cwI n hts (big_inB (big_cons m1)) rfl rfl rfl (hts _ m3) (hts _ hw) (hts _ m2) m4 m5 hf) ⟨PreC_blind, PreC_of hW hAa hA hKK (hH0 ▸ hS) (vs_c (vs_h hvs2.2) hvs2.1)⟩ rfl (by rw [List.length_map]; exact hn9) hl.1 (by show List.map (phys ad) _ = _; rw [List.map_append, List.map_reverse]; rfl) (by show 0 + _ ≤ 8; rw [Nat.zero_add, cat_map]; exact hcat) hdg hce) hAa (by rw [hH0]; exact hA) hS (fun ad' H1 locs1 g1 g2 g3 g4 g5 g6 => ?_)
  have k2 := kk ad' H1 locs1 ls g3 g4 (fun i hi => (g1 i (Nat.lt_of_lt_of_le hi hn)).trans (hag i hi)) (Nat.le_trans hn g2) (fun q hq => Vok_mono g2 (hvl q hq)) (vs_ret g5 (fun v hv => Vok_mono g2 ((vs_t hvs2.2) v hv))) g6 (by rw [mapl_ag g1 hvl]; exact hl)
  rw [← ret_map, map_ag g1 (vs_t hvs2.2)] at k2
  exact k2
theorem J_callIN {C : JC} {x : Bool} {cc : ByteArray} {nL : Nat} {rm : Room} {rt : Option FieldType} {own : String} {res : Res} {ce sl : Nat} {M : Mem} {pc : Nat} {lv : List (Nat × Value)} {st : List Value} {y : MethodName} {cc2 : ByteArray} {maxL2 index : Nat} {rm2 : Room} {As : List Value} {M' : Mem} {rv : Option Value} {stk : List Value} {n : Nat} {o : Option Nat} {host : String} (hC : Ok C x cc nL rm rt own res) (hcon : ∀ l, l.stackTraces = false → Con false l y cc2 maxL2 none rm2 (rf o :: As) M (M', .inr rv)) (hm : IMok y cc2 maxL2 n) (hw : ∀ U, nestB U → va_Nw (.methodLinkNest own index y host) U) (ho : ∃ i, o = some i) (hn9 : As.length = n) (hf : rm2.frames + 1 ≤ rm.frames ∧ 8 + (maxL2 + 11) + rm2.locals ≤ rm.locals) (hcat : (st.map fun v => v.category).sum ≤ 8) (hce : ce + rm2.cells ≤ rm.cells ∧ sl + rm2.slots ≤ rm.slots)
    (hdg : decode cc pc = .ok (.invokespecial index, 3)) (hstk : stk = As.reverse ++ rf o :: st) (kk : J C (ce + rm2.cells) (sl + rm2.slots) M' (pc + 3) lv (rv.toList ++ st)) : J C ce sl M pc lv stk := by
  obtain ⟨i, rfl⟩ := ho
  subst hstk
  obtain ⟨m1, m2, m3, m4, m5⟩ := hm
  obtain ⟨p, l, e, R, s, m, args, below, meth, c, H0, A, Q, nL0, G, ad0, n0⟩ := C
  obtain ⟨hx, hb, hml, hnl, hown, hts, hKK, hH0, hA, hlk, hrt, hR, hQ, hxt⟩ := hC
  intro ad H locs ls hW hAa hag hn hvl hvs hS hl
  subst hR
  subst hnl
  have hvs2 := vs_arr hvs
  refine W_call (M := M) (M' := M') (rv := rv) (va_runIN (host := host) (cc := cc) (nL := nL0) (Ts := BIG) (own := own) (As := As.map (phys ad)) (rest := st.map (phys ad)) (b := ad i) ⟨hx, hb, hml, hown, hts⟩ (by have h9 := hcon l hxt.2 G ad H.size; rw [if_neg (by decide)] at h9; exact h9) ⟨va_cnB n hts (big_inB (big_cons m1)) rfl rfl rfl (hw s hKK.1.2.1) (hts _ m3) m5 hf, m4, hts _ m2⟩ ⟨PreC_blind, PreC_of hW hAa hA hKK (hH0 ▸ hS) (vs_c (vs_h hvs2.2) hvs2.1)⟩ rfl (by rw [List.length_map]; exact hn9) hl.1 (by show List.map (phys ad) _ = _; rw [List.map_append, List.map_reverse]; rfl) (by show 0 + _ ≤ 8; rw [Nat.zero_add, cat_map]; exact hcat) hdg hce) hAa (by rw [hH0]; exact hA) hS (fun ad' H1 locs1 g1 g2 g3 g4 g5 g6 => ?_)
  have k2 := kk ad' H1 locs1 ls g3 g4 (fun i hi => (g1 i (Nat.lt_of_lt_of_le hi hn)).trans (hag i hi)) (Nat.le_trans hn g2) (fun q hq => Vok_mono g2 (hvl q hq)) (vs_ret g5 (fun v hv => Vok_mono g2 ((vs_t hvs2.2) v hv))) g6 (by rw [mapl_ag g1 hvl]; exact hl)
  rw [← ret_map, map_ag g1 (vs_t hvs2.2)] at k2
  exact k2
theorem J_callVX {C : JC} {x : Bool} {cc : ByteArray} {nL : Nat} {rm : Room} {rt : Option FieldType} {own : String} {res : Res} {ce sl : Nat} {M : Mem} {pc : Nat} {lv : List (Nat × Value)} {st : List Value} {y : MethodName} {cc2 : ByteArray} {maxL2 index : Nat} {ret2 : Option FieldType} {rm2 : Room} {As : List Value} {M' : Mem} {rv : Option Value} {stk : List Value} {n : Nat} {Cn : String} {o : Option Nat} {ci : Nat} {qc : vw_C} (hC : Ok C x cc nL rm rt own res) (hcon : ∀ l, l.stackTraces = false → Con true l y cc2 maxL2 ret2 rm2 (rf o :: As) M (M', .inr rv)) (hm : VMok y Cn cc2 maxL2 ret2 n) (hw : Cond.methodLink own index y ∈ BIG) (ho : ∃ i, o = some i ∧ i < M.1 ∧ kd i = ci) (hq : vwCl[kx ci]? = some qc ∧ qc.1 = Cn) (hn9 : As.length = n) (hf : rm2.frames + 1 ≤ rm.frames ∧ 8 + (maxL2 + 11) + rm2.locals ≤ rm.locals) (hcat : (st.map fun v => v.category).sum ≤ 8) (hce : ce + rm2.cells ≤ rm.cells ∧ sl + rm2.slots ≤ rm.slots)
    (hdg : decode cc pc = .ok (.invokevirtual index, 3)) (hstk : stk = As.reverse ++ rf o :: st) (kk : J C (ce + rm2.cells) (sl + rm2.slots) M' (pc + 3) lv (rv.toList ++ st)) : J C ce sl M pc lv stk := by
  obtain ⟨i, rfl, hi1, hi2⟩ := ho
  subst hstk
  obtain ⟨m1, m2, m3, m4, m5⟩ := hm
  obtain ⟨p, l, e, R, s, m, args, below, meth, c, H0, A, Q, nL0, G, ad0, n0⟩ := C
  obtain ⟨hx, hb, hml, hnl, hown, hts, hKK, hH0, hA, hlk, hrt, hR, hQ, hxt⟩ := hC
  intro ad H locs ls hW hAa hag hn hvl hvs hS hl
  subst hR
  subst hnl
  have hvs2 := vs_arr hvs
  refine W_call (M := M) (M' := M') (rv := rv) (run_of_x (vx_runV (cc := cc) (nL := nL0) (Ts := BIG) (own := own) (As := As.map (phys ad)) (rest := st.map (phys ad)) (C := Cn) (b := ad i) ⟨hx, hb, hml, hown, hts⟩ (by have h9 := hcon l hxt.2 G ad H.size; rw [if_pos rfl] at h9; exact h9) (cwV n hts (big_inB (fun w hw9 => by
      rcases List.mem_append.mp hw9 with h | h
      · simp only [List.mem_cons, List.not_mem_nil, or_false] at h
        rcases h with h | h | h | h <;> subst h
        · exact hw
        · exact m2
        · exact m3
        · exact m4
      · exact big_cons m1 w h)) rfl rfl rfl m5 hf) ⟨PreC_blind, hq.2 ▸ rcv_of9 hW hKK hi1 hi2 hq.1, PreC_of hW hAa hA hKK (hH0 ▸ hS) (vs_c (vs_h hvs2.2) hvs2.1)⟩ rfl (by rw [List.length_map]; exact hn9) hl.1 (by show List.map (phys ad) _ = _; rw [List.map_append, List.map_reverse]; rfl) (by show 0 + _ ≤ 8; rw [Nat.zero_add, cat_map]; exact hcat) hdg hce)) hAa (by rw [hH0]; exact hA) hS (fun ad' H1 locs1 g1 g2 g3 g4 g5 g6 => ?_)
  have k2 := kk ad' H1 locs1 ls g3 g4 (fun i hi => (g1 i (Nat.lt_of_lt_of_le hi hn)).trans (hag i hi)) (Nat.le_trans hn g2) (fun q hq => Vok_mono g2 (hvl q hq)) (vs_ret g5 (fun v hv => Vok_mono g2 ((vs_t hvs2.2) v hv))) g6 (by rw [mapl_ag g1 hvl]; exact hl)
  rw [← ret_map, map_ag g1 (vs_t hvs2.2)] at k2
  exact k2
theorem J_callSX {C : JC} {x : Bool} {cc : ByteArray} {nL : Nat} {rm : Room} {rt : Option FieldType} {own : String} {res : Res} {ce sl : Nat} {M : Mem} {pc : Nat} {lv : List (Nat × Value)} {st : List Value} {y : MethodName} {cc2 : ByteArray} {maxL2 index : Nat} {ret2 : Option FieldType} {rm2 : Room} {As : List Value} {M' : Mem} {rv : Option Value} {stk : List Value} {n : Nat} (hC : Ok C x cc nL rm rt own res) (hcon : ∀ l, l.stackTraces = false → Con true l y cc2 maxL2 ret2 rm2 As M (M', .inr rv)) (hm : SMok y cc2 maxL2 ret2 n) (hw : Cond.methodLink own index y ∈ BIG) (hn9 : As.length = n) (hf : rm2.frames + 1 ≤ rm.frames ∧ 8 + (maxL2 + 11) + rm2.locals ≤ rm.locals) (hcat : (st.map fun v => v.category).sum ≤ 8) (hce : ce + rm2.cells ≤ rm.cells ∧ sl + rm2.slots ≤ rm.slots)
    (hdg : decode cc pc = .ok (.invokestatic index, 3)) (hstk : stk = As.reverse ++ st) (kk : J C (ce + rm2.cells) (sl + rm2.slots) M' (pc + 3) lv (rv.toList ++ st)) : J C ce sl M pc lv stk := by
  subst hstk
  obtain ⟨m1, m2, m3, m4⟩ := hm
  obtain ⟨p, l, e, R, s, m, args, below, meth, c, H0, A, Q, nL0, G, ad0, n0⟩ := C
  obtain ⟨hx, hb, hml, hnl, hown, hts, hKK, hH0, hA, hlk, hrt, hR, hQ, hxt⟩ := hC
  intro ad H locs ls hW hAa hag hn hvl hvs hS hl
  subst hR
  subst hnl
  have hvs2 := vs_arr hvs
  refine W_call (M := M) (M' := M') (rv := rv) (run_of_x (vx_runS (cc := cc) (nL := nL0) (Ts := BIG) (own := own) (As := As.map (phys ad)) (rest := st.map (phys ad)) ⟨hx, hb, hml, hown, hts⟩ (by have h9 := hcon l hxt.2 G ad H.size; rw [if_pos rfl] at h9; exact h9) (va_cwS n hts (big_inB (fun w hw9 => by
      rcases List.mem_append.mp hw9 with h | h
      · simp only [List.mem_cons, List.not_mem_nil, or_false] at h
        rcases h with h | h | h <;> subst h
        · exact hw
        · exact m2
        · exact m3
      · exact big_cons m1 w h)) rfl rfl rfl m4 hf) ⟨PreC_blind, PreC_of hW hAa hA hKK (hH0 ▸ hS) hvs2.1⟩ rfl (by rw [List.length_map]; exact hn9) hl.1 (by show List.map (phys ad) _ = _; rw [List.map_append, List.map_reverse]) (by show 0 + _ ≤ 8; rw [Nat.zero_add, cat_map]; exact hcat) hdg hce)) hAa (by rw [hH0]; exact hA) hS (fun ad' H1 locs1 g1 g2 g3 g4 g5 g6 => ?_)
  have k2 := kk ad' H1 locs1 ls g3 g4 (fun i hi => (g1 i (Nat.lt_of_lt_of_le hi hn)).trans (hag i hi)) (Nat.le_trans hn g2) (fun q hq => Vok_mono g2 (hvl q hq)) (vs_ret g5 (fun v hv => Vok_mono g2 (hvs2.2 v hv))) g6 (by rw [mapl_ag g1 hvl]; exact hl)
  rw [← ret_map, map_ag g1 hvs2.2] at k2
  exact k2
theorem J_objInit {C : JC} {x : Bool} {cc : ByteArray} {nL : Nat} {rm : Room} {rt : Option FieldType} {own : String} {res : Res} {ce sl : Nat} {M : Mem} {pc : Nat} {lv : List (Nat × Value)} {st : List Value} {idx : Nat} {o : Option Nat} (hC : Ok C x cc nL rm rt own res) (hw : Cond.methodLink own idx objectInit ∈ BIG) (ho : ∃ i, o = some i) (hf : 1 ≤ rm.frames) (hlo : (st.map fun v => v.category).sum + 12 ≤ rm.locals) (hdg : decode cc pc = .ok (.invokespecial idx, 3)) (kk : J C ce sl M (pc + 3) lv st) : J C ce sl M pc lv (rf o :: st) := by
  obtain ⟨i, rfl⟩ := ho
  obtain ⟨p, l, e, R, s, m, args, below, meth, c, H0, A, Q, nL0, G, ad0, n0⟩ := C
  obtain ⟨hx, hb, hml, hnl, hown, hts, hKK, hH0, hA, hlk, hrt, hR, hQ, hxt⟩ := hC
  intro ad H locs ls hW hAa hag hn hvl hvs hS hl
  subst hR
  exact W.objInit hx hb hown (hts _ hw) (hts _ w_oi1) (hts _ w_oi2) rfl (by show ls.size = _; rw [hml, ← hnl]; exact hl.1) rfl hdg hf (by show 2 * 0 + _ + 12 ≤ _; rw [cat_map]; omega) (kk ad H locs ls hW hAa hag hn hvl (vs_t hvs) hS hl)
/-! ===== throws ===== -/
def thr {α β : Type} (r : Mem × (String ⊕ α)) (k : α → Option (Mem × (String ⊕ β))) : Option (Mem × (String ⊕ β)) := match r.2 with
  | .inl E => some (r.1, .inl E)
  | .inr v => k v
def toRes {α : Type} (tv : α → Option Value) (r : Mem × (String ⊕ α)) : Res := (r.1, match r.2 with
  | .inl E => .inl E
  | .inr v => .inr (tv v))
def atOk (own : String) (ic : Nat) (cls : String) : Prop := (∀ w ∈ (vx_atS own ic cls ["java/lang/RuntimeException", "java/lang/Exception"]).filter goodWord, w ∈ BIG) ∧ (∀ w ∈ (vx_atS own ic cls ["java/lang/RuntimeException", "java/lang/Exception"]).filter (fun w => !goodWord w), w ∈ [Cond.castable cls cls, .declares yRE, .declares yEX, .declares yTH]) ∧ (∀ w ∈ vx_atS own ic cls ["java/lang/RuntimeException", "java/lang/Exception"], vx_ot w = true) ∧ Bundle.fit cls = true ∧ (∀ U, castB U → va_Nw (.castable cls cls) U)
theorem J_throw {C : JC} {cc : ByteArray} {nL : Nat} {rm : Room} {rt : Option FieldType} {res : Res} {ce sl : Nat} {M : Mem} {pc : Nat} {lv : List (Nat × Value)} {st : List Value} {cls text : String} {ik is ic : Nat} (hC : Ok C true cc nL rm rt RX2 res) (hat : atOk RX2 ic cls) (hw1 : Cond.classLink RX2 ik cls ∈ BIG) (hw2 : Cond.initialized cls ∈ BIG) (htx : ∀ U, strB U → ∃ sa, vk_R RX2 is text sa U)
    (d0 : decode cc pc = .ok (.new ik, 3)) (d3 : decode cc (pc + 3) = .ok (.dup, 1)) (d4 : decode cc (pc + 4) = .ok (.ldc is, 2)) (d6 : decode cc (pc + 6) = .ok (.invokespecial ic, 3)) (d9 : decode cc (pc + 9) = .ok (.athrow, 1)) (hres : (M, Sum.inl cls) = res)
    (hfr : 5 < rm.frames) (hlo : (st.map fun v => v.category).sum + 82 ≤ rm.locals) (hce : ce + 1 ≤ rm.cells) (hsl : sl + 6 ≤ rm.slots) : J C ce sl M pc lv st := by
  obtain ⟨p, l, e, R, s, m, args, below, meth, c, H0, A, Q, nL0, G, ad0, n0⟩ := C
  obtain ⟨hx, hb, hml, hnl, hown, hts, hKK, hH0, hA, hlk, hrt, hR, hQ, hxt⟩ := hC
  intro ad H locs ls hW hAa hag hn hvl hvs hS hl
  subst hres
  subst hR
  subst hH0
  obtain ⟨hex, hst⟩ := (⟨hxt.1 rfl, hxt.2⟩ : (∀ z ∈ c.exceptionTable.toList, False) ∧ l.stackTraces = false)
  obtain ⟨a1, a2, a3, a4, a5⟩ := hat
  obtain ⟨sa, hsa⟩ := htx s hKK.1.2.2.1
  rw [if_pos rfl] at hQ
  subst hQ
  refine vx_throwS (names := ["java/lang/RuntimeException", "java/lang/Exception"]) hx hb hst hown a4 (by decide +kernel) (hts _ hw1) (hts _ hw2) hsa (vx_hat (fun w h => hts w (a1 w h)) a2 (vx_c (va_Nw.use rfl (a5 s hKK.1.2.2.2.2)) (vx_c (va_Nw.use rfl hKK.1.2.2.2.2.2.1) (vx_c (va_Nw.use rfl hKK.1.2.2.2.2.2.2.1) (vx_c (va_Nw.use rfl hKK.1.2.2.2.2.2.2.2.1) vx_n))))) (fun w hw => ?_) hKK.2.1 hKK.2.2 hS (by rw [hml, ← hnl]; exact hl.1) d0 d3 d4 d6 d9 (fun x hx9 => (hex x hx9).elim) (by simpa using hfr) (by rw [cat_map]; simpa using hlo) hce hsl hlk (fun t hal hz hk => ?_) hS.2.2 hce hsl
  · rcases List.mem_cons.mp hw with h | hw
    · rw [h]; rfl
    · rcases List.mem_cons.mp hw with h | hw
      · rw [h]; rfl
      · exact a3 w hw
  · exact ⟨⟨ad, rfl, hag, hn, ⟨hW.1.kept (fun k9 x hx9 => hk x.1 ((hW.1 k9 x hx9).lt)), hW.2⟩, hAa⟩, Nat.le_trans hS.1 hz, fun q h1 h2 => (hk q (Nat.lt_of_lt_of_le h1 hS.1)).trans (hS.2.1 q h1 h2)⟩
theorem J_thrV {C : JC} {cc : ByteArray} {nL : Nat} {rm : Room} {rt : Option FieldType} {own : String} {res : Res} {ce sl : Nat} {M : Mem} {pc : Nat} {lv : List (Nat × Value)} {st : List Value} {y : MethodName} {cc2 : ByteArray} {maxL2 index : Nat} {ret2 : Option FieldType} {rm2 : Room} {As : List Value} {M' : Mem} {stk : List Value} {n : Nat} {E : String} {Cn : String} {o : Option Nat} {ci : Nat} {qc : vw_C} (hC : Ok C true cc nL rm rt own res) (hcon : ∀ l, l.stackTraces = false → Con true l y cc2 maxL2 ret2 rm2 (rf o :: As) M (M', .inl E)) (hm : VMok y Cn cc2 maxL2 ret2 n) (hw : Cond.methodLink own index y ∈ BIG) (ho : ∃ i, o = some i ∧ i < M.1 ∧ kd i = ci) (hq : vwCl[kx ci]? = some qc ∧ qc.1 = Cn) (hn9 : As.length = n) (hf : rm2.frames + 1 ≤ rm.frames ∧ 8 + (maxL2 + 11) + rm2.locals ≤ rm.locals) (hcat : (st.map fun v => v.category).sum ≤ 8) (hce : ce + rm2.cells ≤ rm.cells ∧ sl + rm2.slots ≤ rm.slots)
    (hdg : decode cc pc = .ok (.invokevirtual index, 3)) (hstk : stk = As.reverse ++ rf o :: st) (hres : (M', Sum.inl E) = res) : J C ce sl M pc lv stk := by
  obtain ⟨i, rfl, hi1, hi2⟩ := ho
  subst hstk
  obtain ⟨m1, m2, m3, m4, m5⟩ := hm
  obtain ⟨p, l, e, R, s, m, args, below, meth, c, H0, A, Q, nL0, G, ad0, n0⟩ := C
  obtain ⟨hx, hb, hml, hnl, hown, hts, hKK, hH0, hA, hlk, hrt, hR, hQ, hxt⟩ := hC
  intro ad H locs ls hW hAa hag hn hvl hvs hS hl
  subst hres
  subst hR
  subst hnl
  obtain ⟨hex, hst⟩ := (⟨hxt.1 rfl, hxt.2⟩ : (∀ z ∈ c.exceptionTable.toList, False) ∧ l.stackTraces = false)
  rw [if_pos rfl] at hQ
  subst hQ
  have hvs2 := vs_arr hvs
  have h9 := hcon l hst G ad H.size
  rw [if_pos rfl] at h9
  have hr := vx_runV (p := p) (l := l) (e := e) (R := R) (s := s) (m := m) (args := args) (below := below) (meth := meth) (c := c) (H := H) (locs := locs) (cells := ce) (slots := sl) (g := F0 m pc ls (((As.map (phys ad)).reverse ++ .ref (ad i) :: st.map (phys ad)))) (cc := cc) (nL := nL0) (Ts := BIG) (own := own) (As := As.map (phys ad)) (rest := st.map (phys ad)) (C := Cn) (b := ad i) ⟨hx, hb, hml, hown, hts⟩ h9 (cwV n hts (big_inB (fun w hw9 => by
      rcases List.mem_append.mp hw9 with h | h
      · simp only [List.mem_cons, List.not_mem_nil, or_false] at h
        rcases h with h | h | h | h <;> subst h
        · exact hw
        · exact m2
        · exact m3
        · exact m4
      · exact big_cons m1 w h)) rfl rfl rfl m5 hf) ⟨PreC_blind, hq.2 ▸ rcv_of9 hW hKK hi1 hi2 hq.1, PreC_of hW hAa hA hKK (hH0 ▸ hS) (vs_c (vs_h hvs2.2) hvs2.1)⟩ rfl (by rw [List.length_map]; exact hn9) hl.1 rfl (by show 0 + _ ≤ 8; rw [Nat.zero_add, cat_map]; exact hcat) hdg hce
  intro T hT X
  have hst9 : List.map (phys ad) (As.reverse ++ rf (some i) :: st) = (As.map (phys ad)).reverse ++ .ref (ad i) :: st.map (phys ad) := by rw [List.map_append, List.map_reverse]; rfl
  rw [hst9]
  rcases hr T hT X with ⟨v, st₀, t, T', L, h0, X', hL, e1, e2, ⟨⟨ad', rv', q1, -⟩, -⟩, -⟩ | ⟨q, st₀, t, T', L, E2, cel, h0, X', hL, e1, e2, ⟨⟨ad', q1, q3, q4, q5, q6⟩, hz, hk⟩, hcell, hv, hcl, stp⟩
  · cases q1
  cases q1
  rw [h0] at hz hk
  have hsub := Aset_sub hAa (by rw [hH0]; exact hA) hS.1
  have hS2 : va_S A H0 T'.heap (locs ++ L) := ⟨Nat.le_trans hS.1 (by rw [e1]; exact hz), fun q h1 h2 => by rw [e1, hk q (Nat.lt_of_lt_of_le h1 hS.1) (fun z => h2 (hsub q z))]; exact hS.2.1 q h1 h2, fun q hq => by
      rcases List.mem_append.mp hq with h | h
      · exact hS.2.2 q h
      · exact hsub _ (hL q h)⟩
  obtain ⟨t2, a1, b1⟩ := vx_out (Qc := Qret G ad0 n0 A (M', Sum.inl E)) (XC := Qthr G ad0 n0 A (M', Sum.inl E)) (below := below) (free := A) (pc := pc) (ls := ls) (rest := st.map (phys ad)) (E := E) (ce := cel) (q := q) (H := T'.heap) (locs := locs ++ L) (cells := ce + rm2.cells) (slots := sl + rm2.slots) (mc := R.cells) (ms := R.slots) (p := p) (l := l) (e := e) (R := R) (s := s) (m := m) (args := args) (meth := meth) (c := c) (fun x hx9 => (hex x hx9).elim) hlk (by rw [e1]; exact hcell) hv hcl
    (fun t3 ht3 hal => ⟨⟨ad', rfl, fun i hi => (q3 i (Nat.lt_of_lt_of_le hi hn)).trans (hag i hi), Nat.le_trans hn q4, by rw [ht3, e1]; exact q5, fun i hi => hsub _ (q6 i hi)⟩, by rw [ht3, ← hH0]; exact hS2.1, fun q h1 h2 => by rw [ht3]; rw [← hH0] at h1; exact (hS2.2.1 q h1 h2).trans (by rw [hH0])⟩) hS2.2.2 hce.1 hce.2 T' rfl X'
  exact ⟨t2, stp.trans a1, b1⟩
theorem J_thrS {C : JC} {cc : ByteArray} {nL : Nat} {rm : Room} {rt : Option FieldType} {own : String} {res : Res} {ce sl : Nat} {M : Mem} {pc : Nat} {lv : List (Nat × Value)} {st : List Value} {y : MethodName} {cc2 : ByteArray} {maxL2 index : Nat} {ret2 : Option FieldType} {rm2 : Room} {As : List Value} {M' : Mem} {stk : List Value} {n : Nat} {E : String} (hC : Ok C true cc nL rm rt own res) (hcon : ∀ l, l.stackTraces = false → Con true l y cc2 maxL2 ret2 rm2 As M (M', .inl E)) (hm : SMok y cc2 maxL2 ret2 n) (hw : Cond.methodLink own index y ∈ BIG) (hn9 : As.length = n) (hf : rm2.frames + 1 ≤ rm.frames ∧ 8 + (maxL2 + 11) + rm2.locals ≤ rm.locals) (hcat : (st.map fun v => v.category).sum ≤ 8) (hce : ce + rm2.cells ≤ rm.cells ∧ sl + rm2.slots ≤ rm.slots)
    (hdg : decode cc pc = .ok (.invokestatic index, 3)) (hstk : stk = As.reverse ++ st) (hres : (M', Sum.inl E) = res) : J C ce sl M pc lv stk := by
  skip
  subst hstk
  obtain ⟨m1, m2, m3, m4⟩ := hm
  obtain ⟨p, l, e, R, s, m, args, below, meth, c, H0, A, Q, nL0, G, ad0, n0⟩ := C
  obtain ⟨hx, hb, hml, hnl, hown, hts, hKK, hH0, hA, hlk, hrt, hR, hQ, hxt⟩ := hC
  intro ad H locs ls hW hAa hag hn hvl hvs hS hl
  subst hres
  subst hR
  subst hnl
  obtain ⟨hex, hst⟩ := (⟨hxt.1 rfl, hxt.2⟩ : (∀ z ∈ c.exceptionTable.toList, False) ∧ l.stackTraces = false)
  rw [if_pos rfl] at hQ
  subst hQ
  have hvs2 := vs_arr hvs
  have h9 := hcon l hst G ad H.size
  rw [if_pos rfl] at h9
  have hr := vx_runS (p := p) (l := l) (e := e) (R := R) (s := s) (m := m) (args := args) (below := below) (meth := meth) (c := c) (H := H) (locs := locs) (cells := ce) (slots := sl) (g := F0 m pc ls ((As.map (phys ad)).reverse ++ st.map (phys ad))) (cc := cc) (nL := nL0) (Ts := BIG) (own := own) (As := As.map (phys ad)) (rest := st.map (phys ad)) ⟨hx, hb, hml, hown, hts⟩ h9 (va_cwS n hts (big_inB (fun w hw9 => by
      rcases List.mem_append.mp hw9 with h | h
      · simp only [List.mem_cons, List.not_mem_nil, or_false] at h
        rcases h with h | h | h <;> subst h
        · exact hw
        · exact m2
        · exact m3
      · exact big_cons m1 w h)) rfl rfl rfl m4 hf) ⟨PreC_blind, PreC_of hW hAa hA hKK (hH0 ▸ hS) hvs2.1⟩ rfl (by rw [List.length_map]; exact hn9) hl.1 rfl (by show 0 + _ ≤ 8; rw [Nat.zero_add, cat_map]; exact hcat) hdg hce
  intro T hT X
  have hst9 : List.map (phys ad) (As.reverse ++ st) = (As.map (phys ad)).reverse ++ st.map (phys ad) := by rw [List.map_append, List.map_reverse]
  rw [hst9]
  rcases hr T hT X with ⟨v, st₀, t, T', L, h0, X', hL, e1, e2, ⟨⟨ad', rv', q1, -⟩, -⟩, -⟩ | ⟨q, st₀, t, T', L, E2, cel, h0, X', hL, e1, e2, ⟨⟨ad', q1, q3, q4, q5, q6⟩, hz, hk⟩, hcell, hv, hcl, stp⟩
  · cases q1
  cases q1
  rw [h0] at hz hk
  have hsub := Aset_sub hAa (by rw [hH0]; exact hA) hS.1
  have hS2 : va_S A H0 T'.heap (locs ++ L) := ⟨Nat.le_trans hS.1 (by rw [e1]; exact hz), fun q h1 h2 => by rw [e1, hk q (Nat.lt_of_lt_of_le h1 hS.1) (fun z => h2 (hsub q z))]; exact hS.2.1 q h1 h2, fun q hq => by
      rcases List.mem_append.mp hq with h | h
      · exact hS.2.2 q h
      · exact hsub _ (hL q h)⟩
  obtain ⟨t2, a1, b1⟩ := vx_out (Qc := Qret G ad0 n0 A (M', Sum.inl E)) (XC := Qthr G ad0 n0 A (M', Sum.inl E)) (below := below) (free := A) (pc := pc) (ls := ls) (rest := st.map (phys ad)) (E := E) (ce := cel) (q := q) (H := T'.heap) (locs := locs ++ L) (cells := ce + rm2.cells) (slots := sl + rm2.slots) (mc := R.cells) (ms := R.slots) (p := p) (l := l) (e := e) (R := R) (s := s) (m := m) (args := args) (meth := meth) (c := c) (fun x hx9 => (hex x hx9).elim) hlk (by rw [e1]; exact hcell) hv hcl
    (fun t3 ht3 hal => ⟨⟨ad', rfl, fun i hi => (q3 i (Nat.lt_of_lt_of_le hi hn)).trans (hag i hi), Nat.le_trans hn q4, by rw [ht3, e1]; exact q5, fun i hi => hsub _ (q6 i hi)⟩, by rw [ht3, ← hH0]; exact hS2.1, fun q h1 h2 => by rw [ht3]; rw [← hH0] at h1; exact (hS2.2.1 q h1 h2).trans (by rw [hH0])⟩) hS2.2.2 hce.1 hce.2 T' rfl X'
  exact ⟨t2, stp.trans a1, b1⟩
