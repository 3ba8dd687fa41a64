/-! ===== the law's own rows: the script, wrappers with a table, handlers ===== -/
def sc (xs : Nat → Int32) (L : Nat) (z : Int32) : Option Int32 := if inRb z L = true then some (xs z.toNatClampNeg) else none
def ScOK (C : JC) (b L : Nat) (xs : Nat → Int32) : Prop := match C with
  | (p, l, e, R, s, m, args, below, meth, c, H0, A, Q, nL0, G, ad0, n0) => va_X b L xs s H0 ∧ b < H0.size ∧ ¬ A b
def TabOf (C : JC) (hh : List (Nat × Nat × Nat × Nat)) : Prop := match C with
  | (p, l, e, R, s, m, args, below, meth, c, H0, A, Q, nL0, G, ad0, n0) => c.exceptionTable.toList = tableOf hh
theorem J_sld {C : JC} {x : Bool} {cc : ByteArray} {nL : Nat} {rm : Room} {rt : Option FieldType} {own : String} {res : Res} {ce sl : Nat} {M : Mem} {pc : Nat} {lv : List (Nat × Value)} {st : List Value} {β : Type} {r0 : β} {f : Int32 → Option β} {z : Int32} {b L : Nat} {xs : Nat → Int32} (hC : Ok C x cc nL rm rt own res) (hSc : ScOK C b L xs) (hdg : decode cc pc = .ok (.iaload, 1)) (h : (sc xs L z).bind f = some r0)
    (kk : ∀ v, sc xs L z = some v → f v = some r0 → J C ce sl M (pc + 1) lv (.int v :: st)) : J C ce sl M pc lv (.int z :: .ref b :: st) := by
  obtain ⟨v, hv, hf⟩ := bnd h
  have kk := kk v hv hf
  unfold sc at hv
  split at hv
  case isFalse => cases hv
  case isTrue hi =>
  cases hv
  obtain ⟨p, l, e, R, s, m, args, below, meth, c, H0, A, Q, nL0, G, ad0, n0⟩ := C
  obtain ⟨hx, hb, hml, hnl, hown, hts, hKK, hH0, hA, hlk, hrt, hR, hQ, hxt⟩ := hC
  intro ad H locs ls hW hAa hag hn hvl hvs hS hl
  exact va_sld hx hb hSc.1 hSc.2.1 hSc.2.2 hS (inRb_vp hi) hdg (kk ad H locs ls hW hAa hag hn hvl (vs_c Vok_int (vs_t (vs_t hvs))) hS hl)
theorem J_slen {C : JC} {x : Bool} {cc : ByteArray} {nL : Nat} {rm : Room} {rt : Option FieldType} {own : String} {res : Res} {ce sl : Nat} {M : Mem} {pc : Nat} {lv : List (Nat × Value)} {st : List Value} {b L : Nat} {xs : Nat → Int32} (hC : Ok C x cc nL rm rt own res) (hSc : ScOK C b L xs) (hdg : decode cc pc = .ok (.arraylength, 1))
    (kk : J C ce sl M (pc + 1) lv (.int (Int32.ofNat L) :: st)) : J C ce sl M pc lv (.ref b :: st) := by
  obtain ⟨p, l, e, R, s, m, args, below, meth, c, H0, A, Q, nL0, G, ad0, n0⟩ := C
  obtain ⟨hx, hb, hml, hnl, hown, hts, hKK, hH0, hA, hlk, hrt, hR, hQ, hxt⟩ := hC
  intro ad H locs ls hW hAa hag hn hvl hvs hS hl
  exact va_slen hx hb hSc.1 hSc.2.1 hSc.2.2 hS hdg (kk ad H locs ls hW hAa hag hn hvl (vs_c Vok_int (vs_t hvs)) hS hl)
theorem J_aloadQ_n {C : JC} {x : Bool} {cc : ByteArray} {nL : Nat} {rm : Room} {rt : Option FieldType} {own : String} {res : Res} {ce sl : Nat} {M : Mem} {pc : Nat} {lv : List (Nat × Value)} {st : List Value} {k : Fin 4} {j q : Nat} (hC : Ok C x cc nL rm rt own res) (hdg : decode cc pc = .ok (.aload_n k, 1)) (hlv : lv[j]? = some ((k : Nat), .ref q))
    (kk : J C ce sl M (pc + 1) lv (.ref q :: st)) : J C ce sl M pc lv st := by
  obtain ⟨p, l, e, R, s, m, args, below, meth, c, H0, A, Q, nL0, G, ad0, n0⟩ := C
  obtain ⟨hx, hb, hml, hnl, hown, hts, hKK, hH0, hA, hlk, hrt, hR, hQ, hxt⟩ := hC
  intro ad H locs ls hW hAa hag hn hvl hvs hS hl
  exact lv_aload_n hx hb hdg rfl (lv_at hl j (mp_at hlv)) (kk ad H locs ls hW hAa hag hn hvl (vs_c Vok_ref hvs) hS hl)
theorem J_astoreQ_n {C : JC} {x : Bool} {cc : ByteArray} {nL : Nat} {rm : Room} {rt : Option FieldType} {own : String} {res : Res} {ce sl : Nat} {M : Mem} {pc : Nat} {lv : List (Nat × Value)} {st : List Value} {k : Fin 4} {i q : Nat} (hk : (k : Nat) = i) {lv' : List (Nat × Value)} (hC : Ok C x cc nL rm rt own res) (hdg : decode cc pc = .ok (.astore_n k, 1)) (hi : i < nL) (hlv : (i, Value.ref q) :: lv.filter (fun q => !(q.1 == i) && !(q.1 + 1 == i && q.2.category == 2)) = lv')
    (kk : J C ce sl M (pc + 1) lv' st) : J C ce sl M pc lv (.ref q :: st) := by
  obtain ⟨p, l, e, R, s, m, args, below, meth, c, H0, A, Q, nL0, G, ad0, n0⟩ := C
  obtain ⟨hx, hb, hml, hnl, hown, hts, hKK, hH0, hA, hlk, hrt, hR, hQ, hxt⟩ := hC
  intro ad H locs ls hW hAa hag hn hvl hvs hS hl
  subst hnl
  have kk := fun ls hl => kk ad H locs ls hW hAa hag hn (vl_st hlv (vs_h hvs) hvl) (vs_t hvs) hS hl
  have h9 := mp_st1 (ad := ad) hlv
  exact lv_astore_n hx hb hdg hk hl hi h9 kk
theorem J_astoreQ {C : JC} {x : Bool} {cc : ByteArray} {nL : Nat} {rm : Room} {rt : Option FieldType} {own : String} {res : Res} {ce sl : Nat} {M : Mem} {pc : Nat} {lv : List (Nat × Value)} {st : List Value} {i q : Nat} {lv' : List (Nat × Value)} (hC : Ok C x cc nL rm rt own res) (hdg : decode cc pc = .ok (.astore i, 2)) (hi : i < nL) (hlv : (i, Value.ref q) :: lv.filter (fun q => !(q.1 == i) && !(q.1 + 1 == i && q.2.category == 2)) = lv')
    (kk : J C ce sl M (pc + 2) lv' st) : J C ce sl M pc lv (.ref q :: st) := by
  obtain ⟨p, l, e, R, s, m, args, below, meth, c, H0, A, Q, nL0, G, ad0, n0⟩ := C
  obtain ⟨hx, hb, hml, hnl, hown, hts, hKK, hH0, hA, hlk, hrt, hR, hQ, hxt⟩ := hC
  intro ad H locs ls hW hAa hag hn hvl hvs hS hl
  subst hnl
  have kk := fun ls hl => kk ad H locs ls hW hAa hag hn (vl_st hlv (vs_h hvs) hvl) (vs_t hvs) hS hl
  have h9 := mp_st1 (ad := ad) hlv
  exact lv_astore hx hb hdg hl hi h9 kk
theorem J_widen {C : JC} {ce sl k n : Nat} {M : Mem} {pc : Nat} {lv : List (Nat × Value)} {st : List Value} (h1 : ce ≤ k) (h2 : sl ≤ n) (kk : J C k n M pc lv st) : J C ce sl M pc lv st := by
  obtain ⟨p, l, e, R, s, m, args, below, meth, c, H0, A, Q, nL0, G, ad0, n0⟩ := C
  intro ad H locs ls hW hAa hag hn hvl hvs hS hl
  exact W.widen h1 h2 (kk ad H locs ls hW hAa hag hn hvl hvs hS hl)
def ConW (l : Launch) (y : MethodName) (cc : ByteArray) (maxL : Nat) (ret : Option FieldType) (hh : List (Nat × Nat × Nat × Nat)) (rm : Room) (As : List Value) (M : Mem) (res : Res) : Prop := ∀ (G : Geo) (ad : Nat → Nat) (sz : Nat),
  Met l y (.codeWith y cc maxL ret hh :: BIG) rm (PreC G ad sz As M) (Qret G ad M.1 (Aset ad M.1 sz) res) rm.cells rm.slots (Aset ad M.1 sz)
theorem ConW.enter {l : Launch} (hst : l.stackTraces = false) {y : MethodName} {cc : ByteArray} {maxL : Nat} {ret : Option FieldType} {hh : List (Nat × Nat × Nat × Nat)} {rm : Room} {As : List Value} {M : Mem} {res : Res} {own : String} (hy : plainName y.cls = true) (ho : y.cls = own) (hlen : (lg_sl As).length ≤ maxL) {lv0 : List (Nat × Value)} (hlv : lv_args 0 As = lv0)
    (k : ∀ C : JC, Ok C false cc maxL rm ret own res → TabOf C hh → J C 0 0 M 0 lv0 []) : ConW l y cc maxL ret hh rm As M res := by
  intro G ad sz
  refine va_MetW (cc := cc) (maxL := maxL) (ret := ret) (hh := hh) hy rfl ?_
  intro p e s m args below meth c s₁ B hml hv
  obtain ⟨rfl, hsz, hW, hKK, hVok⟩ := hv
  subst hsz
  have hts := atoms_spec (ws := .codeWith y cc maxL ret hh :: BIG) B.pre
  have hown : s.vm.findClass y.cls = some m.cls := findClass_of_methodNamed B.named
  have htab := vx_table (x := y) B (hts _ List.mem_cons_self)
  have hl := lv_entry (As.map (phys ad)) (n := maxL) (by rw [lg_sl_len]; exact hlen)
  rw [lg_entry_eq]
  generalize (lg_sl (As.map (phys ad)) ++ List.replicate (maxL - (lg_sl (As.map (phys ad))).length) Slot.unset).toArray = ls at hl ⊢
  rw [lv_args_phys, hlv] at hl
  exact k (p, l, e, (headSpec (.codeWith y cc maxL ret hh :: BIG) rm).room, s, m, (As.map (phys ad)).toArray, below, meth, c, s.heap, Aset ad M.1 s.heap.size, MQ below (Qret G ad M.1 (Aset ad M.1 s.heap.size) res) (As.map (phys ad)).toArray s rm.cells rm.slots (Aset ad M.1 s.heap.size), maxL, G, ad, M.1)
    ⟨B.exec, B.bytes, hml, rfl, ho ▸ hown, fun w hw => hts w (List.mem_cons_of_mem _ hw), hKK, rfl, fun q h => Or.inr h, B.notSynchronized, B.returns, rfl, rfl, (fun h => by cases h), hst⟩ htab
    ad s.heap [] ls hW (fun i hi => Or.inl ⟨i, hi, rfl⟩) (fun _ _ => rfl) (Nat.le_refl _) (hlv ▸ vl_args As hVok 0) (fun v hv => by cases hv) va_S.rf hl
def SWok (y : MethodName) (cc : ByteArray) (maxL : Nat) (ret : Option FieldType) (hh : List (Nat × Nat × Nat × Nat)) (n : Nat) : Prop := Cond.codeWith y cc maxL ret hh ∈ BIG ∧ Cond.static y ∈ BIG ∧ Cond.initialized y.cls ∈ BIG ∧ (y.cls ≠ "java/lang/invoke/MethodHandle" ∧ y.cls ≠ "java/lang/invoke/VarHandle" ∧ (parseMethodDescriptor y.desc).map (fun d => d.parameters.length) = some n)
theorem J_callSW {C : JC} {x : Bool} {cc : ByteArray} {nL : Nat} {rm : Room} {rt : Option FieldType} {own : String} {res : Res} {ce sl : Nat} {M : Mem} {pc : Nat} {lv : List (Nat × Value)} {st : List Value} {y : MethodName} {cc2 : ByteArray} {maxL2 index : Nat} {ret2 : Option FieldType} {rm2 : Room} {As : List Value} {M' : Mem} {rv : Option Value} {stk : List Value} {n : Nat} {hh : List (Nat × Nat × Nat × Nat)} (hC : Ok C x cc nL rm rt own res) (hcon : ∀ l, l.stackTraces = false → ConW l y cc2 maxL2 ret2 hh rm2 As M (M', .inr rv)) (hm : SWok y cc2 maxL2 ret2 hh n) (hw : Cond.methodLink own index y ∈ BIG) (hn9 : As.length = n) (hf : rm2.frames + 1 ≤ rm.frames ∧ 8 + (maxL2 + 11) + rm2.locals ≤ rm.locals) (hcat : (st.map fun v => v.category).sum ≤ 8) (hce : ce + rm2.cells ≤ rm.cells ∧ sl + rm2.slots ≤ rm.slots)
    (hdg : decode cc pc = .ok (.invokestatic index, 3)) (hstk : stk = As.reverse ++ st) (kk : J C (ce + rm2.cells) (sl + rm2.slots) M' (pc + 3) lv (rv.toList ++ st)) : J C ce sl M pc lv stk := by
  subst hstk
  obtain ⟨m1, m2, m3, m4⟩ := hm
  obtain ⟨p, l, e, R, s, m, args, below, meth, c, H0, A, Q, nL0, G, ad0, n0⟩ := C
  obtain ⟨hx, hb, hml, hnl, hown, hts, hKK, hH0, hA, hlk, hrt, hR, hQ, hxt⟩ := hC
  intro ad H locs ls hW hAa hag hn hvl hvs hS hl
  subst hR
  subst hnl
  have hvs2 := vs_arr hvs
  refine W_call (M := M) (M' := M') (rv := rv) (vx_runSW (hh := hh) (cc := cc) (nL := nL0) (Ts := BIG) (own := own) (As := As.map (phys ad)) (rest := st.map (phys ad)) ⟨hx, hb, hml, hown, hts⟩ (hcon l hxt.2 G ad H.size) (vx_cwSW n hts (big_inB (fun w hw9 => by
      rcases List.mem_append.mp hw9 with h | h
      · simp only [List.mem_cons, List.not_mem_nil, or_false] at h
        rcases h with h | h | h <;> subst h
        · exact hw
        · exact m2
        · exact m3
      · exact big_cons m1 w h)) rfl rfl rfl m4 hf) ⟨PreC_blind, PreC_of hW hAa hA hKK (hH0 ▸ hS) hvs2.1⟩ rfl (by rw [List.length_map]; exact hn9) hl.1 (by show List.map (phys ad) _ = _; rw [List.map_append, List.map_reverse]) (by show 0 + _ ≤ 8; rw [Nat.zero_add, cat_map]; exact hcat) hdg hce) hAa (by rw [hH0]; exact hA) hS (fun ad' H1 locs1 g1 g2 g3 g4 g5 g6 => ?_)
  have k2 := kk ad' H1 locs1 ls g3 g4 (fun i hi => (g1 i (Nat.lt_of_lt_of_le hi hn)).trans (hag i hi)) (Nat.le_trans hn g2) (fun q hq => Vok_mono g2 (hvl q hq)) (vs_ret g5 (fun v hv => Vok_mono g2 (hvs2.2 v hv))) g6 (by rw [mapl_ag g1 hvl]; exact hl)
  rw [← ret_map, map_ag g1 hvs2.2] at k2
  exact k2
theorem J_catchV {C : JC} {x : Bool} {cc : ByteArray} {nL : Nat} {rm : Room} {rt : Option FieldType} {own : String} {res : Res} {ce sl : Nat} {M : Mem} {pc : Nat} {lv : List (Nat × Value)} {st : List Value} {y : MethodName} {cc2 : ByteArray} {maxL2 index : Nat} {ret2 : Option FieldType} {rm2 : Room} {As : List Value} {M' : Mem} {stk : List Value} {n : Nat} {E name : String} {Cn : String} {o : Option Nat} {ci : Nat} {qc : vw_C} {hh : List (Nat × Nat × Nat × Nat)} (pre : List (Nat × Nat × Nat × Nat)) (xh : Nat × Nat × Nat × Nat) (suf : List (Nat × Nat × Nat × Nat)) (hC : Ok C x cc nL rm rt own res) (htab : TabOf C hh) (hsplit : hh = pre ++ xh :: suf)
    (hpass : ∀ z ∈ pre, z.2.2.2 ≠ 0 ∧ ∃ nm, Cond.classLink own z.2.2.2 nm ∈ BIG ∧ ∀ U, ncB U → va_Nc E nm U) (hcov : covers ⟨xh.1, xh.2.1, xh.2.2.1, xh.2.2.2⟩ pc = true) (h0 : xh.2.2.2 ≠ 0) (hlink : Cond.classLink own xh.2.2.2 name ∈ BIG) (hcast : ∀ U, castB U → va_Nw (.castable E name) U)
    (hcon : ∀ l, l.stackTraces = false → Con true l y cc2 maxL2 ret2 rm2 (rf o :: As) M (M', .inl E)) (hm : VMok y Cn cc2 maxL2 ret2 n) (hw : Cond.methodLink own index y ∈ BIG) (ho : ∃ i, o = some i ∧ i < M.1 ∧ kd i = ci) (hq : vwCl[kx ci]? = some qc ∧ qc.1 = Cn) (hn9 : As.length = n) (hf : rm2.frames + 1 ≤ rm.frames ∧ 8 + (maxL2 + 11) + rm2.locals ≤ rm.locals) (hcat : (st.map fun v => v.category).sum ≤ 8) (hce : ce + rm2.cells ≤ rm.cells ∧ sl + rm2.slots ≤ rm.slots)
    (hdg : decode cc pc = .ok (.invokevirtual index, 3)) (hstk : stk = As.reverse ++ rf o :: st) (kk : ∀ q, J C (ce + rm2.cells) (sl + rm2.slots) M' xh.2.2.1 lv [.ref q]) : J C ce sl M pc lv stk := by
  obtain ⟨i, rfl, hi1, hi2⟩ := ho
  subst hstk
  obtain ⟨m1, m2, m3, m4, m5⟩ := hm
  obtain ⟨p, l, e, R, s, m, args, below, meth, c, H0, A, Q, nL0, G, ad0, n0⟩ := C
  obtain ⟨hx, hb, hml, hnl, hown, hts, hKK, hH0, hA, hlk, hrt, hR, hQ, hxt⟩ := hC
  intro ad H locs ls hW hAa hag hn hvl hvs hS hl
  subst hR
  subst hnl
  have hvs2 := vs_arr hvs
  have h9 := hcon l hxt.2 G ad H.size
  rw [if_pos rfl] at h9
  have hr := vx_runV (p := p) (l := l) (e := e) (R := R) (s := s) (m := m) (args := args) (below := below) (meth := meth) (c := c) (H := H) (locs := locs) (cells := ce) (slots := sl) (g := F0 m pc ls (((As.map (phys ad)).reverse ++ .ref (ad i) :: st.map (phys ad)))) (cc := cc) (nL := nL0) (Ts := BIG) (own := own) (As := As.map (phys ad)) (rest := st.map (phys ad)) (C := Cn) (b := ad i) ⟨hx, hb, hml, hown, hts⟩ h9 (cwV n hts (big_inB (fun w hw9 => by
      rcases List.mem_append.mp hw9 with h | h
      · simp only [List.mem_cons, List.not_mem_nil, or_false] at h
        rcases h with h | h | h | h <;> subst h
        · exact hw
        · exact m2
        · exact m3
        · exact m4
      · exact big_cons m1 w h)) rfl rfl rfl m5 hf) ⟨PreC_blind, hq.2 ▸ rcv_of9 hW hKK hi1 hi2 hq.1, PreC_of hW hAa hA hKK (hH0 ▸ hS) (vs_c (vs_h hvs2.2) hvs2.1)⟩ rfl (by rw [List.length_map]; exact hn9) hl.1 rfl (by show 0 + _ ≤ 8; rw [Nat.zero_add, cat_map]; exact hcat) hdg hce
  intro T hT X
  have hst9 : List.map (phys ad) (As.reverse ++ rf (some i) :: st) = (As.map (phys ad)).reverse ++ .ref (ad i) :: st.map (phys ad) := by rw [List.map_append, List.map_reverse]; rfl
  rw [hst9]
  rcases hr T hT X with ⟨v, st₀, t, T', L, h0, X', hL, e1, e2, ⟨⟨ad', rv', q1, -⟩, -⟩, -⟩ | ⟨q, st₀, t, T', L, E2, cel, hz0, X', hL, e1, e2, ⟨⟨ad', q1, q3, q4, q5, q6⟩, hz, hk⟩, hcell, hv, hcl, stp⟩
  · cases q1
  cases q1
  rw [hz0] at hz hk
  have hsub := Aset_sub hAa (by rw [hH0]; exact hA) hS.1
  have hS2 : va_S A H0 T'.heap (locs ++ L) := ⟨Nat.le_trans hS.1 (by rw [e1]; exact hz), fun q h1 h2 => by rw [e1, hk q (Nat.lt_of_lt_of_le h1 hS.1) (fun z => h2 (hsub q z))]; exact hS.2.1 q h1 h2, fun q hq => by
      rcases List.mem_append.mp hq with h | h
      · exact hS.2.2 q h
      · exact hsub _ (hL q h)⟩
  have hkk := kk q ad' T'.heap (locs ++ L) ls (by rw [e1]; exact q5) (fun i hi => hsub _ (q6 i hi)) (fun i hi => (q3 i (Nat.lt_of_lt_of_le hi hn)).trans (hag i hi)) (Nat.le_trans hn q4) (fun q hq => Vok_mono q4 (hvl q hq)) (vs_c Vok_ref (fun v hv => by cases hv)) hS2 (by rw [mapl_ag q3 hvl]; exact hl)
  have hcat9 := vx_catch (p := p) (l := l) (e := e) (R := R) (s := s) (m := m) (args := args) (below := below) (meth := meth) (c := c) (H := T'.heap) (locs := locs ++ L) (cells := ce + rm2.cells) (slots := sl + rm2.slots) (Q := Q) (pc := pc) (ls := ls) (rest := st.map (phys ad)) (E := E) (ce := cel) (q := q) hown (tableOf pre) ⟨xh.1, xh.2.1, xh.2.2.1, xh.2.2.2⟩ (tableOf suf) (by
      have h1 : c.exceptionTable.toList = tableOf hh := htab
      rw [h1, hsplit]
      simp [tableOf]) (fun z hz => by
      obtain ⟨w, hw1, rfl⟩ := List.mem_map.mp hz
      obtain ⟨a1, nm, a2, a3⟩ := hpass w hw1
      exact Or.inr ⟨a1, nm, hts _ a2, a3 s hKK.1.2.2.2.2.2.2.2.2⟩) hcov h0 (hts _ hlink) (va_Nw.use rfl (hcast s hKK.1.2.2.2.2)) (by rw [e1]; exact hcell) hv hcl hkk
  obtain ⟨t2, a1, b1⟩ := hcat9 T' rfl X'
  exact ⟨t2, stp.trans a1, b1⟩
