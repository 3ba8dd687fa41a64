/-! ===== the law's own rows: the script, wrappers with a table, handlers ===== -/
def sc (xs : Nat → Int32) (L : Nat) (z : Int32) : Option Int32 := if inRb z L = true then some (xs z.toNatClampNeg) else none
def ScOK (C : JC) (b L : Nat) (xs : Nat → Int32) : Prop := match C with
  | (p, l, e, R, s, m, args, below, meth, c, H0, A, Q, nL0, G, ad0, n0) => va_X b L xs s H0 ∧ b < H0.size ∧ ¬ A b

theorem J_sld {C : JC} {x : Bool} {cc : ByteArray} {nL : Nat} {rm : Room} {rt : Option FieldType} {own : String} {res : Res} {ce sl : Nat} {M : Mem} {pc : Nat} {lv : List (Nat × Value)} {st : List Value} {β : Type} {r0 : β} {f : Int32 → Option β} {z : Int32} {b L : Nat} {xs : Nat → Int32} (hC : Ok C x cc nL rm rt own res) (hSc : ScOK C b L xs) (hdg : decode cc pc = .ok (.iaload, 1)) (h : (sc xs L z).bind f = some r0)
    (kk : ∀ v, sc xs L z = some v → f v = some r0 → J C ce sl M (pc + 1) lv (.int v :: st)) : J C ce sl M pc lv (.int z :: .ref b :: st) := by
  obtain ⟨v, hv, hf⟩ := bnd h
  have kk := kk v hv hf
  unfold sc at hv
  split at hv
  case isFalse => cases hv
  case isTrue hi =>
  cases hv
  obtain ⟨p, l, e, R, s, m, args, below, meth, c, H0, A, Q, nL0, G, ad0, n0⟩ := C
  obtain ⟨hx, hb, hml, hnl, hown, hts, hKK, hH0, hA, hlk, hrt, hR, hQ, hxt⟩ := hC
  intro ad H locs ls hW hAa hag hn hvl hvs hS hl
  exact va_sld hx hb hSc.1 hSc.2.1 hSc.2.2 hS (inRb_vp hi) hdg (kk ad H locs ls hW hAa hag hn hvl (vs_c Vok_int (vs_t (vs_t hvs))) hS hl)
theorem J_slen {C : JC} {x : Bool} {cc : ByteArray} {nL : Nat} {rm : Room} {rt : Option FieldType} {own : String} {res : Res} {ce sl : Nat} {M : Mem} {pc : Nat} {lv : List (Nat × Value)} {st : List Value} {b L : Nat} {xs : Nat → Int32} (hC : Ok C x cc nL rm rt own res) (hSc : ScOK C b L xs) (hdg : decode cc pc = .ok (.arraylength, 1))
    (kk : J C ce sl M (pc + 1) lv (.int (Int32.ofNat L) :: st)) : J C ce sl M pc lv (.ref b :: st) := by
  obtain ⟨p, l, e, R, s, m, args, below, meth, c, H0, A, Q, nL0, G, ad0, n0⟩ := C
  obtain ⟨hx, hb, hml, hnl, hown, hts, hKK, hH0, hA, hlk, hrt, hR, hQ, hxt⟩ := hC
  intro ad H locs ls hW hAa hag hn hvl hvs hS hl
  exact va_slen hx hb hSc.1 hSc.2.1 hSc.2.2 hS hdg (kk ad H locs ls hW hAa hag hn hvl (vs_c Vok_int (vs_t hvs)) hS hl)
theorem J_aloadQ_n {C : JC} {x : Bool} {cc : ByteArray} {nL : Nat} {rm : Room} {rt : Option FieldType} {own : String} {res : Res} {ce sl : Nat} {M : Mem} {pc : Nat} {lv : List (Nat × Value)} {st : List Value} {k : Fin 4} {j q : Nat} (hC : Ok C x cc nL rm rt own res) (hdg : decode cc pc = .ok (.aload_n k, 1)) (hlv : lv[j]? = some ((k : Nat), .ref q))
    (kk : J C ce sl M (pc + 1) lv (.ref q :: st)) : J C ce sl M pc lv st := by
  obtain ⟨p, l, e, R, s, m, args, below, meth, c, H0, A, Q, nL0, G, ad0, n0⟩ := C
  obtain ⟨hx, hb, hml, hnl, hown, hts, hKK, hH0, hA, hlk, hrt, hR, hQ, hxt⟩ := hC
  intro ad H locs ls hW hAa hag hn hvl hvs hS hl
  exact lv_aload_n hx hb hdg rfl (lv_at hl j (mp_at hlv)) (kk ad H locs ls hW hAa hag hn hvl (vs_c Vok_ref hvs) hS hl)
theorem J_astoreQ_n {C : JC} {x : Bool} {cc : ByteArray} {nL : Nat} {rm : Room} {rt : Option FieldType} {own : String} {res : Res} {ce sl : Nat} {M : Mem} {pc : Nat} {lv : List (Nat × Value)} {st : List Value} {k : Fin 4} {i q : Nat} (hk : (k : Nat) = i) {lv' : List (Nat × Value)} (hC : Ok C x cc nL rm rt own res) (hdg : decode cc pc = .ok (.astore_n k, 1)) (hi : i < nL) (hlv : (i, Value.ref q) :: lv.filter (fun q => !(q.1 == i) && !(q.1 + 1 == i && q.2.category == 2)) = lv')
    (kk : J C ce sl M (pc + 1) lv' st) : J C ce sl M pc lv (.ref q :: st) := by
  obtain ⟨p, l, e, R, s, m, args, below, meth, c, H0, A, Q, nL0, G, ad0, n0⟩ := C
  obtain ⟨hx, hb, hml, hnl, hown, hts, hKK, hH0, hA, hlk, hrt, hR, hQ, hxt⟩ := hC
  intro ad H locs ls hW hAa hag hn hvl hvs hS hl
  subst hnl
  have kk := fun ls hl => kk ad H locs ls hW hAa hag hn (vl_st hlv (vs_h hvs) hvl) (vs_t hvs) hS hl
  have h9 := mp_st1 (ad := ad) hlv
  exact lv_astore_n hx hb hdg hk hl hi h9 kk
theorem J_astoreQ {C : JC} {x : Bool} {cc : ByteArray} {nL : Nat} {rm : Room} {rt : Option FieldType} {own : String} {res : Res} {ce sl : Nat} {M : Mem} {pc : Nat} {lv : List (Nat × Value)} {st : List Value} {i q : Nat} {lv' : List (Nat × Value)} (hC : Ok C x cc nL rm rt own res) (hdg : decode cc pc = .ok (.astore i, 2)) (hi : i < nL) (hlv : (i, Value.ref q) :: lv.filter (fun q => !(q.1 == i) && !(q.1 + 1 == i && q.2.category == 2)) = lv')
    (kk : J C ce sl M (pc + 2) lv' st) : J C ce sl M pc lv (.ref q :: st) := by
  obtain ⟨p, l, e, R, s, m, args, below, meth, c, H0, A, Q, nL0, G, ad0, n0⟩ := C
  obtain ⟨hx, hb, hml, hnl, hown, hts, hKK, hH0, hA, hlk, hrt, hR, hQ, hxt⟩ := hC
  intro ad H locs ls hW hAa hag hn hvl hvs hS hl
  subst hnl
  have kk := fun ls hl => kk ad H locs ls hW hAa hag hn (vl_st hlv (vs_h hvs) hvl) (vs_t hvs) hS hl
  have h9 := mp_st1 (ad := ad) hlv
  exact lv_astore hx hb hdg hl hi h9 kk
theorem J_widen {C : JC} {ce sl k n : Nat} {M : Mem} {pc : Nat} {lv : List (Nat × Value)} {st : List Value} (h1 : ce ≤ k) (h2 : sl ≤ n) (kk : J C k n M pc lv st) : J C ce sl M pc lv st := by
  obtain ⟨p, l, e, R, s, m, args, below, meth, c, H0, A, Q, nL0, G, ad0, n0⟩ := C
  intro ad H locs ls hW hAa hag hn hvl hvs hS hl
  exact W.widen h1 h2 (kk ad H locs ls hW hAa hag hn hvl hvs hS hl)
/-- a method that reads the script -/
def PreSc (b L : Nat) (xs : Nat → Int32) (G : Geo) (ad : Nat → Nat) (sz : Nat) (As : List Value) (M : Mem) : Array Value → State → Prop := va_Pc (As.map (phys ad)) (fun U => (U.heap.size = sz ∧ Wd G ad M U.heap ∧ KK G (Aset ad M.1 sz) U U.heap ∧ ∀ v ∈ As, Vok M.1 v) ∧ va_X b L xs U U.heap ∧ b < sz ∧ ¬ Aset ad M.1 sz b)
def ConS (b L : Nat) (xs : Nat → Int32) (l : Launch) (y : MethodName) (cc : ByteArray) (maxL : Nat) (ret : Option FieldType) (rm : Room) (As : List Value) (M : Mem) (res : Res) : Prop := ∀ (G : Geo) (ad : Nat → Nat) (sz : Nat),
  Met l y (.code y cc maxL ret :: BIG) rm (PreSc b L xs G ad sz As M) (Qret G ad M.1 (Aset ad M.1 sz) res) rm.cells rm.slots (Aset ad M.1 sz)
theorem PreSc_blind {b L : Nat} {xs : Nat → Int32} {G : Geo} {ad : Nat → Nat} {sz : Nat} {As : List Value} {M : Mem} : FrameBlind (PreSc b L xs G ad sz As M) := fun a U g mk q => by
  obtain ⟨q0, ⟨q1, q2, q3, q4⟩, q5, q6, q7⟩ := q
  exact ⟨q0, ⟨q1, q2, KK.warm (U := U.calling g mk a) (State.WarmedH.refl U) q3, q4⟩, va_X.moved (U := U.calling g mk a) (State.WarmedH.refl U).alike q5, q6, q7⟩
theorem PreSc_of {b L : Nat} {xs : Nat → Int32} {G : Geo} {ad : Nat → Nat} {M : Mem} {A : Nat → Prop} {s : State} {H : Heap} {locs : List Loc} {As : List Value} (hX : va_X b L xs s s.heap) (hb : b < s.heap.size) (hbA : ¬ A b) (hW : Wd G ad M H) (hAa : ∀ i, i < M.1 → A (ad i)) (hA : ∀ q, s.heap.size ≤ q → A q) (hKK : KK G A s s.heap) (hS : va_S A s.heap H locs) (hv : ∀ v ∈ As, Vok M.1 v) : ∀ U : State, U.heap = H → s.WarmedH U.vm → PreSc b L xs G ad H.size As M (As.map (phys ad)).toArray U := fun U hU hWm =>
  ⟨rfl, ⟨by rw [hU], by rw [hU]; exact hW, by rw [hU]; exact KK.warm hWm ((hKK.kept (H1 := H) (fun q h1 h2 => hS.2.1 q h1 h2)).narrow (Aset_sub hAa hA hS.1)), hv⟩, by rw [hU]; exact va_X.moved hWm.alike (hX.kept (hS.2.1 b hb hbA)), Nat.lt_of_lt_of_le hb hS.1, fun q => hbA (Aset_sub hAa hA hS.1 b q)⟩
theorem ConS.enter {b L : Nat} {xs : Nat → Int32} {l : Launch} (hst : l.stackTraces = false) {y : MethodName} {cc : ByteArray} {maxL : Nat} {ret : Option FieldType} {rm : Room} {As : List Value} {M : Mem} {res : Res} {own : String} (hy : plainName y.cls = true) (ho : y.cls = own) (hlen : (lg_sl As).length ≤ maxL) {lv0 : List (Nat × Value)} (hlv : lv_args 0 As = lv0)
    (k : ∀ C : JC, Ok C false cc maxL rm ret own res → ScOK C b L xs → J C 0 0 M 0 lv0 []) : ConS b L xs l y cc maxL ret rm As M res := by
  intro G ad sz
  refine Met.ofW (cc := cc) (maxL := maxL) (ret := ret) hy rfl ?_
  intro p e s m args below meth c s₁ B hml hv
  obtain ⟨rfl, ⟨hsz, hW, hKK, hVok⟩, hX, hbl, hbA⟩ := hv
  subst hsz
  have hts := atoms_spec (ws := .code y cc maxL ret :: BIG) B.pre
  have hown : s.vm.findClass y.cls = some m.cls := findClass_of_methodNamed B.named
  have hl := lv_entry (As.map (phys ad)) (n := maxL) (by rw [lg_sl_len]; exact hlen)
  rw [lg_entry_eq]
  generalize (lg_sl (As.map (phys ad)) ++ List.replicate (maxL - (lg_sl (As.map (phys ad))).length) Slot.unset).toArray = ls at hl ⊢
  rw [lv_args_phys, hlv] at hl
  exact k (p, l, e, (headSpec (.code y cc maxL ret :: BIG) rm).room, s, m, (As.map (phys ad)).toArray, below, meth, c, s.heap, Aset ad M.1 s.heap.size, MQ below (Qret G ad M.1 (Aset ad M.1 s.heap.size) res) (As.map (phys ad)).toArray s rm.cells rm.slots (Aset ad M.1 s.heap.size), maxL, G, ad, M.1)
    ⟨B.exec, B.bytes, hml, rfl, ho ▸ hown, fun w hw => hts w (List.mem_cons_of_mem _ hw), hKK, rfl, fun q h => Or.inr h, B.notSynchronized, B.returns, rfl, rfl, (fun h => by cases h), hst⟩ ⟨hX, hbl, hbA⟩
    ad s.heap [] ls hW (fun i hi => Or.inl ⟨i, hi, rfl⟩) (fun _ _ => rfl) (Nat.le_refl _) (hlv ▸ vl_args As hVok 0) (fun v hv => by cases hv) va_S.rf hl
theorem J_callSc {C : JC} {x : Bool} {cc : ByteArray} {nL : Nat} {rm : Room} {rt : Option FieldType} {own : String} {res : Res} {ce sl : Nat} {M : Mem} {pc : Nat} {lv : List (Nat × Value)} {st : List Value} {y : MethodName} {cc2 : ByteArray} {maxL2 index : Nat} {ret2 : Option FieldType} {rm2 : Room} {As : List Value} {M' : Mem} {rv : Option Value} {stk : List Value} {n : Nat} {b L : Nat} {xs : Nat → Int32} (hC : Ok C x cc nL rm rt own res) (hSc : ScOK C b L xs) (hcon : ∀ l, l.stackTraces = false → ConS b L xs l y cc2 maxL2 ret2 rm2 As M (M', .inr rv)) (hm : SMok y cc2 maxL2 ret2 n) (hw : Cond.methodLink own index y ∈ BIG) (hn9 : As.length = n) (hf : rm2.frames + 1 ≤ rm.frames ∧ 8 + (maxL2 + 11) + rm2.locals ≤ rm.locals) (hcat : (st.map fun v => v.category).sum ≤ 8) (hce : ce + rm2.cells ≤ rm.cells ∧ sl + rm2.slots ≤ rm.slots)
    (hdg : decode cc pc = .ok (.invokestatic index, 3)) (hstk : stk = As.reverse ++ st) (kk : J C (ce + rm2.cells) (sl + rm2.slots) M' (pc + 3) lv (rv.toList ++ st)) : J C ce sl M pc lv stk := by
  subst hstk
  obtain ⟨m1, m2, m3, m4⟩ := hm
  obtain ⟨p, l, e, R, s, m, args, below, meth, c, H0, A, Q, nL0, G, ad0, n0⟩ := C
  obtain ⟨hx, hb, hml, hnl, hown, hts, hKK, hH0, hA, hlk, hrt, hR, hQ, hxt⟩ := hC
  intro ad H locs ls hW hAa hag hn hvl hvs hS hl
  obtain ⟨hX9, hb9, hA9⟩ := hSc
  subst hH0
  have hH0 : s.heap = s.heap := rfl
  subst hR
  subst hnl
  have hvs2 := vs_arr hvs
  refine W_call (M := M) (M' := M') (rv := rv) (va_runS (cc := cc) (nL := nL0) (Ts := BIG) (own := own) (As := As.map (phys ad)) (rest := st.map (phys ad)) ⟨hx, hb, hml, hown, hts⟩ (hcon l hxt.2 G ad H.size) (va_cwS n hts (big_inB (fun w hw9 => by
      rcases List.mem_append.mp hw9 with h | h
      · simp only [List.mem_cons, List.not_mem_nil, or_false] at h
        rcases h with h | h | h <;> subst h
        · exact hw
        · exact m2
        · exact m3
      · exact big_cons m1 w h)) rfl rfl rfl m4 hf) ⟨PreSc_blind, PreSc_of hX9 hb9 hA9 hW hAa hA hKK hS hvs2.1⟩ rfl (by rw [List.length_map]; exact hn9) hl.1 (by show List.map (phys ad) _ = _; rw [List.map_append, List.map_reverse]) (by show 0 + _ ≤ 8; rw [Nat.zero_add, cat_map]; exact hcat) hdg hce) hAa (by rw [hH0]; exact hA) hS (fun ad' H1 locs1 g1 g2 g3 g4 g5 g6 => ?_)
  have k2 := kk ad' H1 locs1 ls g3 g4 (fun i hi => (g1 i (Nat.lt_of_lt_of_le hi hn)).trans (hag i hi)) (Nat.le_trans hn g2) (fun q hq => Vok_mono g2 (hvl q hq)) (vs_ret g5 (fun v hv => Vok_mono g2 (hvs2.2 v hv))) g6 (by rw [mapl_ag g1 hvl]; exact hl)
  rw [← ret_map, map_ag g1 hvs2.2] at k2
  exact k2
