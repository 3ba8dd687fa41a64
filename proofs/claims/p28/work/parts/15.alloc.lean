/-! ===== what is made ===== -/
def up1 {α : Type} (f : Nat → α) (k : Nat) (v : α) : Nat → α := fun j => if j = k then v else f j
def al (M : Mem) : Mem := (M.1 + 1, up1 (mI M) M.1 (fun _ => 0), up1 (mJ M) M.1 (fun _ => 0), up1 (mR M) M.1 (fun _ => none), up1 (mD M) M.1 (fun _ => 0))
def nwO (ci : Nat) (M : Mem) : Option Mem := if kd M.1 = ci then some (al M) else none
def nwA (kk : Nat) (M : Mem) (n : Int32) : Option Mem := if kd M.1 = kk ∧ ¬ n < 0 ∧ ln M.1 = n.toNatClampNeg then some (al M) else none
/-- an int[5][9] -/
def al6 (M : Mem) : Mem := (M.1 + 6, (fun a => if M.1 ≤ a ∧ a < M.1 + 6 then fun _ => 0 else mI M a), (fun a => if M.1 ≤ a ∧ a < M.1 + 6 then fun _ => 0 else mJ M a), (fun a => if a = M.1 then fun k => if k < 5 then some (M.1 + 1 + k) else none else if M.1 ≤ a ∧ a < M.1 + 6 then fun _ => none else mR M a), (fun a => if M.1 ≤ a ∧ a < M.1 + 6 then fun _ => 0 else mD M a))
def nwG (M : Mem) : Option Mem := if kd M.1 = 9 ∧ ln M.1 = 5 ∧ (List.range 5).all (fun k => kd (M.1 + 1 + k) == 4 && ln (M.1 + 1 + k) == 9) = true then some (al6 M) else none
theorem re_ag {ad ad' : Nat → Nat} {r : Option Nat} (h : ∀ j, r = some j → ad' j = ad j) : re ad' r = re ad r := by
  cases r with
  | none => rfl
  | some j => exact congrArg (fun x => va_rf (some x)) (h j rfl)
theorem map_agr {ad ad' : Nat → Nat} {r : Option Nat} (h : ∀ j, r = some j → ad' j = ad j) : r.map ad' = r.map ad := by
  cases r with
  | none => rfl
  | some j => exact congrArg some (h j rfl)
theorem ent_ag {G : Geo} {ad ad' : Nat → Nat} {M M2 : Mem} {i : Nat} (eI : mI M2 i = mI M i) (eJ : mJ M2 i = mJ M i) (eR : mR M2 i = mR M i) (eD : mD M2 i = mD M i) (h : ∀ k j, mR M i k = some j → ad' j = ad j) : ent G ad' M2 i = ent G ad M i := by
  have e1 : ∀ k, re ad' (mR M i k) = re ad (mR M i k) := fun k => re_ag (h k)
  have e2 : (fun k => (mR M i k).map ad') = fun k => (mR M i k).map ad := funext fun k => map_agr (h k)
  simp only [ent, eI, eJ, eR, eD, e1, e2]
theorem wd_al {G : Geo} {ad : Nat → Nat} {M : Mem} {H H1 : Heap} {A : Nat → Prop} {q : Nat} {x : va_E} (hW : Wd G ad M H) (hP1 : va_P G.1 vwCl (pool G ad M ++ [(q, x)]) H1) (hD1 : va_D A (pool G ad M ++ [(q, x)])) (hx : ent G (va_up ad M.1 q) (al M) M.1 = x) :
    Wd G (va_up ad M.1 q) (al M) H1 ∧ (∀ i, i < (al M).1 → A (va_up ad M.1 q i)) ∧ ∀ i, i < M.1 → va_up ad M.1 q i = ad i := by
  have hag : ∀ i, i < M.1 → va_up ad M.1 q i = ad i := fun i hi => va_up_ne _ _ (Nat.ne_of_lt hi)
  have e : pool G (va_up ad M.1 q) (al M) = pool G ad M ++ [(q, x)] := by
    show (List.range (M.1 + 1)).map _ = _
    rw [List.range_succ, List.map_append]
    congr 1
    · refine List.map_congr_left fun i hi => ?_
      have hi := List.mem_range.mp hi
      have hne : i ≠ M.1 := Nat.ne_of_lt hi
      rw [hag i hi, ent_ag (M2 := al M) (M := M) (ad := ad) (if_neg hne) (if_neg hne) (if_neg hne) (if_neg hne) (fun k j e => hag j (hW.2.2 i k j hi e))]
    · simp only [List.map_cons, List.map_nil, hx, va_up_self]
  have hl : (pool G ad M).length = M.1 := by simp [pool]
  have hA : ∀ i, i < M.1 + 1 → A (va_up ad M.1 q i) := fun i hi => by
    have := hD1.2 i (va_up ad M.1 q i, ent G (va_up ad M.1 q) (al M) i) (by rw [← e]; exact pool_at hi)
    exact this
  refine ⟨⟨by rw [e]; exact hP1, fun i j hi hj hij => ?_, fun i k j hi hr => ?_⟩, hA, hag⟩
  · exact hD1.1 i j _ _ (by rw [← e]; exact pool_at hi) (by rw [← e]; exact pool_at hj) hij
  · by_cases h : i = M.1
    · have hr2 : up1 (mR M) M.1 (fun _ => none) i k = some j := hr
      simp [up1, h] at hr2
    · have hr2 : up1 (mR M) M.1 (fun _ => none) i k = some j := hr
      simp only [up1, h, if_false] at hr2
      exact Nat.lt_succ_of_lt (hW.2.2 i k j (by have : i < M.1 + 1 := hi; omega) hr2)
theorem K_same {G : Geo} {s : State} {cA : ClassId} {ty : FieldType} {t0 : Nat} {c0 : ClassId} (hK : va_K G.1 vwCl (tysOf G ++ [(cA, ty)]) s) (h0 : t0 < 6) (h1 : (tysOf G)[t0]? = some (c0, ty)) : cA = c0 := by
  have a := (hK.2 6 (cA, ty) rfl).2
  have b := (hK.2 t0 (c0, ty) (by rw [List.getElem?_append_left (by simpa using h0)]; exact h1)).2
  have key : ∀ c, va_RA s c ty → s.vm.findClass ("[" ++ ty.toString) = some c := by
    intro c h
    cases ty <;> first | exact h | (obtain ⟨_, _, _, _, _, h4⟩ := h; exact h4)
  exact Option.some.inj ((key _ a).symm.trans (key _ b))
theorem w_inst0 : Cond.instantiable RX0 6 ∈ BIG := by decide +kernel
theorem w_ini0 : Cond.initialized RX0 ∈ BIG := by decide +kernel
theorem w_inst1 : Cond.instantiable RX1 5 ∈ BIG := by decide +kernel
theorem w_ini1 : Cond.initialized RX1 ∈ BIG := by decide +kernel
theorem w_inst2 : Cond.instantiable RX2 10 ∈ BIG := by decide +kernel
theorem w_ini2 : Cond.initialized RX2 ∈ BIG := by decide +kernel
theorem w_inst11 : Cond.instantiable RXT 1 ∈ BIG := by decide +kernel
theorem w_ini11 : Cond.initialized RXT ∈ BIG := by decide +kernel
theorem w_arr4 : Cond.arrayClass (newarray.typeOf .int) ∈ BIG := by decide +kernel
theorem w_arr5 : Cond.arrayClass (newarray.typeOf .long) ∈ BIG := by decide +kernel
theorem w_arr6 : Cond.arrayClass (newarray.typeOf .boolean) ∈ BIG := by decide +kernel
theorem J_new0 {C : JC} {x : Bool} {cc : ByteArray} {nL : Nat} {rm : Room} {rt : Option FieldType} {own : String} {res : Res} {ce sl : Nat} {M : Mem} {pc : Nat} {lv : List (Nat × Value)} {st : List Value} {β : Type} {r0 : β} {f : Mem → Option β} {index : Nat} (hC : Ok C x cc nL rm rt own res) (hw : Cond.classLink own index RX0 ∈ BIG) (hce : ce + 1 ≤ rm.cells) (hsl : sl + 6 ≤ rm.slots) (hdg : decode cc pc = .ok (.new index, 3)) (h : (nwO 0 M).bind f = some r0)
    (kk : ∀ M', nwO 0 M = some M' → f M' = some r0 → J C (ce + 1) (sl + 6) M' (pc + 3) lv (rf (some M.1) :: st)) : J C ce sl M pc lv st := by
  obtain ⟨M', hv, hf⟩ := bnd h
  have kk := kk M' hv hf
  unfold nwO at hv
  split at hv
  case isFalse => cases hv
  case isTrue hi =>
  cases hv
  obtain ⟨p, l, e, R, s, m, args, below, meth, c, H0, A, Q, nL0, G, ad0, n0⟩ := C
  obtain ⟨hx, hb, hml, hnl, hown, hts, hKK, hH0, hA, hlk, hrt, hR, hQ, hxt⟩ := hC
  intro ad H locs ls hW hAa hag hn hvl hvs hS hl
  subst hR
  refine va_new (D := G.1) (ci := 0) (C := RX0) (T := TX0) (N := 6) (fs := [.null, .null, .null, .int 0, .int 0, .int 0]) hx hb hts inB0 tyX0 tyX0_ok hown (hts _ hw) (hts _ w_inst0) (hts _ w_ini0) hKK.1.1 hW.1 (pool_D hW hAa) hS (by rw [hH0]; exact hA) rfl (by decide +kernel) hce hsl hdg (fun q H1 hP1 hD1 hS1 => ?_)
  obtain ⟨w1, w2, w3⟩ := wd_al hW hP1 hD1 (by rw [ent_0 hi]; simp [al, mI, mJ, mR, up1, re, va_rf])
  have k2 := kk (va_up ad M.1 q) H1 locs ls w1 w2 (fun i hi => (w3 i (Nat.lt_of_lt_of_le hi hn)).trans (hag i hi)) (Nat.le_succ_of_le hn) (fun q hq => Vok_mono (Nat.le_succ _) (hvl q hq)) (vs_c (fun i e => by cases e; exact Nat.lt_succ_self _) (fun v hv => Vok_mono (Nat.le_succ _) (hvs v hv))) hS1 (by rw [mapl_ag w3 hvl]; exact hl)
  rw [List.map_cons, map_ag w3 hvs] at k2
  have e9 : phys (va_up ad M.1 q) (rf (some M.1)) = .ref q := congrArg Value.ref (va_up_self _ _ _)
  rw [e9] at k2
  exact k2
theorem J_new1 {C : JC} {x : Bool} {cc : ByteArray} {nL : Nat} {rm : Room} {rt : Option FieldType} {own : String} {res : Res} {ce sl : Nat} {M : Mem} {pc : Nat} {lv : List (Nat × Value)} {st : List Value} {β : Type} {r0 : β} {f : Mem → Option β} {index : Nat} (hC : Ok C x cc nL rm rt own res) (hw : Cond.classLink own index RX1 ∈ BIG) (hce : ce + 1 ≤ rm.cells) (hsl : sl + 5 ≤ rm.slots) (hdg : decode cc pc = .ok (.new index, 3)) (h : (nwO 1 M).bind f = some r0)
    (kk : ∀ M', nwO 1 M = some M' → f M' = some r0 → J C (ce + 1) (sl + 5) M' (pc + 3) lv (rf (some M.1) :: st)) : J C ce sl M pc lv st := by
  obtain ⟨M', hv, hf⟩ := bnd h
  have kk := kk M' hv hf
  unfold nwO at hv
  split at hv
  case isFalse => cases hv
  case isTrue hi =>
  cases hv
  obtain ⟨p, l, e, R, s, m, args, below, meth, c, H0, A, Q, nL0, G, ad0, n0⟩ := C
  obtain ⟨hx, hb, hml, hnl, hown, hts, hKK, hH0, hA, hlk, hrt, hR, hQ, hxt⟩ := hC
  intro ad H locs ls hW hAa hag hn hvl hvs hS hl
  subst hR
  refine va_new (D := G.1) (ci := 1) (C := RX1) (T := TX1) (N := 5) (fs := [.null, .null, .int 0, .int 0, .int 0]) hx hb hts inB1 tyX1 tyX1_ok hown (hts _ hw) (hts _ w_inst1) (hts _ w_ini1) hKK.1.1 hW.1 (pool_D hW hAa) hS (by rw [hH0]; exact hA) rfl (by decide +kernel) hce hsl hdg (fun q H1 hP1 hD1 hS1 => ?_)
  obtain ⟨w1, w2, w3⟩ := wd_al hW hP1 hD1 (by rw [ent_1 hi]; simp [al, mI, mJ, mR, up1, re, va_rf])
  have k2 := kk (va_up ad M.1 q) H1 locs ls w1 w2 (fun i hi => (w3 i (Nat.lt_of_lt_of_le hi hn)).trans (hag i hi)) (Nat.le_succ_of_le hn) (fun q hq => Vok_mono (Nat.le_succ _) (hvl q hq)) (vs_c (fun i e => by cases e; exact Nat.lt_succ_self _) (fun v hv => Vok_mono (Nat.le_succ _) (hvs v hv))) hS1 (by rw [mapl_ag w3 hvl]; exact hl)
  rw [List.map_cons, map_ag w3 hvs] at k2
  have e9 : phys (va_up ad M.1 q) (rf (some M.1)) = .ref q := congrArg Value.ref (va_up_self _ _ _)
  rw [e9] at k2
  exact k2
theorem J_new2 {C : JC} {x : Bool} {cc : ByteArray} {nL : Nat} {rm : Room} {rt : Option FieldType} {own : String} {res : Res} {ce sl : Nat} {M : Mem} {pc : Nat} {lv : List (Nat × Value)} {st : List Value} {β : Type} {r0 : β} {f : Mem → Option β} {index : Nat} (hC : Ok C x cc nL rm rt own res) (hw : Cond.classLink own index RX2 ∈ BIG) (hce : ce + 1 ≤ rm.cells) (hsl : sl + 10 ≤ rm.slots) (hdg : decode cc pc = .ok (.new index, 3)) (h : (nwO 2 M).bind f = some r0)
    (kk : ∀ M', nwO 2 M = some M' → f M' = some r0 → J C (ce + 1) (sl + 10) M' (pc + 3) lv (rf (some M.1) :: st)) : J C ce sl M pc lv st := by
  obtain ⟨M', hv, hf⟩ := bnd h
  have kk := kk M' hv hf
  unfold nwO at hv
  split at hv
  case isFalse => cases hv
  case isTrue hi =>
  cases hv
  obtain ⟨p, l, e, R, s, m, args, below, meth, c, H0, A, Q, nL0, G, ad0, n0⟩ := C
  obtain ⟨hx, hb, hml, hnl, hown, hts, hKK, hH0, hA, hlk, hrt, hR, hQ, hxt⟩ := hC
  intro ad H locs ls hW hAa hag hn hvl hvs hS hl
  subst hR
  refine va_new (D := G.1) (ci := 2) (C := RX2) (T := TX2) (N := 10) (fs := [.null, .null, .int 0, .null, .null, .null, .int 0, .null, .null, .null]) hx hb hts inB2 tyX2 tyX2_ok hown (hts _ hw) (hts _ w_inst2) (hts _ w_ini2) hKK.1.1 hW.1 (pool_D hW hAa) hS (by rw [hH0]; exact hA) rfl (by decide +kernel) hce hsl hdg (fun q H1 hP1 hD1 hS1 => ?_)
  obtain ⟨w1, w2, w3⟩ := wd_al hW hP1 hD1 (by rw [ent_2 hi]; simp [al, mI, mJ, mR, up1, re, va_rf])
  have k2 := kk (va_up ad M.1 q) H1 locs ls w1 w2 (fun i hi => (w3 i (Nat.lt_of_lt_of_le hi hn)).trans (hag i hi)) (Nat.le_succ_of_le hn) (fun q hq => Vok_mono (Nat.le_succ _) (hvl q hq)) (vs_c (fun i e => by cases e; exact Nat.lt_succ_self _) (fun v hv => Vok_mono (Nat.le_succ _) (hvs v hv))) hS1 (by rw [mapl_ag w3 hvl]; exact hl)
  rw [List.map_cons, map_ag w3 hvs] at k2
  have e9 : phys (va_up ad M.1 q) (rf (some M.1)) = .ref q := congrArg Value.ref (va_up_self _ _ _)
  rw [e9] at k2
  exact k2
theorem J_new11 {C : JC} {x : Bool} {cc : ByteArray} {nL : Nat} {rm : Room} {rt : Option FieldType} {own : String} {res : Res} {ce sl : Nat} {M : Mem} {pc : Nat} {lv : List (Nat × Value)} {st : List Value} {β : Type} {r0 : β} {f : Mem → Option β} {index : Nat} (hC : Ok C x cc nL rm rt own res) (hw : Cond.classLink own index RXT ∈ BIG) (hce : ce + 1 ≤ rm.cells) (hsl : sl + 1 ≤ rm.slots) (hdg : decode cc pc = .ok (.new index, 3)) (h : (nwO 11 M).bind f = some r0)
    (kk : ∀ M', nwO 11 M = some M' → f M' = some r0 → J C (ce + 1) (sl + 1) M' (pc + 3) lv (rf (some M.1) :: st)) : J C ce sl M pc lv st := by
  obtain ⟨M', hv, hf⟩ := bnd h
  have kk := kk M' hv hf
  unfold nwO at hv
  split at hv
  case isFalse => cases hv
  case isTrue hi =>
  cases hv
  obtain ⟨p, l, e, R, s, m, args, below, meth, c, H0, A, Q, nL0, G, ad0, n0⟩ := C
  obtain ⟨hx, hb, hml, hnl, hown, hts, hKK, hH0, hA, hlk, hrt, hR, hQ, hxt⟩ := hC
  intro ad H locs ls hW hAa hag hn hvl hvs hS hl
  subst hR
  refine va_new (D := G.1) (ci := 3) (C := RXT) (T := TXT) (N := 1) (fs := [.null]) hx hb hts inB11 tyXT tyXT_ok hown (hts _ hw) (hts _ w_inst11) (hts _ w_ini11) hKK.1.1 hW.1 (pool_D hW hAa) hS (by rw [hH0]; exact hA) rfl (by decide +kernel) hce hsl hdg (fun q H1 hP1 hD1 hS1 => ?_)
  obtain ⟨w1, w2, w3⟩ := wd_al hW hP1 hD1 (by rw [ent_11 hi]; simp [al, mI, mJ, mR, up1, re, va_rf])
  have k2 := kk (va_up ad M.1 q) H1 locs ls w1 w2 (fun i hi => (w3 i (Nat.lt_of_lt_of_le hi hn)).trans (hag i hi)) (Nat.le_succ_of_le hn) (fun q hq => Vok_mono (Nat.le_succ _) (hvl q hq)) (vs_c (fun i e => by cases e; exact Nat.lt_succ_self _) (fun v hv => Vok_mono (Nat.le_succ _) (hvs v hv))) hS1 (by rw [mapl_ag w3 hvl]; exact hl)
  rw [List.map_cons, map_ag w3 hvs] at k2
  have e9 : phys (va_up ad M.1 q) (rf (some M.1)) = .ref q := congrArg Value.ref (va_up_self _ _ _)
  rw [e9] at k2
  exact k2
theorem J_newa4 {C : JC} {x : Bool} {cc : ByteArray} {nL : Nat} {rm : Room} {rt : Option FieldType} {own : String} {res : Res} {ce sl : Nat} {M : Mem} {pc : Nat} {lv : List (Nat × Value)} {st : List Value} {β : Type} {r0 : β} {f : Mem → Option β} {n : Int32} {n' : Nat} (hC : Ok C x cc nL rm rt own res) (hn9 : n.toNatClampNeg = n') (hby : n' * componentBytes .int ≤ 536870912) (hce : ce + 1 ≤ rm.cells) (hsl : sl + n' ≤ rm.slots) (hdg : decode cc pc = .ok (.newarray .int, 2)) (h : (nwA 4 M n).bind f = some r0)
    (kk : ∀ M', nwA 4 M n = some M' → f M' = some r0 → J C (ce + 1) (sl + n') M' (pc + 2) lv (rf (some M.1) :: st)) : J C ce sl M pc lv (.int n :: st) := by
  obtain ⟨M', hv, hf⟩ := bnd h
  have kk := kk M' hv hf
  unfold nwA at hv
  split at hv
  case isFalse => cases hv
  case isTrue hi =>
  cases hv
  obtain ⟨p, l, e, R, s, m, args, below, meth, c, H0, A, Q, nL0, G, ad0, n0⟩ := C
  obtain ⟨hx, hb, hml, hnl, hown, hts, hKK, hH0, hA, hlk, hrt, hR, hQ, hxt⟩ := hC
  intro ad H locs ls hW hAa hag hn hvl hvs hS hl
  subst hR
  refine va_newa (atype := .int) (a0 := (n', .inl (fun _ => 0))) hx hb (hts _ w_arr4) rfl hKK.1.1 hW.1 (pool_D hW hAa) hS (by rw [hH0]; exact hA) (fun cA => by rw [vp_cell_i]; rfl) hi.2.1 hn9 hby hce hsl hdg (fun q cA H1 hK1 hP1 hD1 hS1 => ?_)
  have ec := K_same hK1 (t0 := 0) (by decide) rfl
  subst ec
  obtain ⟨w1, w2, w3⟩ := wd_al hW hP1 hD1 (by rw [ent_4 hi.1, hi.2.2, hn9]; simp [al, mI, mJ, mR, mD, up1])
  have k2 := kk (va_up ad M.1 q) H1 locs ls w1 w2 (fun i hi => (w3 i (Nat.lt_of_lt_of_le hi hn)).trans (hag i hi)) (Nat.le_succ_of_le hn) (fun q hq => Vok_mono (Nat.le_succ _) (hvl q hq)) (vs_c (fun i e => by cases e; exact Nat.lt_succ_self _) (fun v hv => Vok_mono (Nat.le_succ _) ((vs_t hvs) v hv))) hS1 (by rw [mapl_ag w3 hvl]; exact hl)
  rw [List.map_cons, map_ag w3 (vs_t hvs)] at k2
  have e9 : phys (va_up ad M.1 q) (rf (some M.1)) = .ref q := congrArg Value.ref (va_up_self _ _ _)
  rw [e9] at k2
  exact k2
theorem J_newa5 {C : JC} {x : Bool} {cc : ByteArray} {nL : Nat} {rm : Room} {rt : Option FieldType} {own : String} {res : Res} {ce sl : Nat} {M : Mem} {pc : Nat} {lv : List (Nat × Value)} {st : List Value} {β : Type} {r0 : β} {f : Mem → Option β} {n : Int32} {n' : Nat} (hC : Ok C x cc nL rm rt own res) (hn9 : n.toNatClampNeg = n') (hby : n' * componentBytes .long ≤ 536870912) (hce : ce + 1 ≤ rm.cells) (hsl : sl + n' ≤ rm.slots) (hdg : decode cc pc = .ok (.newarray .long, 2)) (h : (nwA 5 M n).bind f = some r0)
    (kk : ∀ M', nwA 5 M n = some M' → f M' = some r0 → J C (ce + 1) (sl + n') M' (pc + 2) lv (rf (some M.1) :: st)) : J C ce sl M pc lv (.int n :: st) := by
  obtain ⟨M', hv, hf⟩ := bnd h
  have kk := kk M' hv hf
  unfold nwA at hv
  split at hv
  case isFalse => cases hv
  case isTrue hi =>
  cases hv
  obtain ⟨p, l, e, R, s, m, args, below, meth, c, H0, A, Q, nL0, G, ad0, n0⟩ := C
  obtain ⟨hx, hb, hml, hnl, hown, hts, hKK, hH0, hA, hlk, hrt, hR, hQ, hxt⟩ := hC
  intro ad H locs ls hW hAa hag hn hvl hvs hS hl
  subst hR
  refine va_newa (atype := .long) (a0 := (n', .inr (.inl (fun _ => 0)))) hx hb (hts _ w_arr5) rfl hKK.1.1 hW.1 (pool_D hW hAa) hS (by rw [hH0]; exact hA) (fun cA => by rw [vp_cell_l]; rfl) hi.2.1 hn9 hby hce hsl hdg (fun q cA H1 hK1 hP1 hD1 hS1 => ?_)
  have ec := K_same hK1 (t0 := 1) (by decide) rfl
  subst ec
  obtain ⟨w1, w2, w3⟩ := wd_al hW hP1 hD1 (by rw [ent_5 hi.1, hi.2.2, hn9]; simp [al, mI, mJ, mR, mD, up1])
  have k2 := kk (va_up ad M.1 q) H1 locs ls w1 w2 (fun i hi => (w3 i (Nat.lt_of_lt_of_le hi hn)).trans (hag i hi)) (Nat.le_succ_of_le hn) (fun q hq => Vok_mono (Nat.le_succ _) (hvl q hq)) (vs_c (fun i e => by cases e; exact Nat.lt_succ_self _) (fun v hv => Vok_mono (Nat.le_succ _) ((vs_t hvs) v hv))) hS1 (by rw [mapl_ag w3 hvl]; exact hl)
  rw [List.map_cons, map_ag w3 (vs_t hvs)] at k2
  have e9 : phys (va_up ad M.1 q) (rf (some M.1)) = .ref q := congrArg Value.ref (va_up_self _ _ _)
  rw [e9] at k2
  exact k2
theorem J_newa6 {C : JC} {x : Bool} {cc : ByteArray} {nL : Nat} {rm : Room} {rt : Option FieldType} {own : String} {res : Res} {ce sl : Nat} {M : Mem} {pc : Nat} {lv : List (Nat × Value)} {st : List Value} {β : Type} {r0 : β} {f : Mem → Option β} {n : Int32} {n' : Nat} (hC : Ok C x cc nL rm rt own res) (hn9 : n.toNatClampNeg = n') (hby : n' * componentBytes .boolean ≤ 536870912) (hce : ce + 1 ≤ rm.cells) (hsl : sl + n' ≤ rm.slots) (hdg : decode cc pc = .ok (.newarray .boolean, 2)) (h : (nwA 6 M n).bind f = some r0)
    (kk : ∀ M', nwA 6 M n = some M' → f M' = some r0 → J C (ce + 1) (sl + n') M' (pc + 2) lv (rf (some M.1) :: st)) : J C ce sl M pc lv (.int n :: st) := by
  obtain ⟨M', hv, hf⟩ := bnd h
  have kk := kk M' hv hf
  unfold nwA at hv
  split at hv
  case isFalse => cases hv
  case isTrue hi =>
  cases hv
  obtain ⟨p, l, e, R, s, m, args, below, meth, c, H0, A, Q, nL0, G, ad0, n0⟩ := C
  obtain ⟨hx, hb, hml, hnl, hown, hts, hKK, hH0, hA, hlk, hrt, hR, hQ, hxt⟩ := hC
  intro ad H locs ls hW hAa hag hn hvl hvs hS hl
  subst hR
  refine va_newa (atype := .boolean) (a0 := (n', .inl (fun _ => 0))) hx hb (hts _ w_arr6) rfl hKK.1.1 hW.1 (pool_D hW hAa) hS (by rw [hH0]; exact hA) (fun cA => by rw [vp_cell_i]; rfl) hi.2.1 hn9 hby hce hsl hdg (fun q cA H1 hK1 hP1 hD1 hS1 => ?_)
  have ec := K_same hK1 (t0 := 2) (by decide) rfl
  subst ec
  obtain ⟨w1, w2, w3⟩ := wd_al hW hP1 hD1 (by rw [ent_6 hi.1, hi.2.2, hn9]; simp [al, mI, mJ, mR, mD, up1])
  have k2 := kk (va_up ad M.1 q) H1 locs ls w1 w2 (fun i hi => (w3 i (Nat.lt_of_lt_of_le hi hn)).trans (hag i hi)) (Nat.le_succ_of_le hn) (fun q hq => Vok_mono (Nat.le_succ _) (hvl q hq)) (vs_c (fun i e => by cases e; exact Nat.lt_succ_self _) (fun v hv => Vok_mono (Nat.le_succ _) ((vs_t hvs) v hv))) hS1 (by rw [mapl_ag w3 hvl]; exact hl)
  rw [List.map_cons, map_ag w3 (vs_t hvs)] at k2
  have e9 : phys (va_up ad M.1 q) (rf (some M.1)) = .ref q := congrArg Value.ref (va_up_self _ _ _)
  rw [e9] at k2
  exact k2
theorem J_anew7 {C : JC} {x : Bool} {cc : ByteArray} {nL : Nat} {rm : Room} {rt : Option FieldType} {own : String} {res : Res} {ce sl : Nat} {M : Mem} {pc : Nat} {lv : List (Nat × Value)} {st : List Value} {β : Type} {r0 : β} {f : Mem → Option β} {n : Int32} {n' index : Nat} (hC : Ok C x cc nL rm rt own res) (hw : Cond.classLink own index RX0 ∈ BIG) (hn9 : n.toNatClampNeg = n') (hby : n' * 4 ≤ 536870912) (hce : ce + 1 ≤ rm.cells) (hsl : sl + n' ≤ rm.slots) (hdg : decode cc pc = .ok (.anewarray index, 3)) (h : (nwA 7 M n).bind f = some r0)
    (kk : ∀ M', nwA 7 M n = some M' → f M' = some r0 → J C (ce + 1) (sl + n') M' (pc + 3) lv (rf (some M.1) :: st)) : J C ce sl M pc lv (.int n :: st) := by
  obtain ⟨M', hv, hf⟩ := bnd h
  have kk := kk M' hv hf
  unfold nwA at hv
  split at hv
  case isFalse => cases hv
  case isTrue hi =>
  cases hv
  obtain ⟨p, l, e, R, s, m, args, below, meth, c, H0, A, Q, nL0, G, ad0, n0⟩ := C
  obtain ⟨hx, hb, hml, hnl, hown, hts, hKK, hH0, hA, hlk, hrt, hR, hQ, hxt⟩ := hC
  intro ad H locs ls hW hAa hag hn hvl hvs hS hl
  subst hR
  refine va_newq (C := RX0) hx hb hown (hts _ hw) hKK.1.2.2.2.1.1 hKK.1.1 hW.1 (pool_D hW hAa) hS (by rw [hH0]; exact hA) hi.2.1 hn9 hby hce hsl hdg (fun q cA H1 hK1 hP1 hD1 hS1 => ?_)
  have ec := K_same hK1 (t0 := 3) (by decide) rfl
  subst ec
  obtain ⟨w1, w2, w3⟩ := wd_al hW hP1 hD1 (by rw [ent_7 hi.1, hi.2.2, hn9]; simp [al, mI, mJ, mR, mD, up1])
  have k2 := kk (va_up ad M.1 q) H1 locs ls w1 w2 (fun i hi => (w3 i (Nat.lt_of_lt_of_le hi hn)).trans (hag i hi)) (Nat.le_succ_of_le hn) (fun q hq => Vok_mono (Nat.le_succ _) (hvl q hq)) (vs_c (fun i e => by cases e; exact Nat.lt_succ_self _) (fun v hv => Vok_mono (Nat.le_succ _) ((vs_t hvs) v hv))) hS1 (by rw [mapl_ag w3 hvl]; exact hl)
  rw [List.map_cons, map_ag w3 (vs_t hvs)] at k2
  have e9 : phys (va_up ad M.1 q) (rf (some M.1)) = .ref q := congrArg Value.ref (va_up_self _ _ _)
  rw [e9] at k2
  exact k2
theorem J_anew8 {C : JC} {x : Bool} {cc : ByteArray} {nL : Nat} {rm : Room} {rt : Option FieldType} {own : String} {res : Res} {ce sl : Nat} {M : Mem} {pc : Nat} {lv : List (Nat × Value)} {st : List Value} {β : Type} {r0 : β} {f : Mem → Option β} {n : Int32} {n' index : Nat} (hC : Ok C x cc nL rm rt own res) (hw : Cond.classLink own index RX1 ∈ BIG) (hn9 : n.toNatClampNeg = n') (hby : n' * 4 ≤ 536870912) (hce : ce + 1 ≤ rm.cells) (hsl : sl + n' ≤ rm.slots) (hdg : decode cc pc = .ok (.anewarray index, 3)) (h : (nwA 8 M n).bind f = some r0)
    (kk : ∀ M', nwA 8 M n = some M' → f M' = some r0 → J C (ce + 1) (sl + n') M' (pc + 3) lv (rf (some M.1) :: st)) : J C ce sl M pc lv (.int n :: st) := by
  obtain ⟨M', hv, hf⟩ := bnd h
  have kk := kk M' hv hf
  unfold nwA at hv
  split at hv
  case isFalse => cases hv
  case isTrue hi =>
  cases hv
  obtain ⟨p, l, e, R, s, m, args, below, meth, c, H0, A, Q, nL0, G, ad0, n0⟩ := C
  obtain ⟨hx, hb, hml, hnl, hown, hts, hKK, hH0, hA, hlk, hrt, hR, hQ, hxt⟩ := hC
  intro ad H locs ls hW hAa hag hn hvl hvs hS hl
  subst hR
  refine va_newq (C := RX1) hx hb hown (hts _ hw) hKK.1.2.2.2.1.2.1 hKK.1.1 hW.1 (pool_D hW hAa) hS (by rw [hH0]; exact hA) hi.2.1 hn9 hby hce hsl hdg (fun q cA H1 hK1 hP1 hD1 hS1 => ?_)
  have ec := K_same hK1 (t0 := 4) (by decide) rfl
  subst ec
  obtain ⟨w1, w2, w3⟩ := wd_al hW hP1 hD1 (by rw [ent_8 hi.1, hi.2.2, hn9]; simp [al, mI, mJ, mR, mD, up1])
  have k2 := kk (va_up ad M.1 q) H1 locs ls w1 w2 (fun i hi => (w3 i (Nat.lt_of_lt_of_le hi hn)).trans (hag i hi)) (Nat.le_succ_of_le hn) (fun q hq => Vok_mono (Nat.le_succ _) (hvl q hq)) (vs_c (fun i e => by cases e; exact Nat.lt_succ_self _) (fun v hv => Vok_mono (Nat.le_succ _) ((vs_t hvs) v hv))) hS1 (by rw [mapl_ag w3 hvl]; exact hl)
  rw [List.map_cons, map_ag w3 (vs_t hvs)] at k2
  have e9 : phys (va_up ad M.1 q) (rf (some M.1)) = .ref q := congrArg Value.ref (va_up_self _ _ _)
  rw [e9] at k2
  exact k2
def ad6 (ad : Nat → Nat) (n q : Nat) (r : Nat → Nat) : Nat → Nat := fun i => if i = n then q else if n < i ∧ i < n + 6 then r (i - n - 1) else ad i
theorem J_multi {C : JC} {x : Bool} {cc : ByteArray} {nL : Nat} {rm : Room} {rt : Option FieldType} {own : String} {res : Res} {ce sl : Nat} {M : Mem} {pc : Nat} {lv : List (Nat × Value)} {st : List Value} {β : Type} {r0 : β} {f : Mem → Option β} {index : Nat} (hC : Ok C x cc nL rm rt own res) (hw : Cond.classLink own index "[[I" ∈ BIG) (hce : ce + 6 ≤ rm.cells) (hsl : sl + 50 ≤ rm.slots) (hdg : decode cc pc = .ok (.multianewarray index 2, 4)) (h : (nwG M).bind f = some r0)
    (kk : ∀ M', nwG M = some M' → f M' = some r0 → J C (ce + 6) (sl + 50) M' (pc + 4) lv (rf (some M.1) :: st)) : J C ce sl M pc lv (.int 9 :: .int 5 :: st) := by
  obtain ⟨M', hv, hf⟩ := bnd h
  have kk := kk M' hv hf
  unfold nwG at hv
  split at hv
  case isFalse => cases hv
  case isTrue hi0 =>
  cases hv
  have hi : kd M.1 = 9 ∧ ln M.1 = 5 ∧ ∀ k, k < 5 → kd (M.1 + 1 + k) = 4 ∧ ln (M.1 + 1 + k) = 9 := ⟨hi0.1, hi0.2.1, fun k hk => by
    have h9 := List.all_eq_true.mp hi0.2.2 k (List.mem_range.mpr hk)
    simpa using h9⟩
  obtain ⟨p, l, e, R, s, m, args, below, meth, c, H0, A, Q, nL0, G, ad0, n0⟩ := C
  obtain ⟨hx, hb, hml, hnl, hown, hts, hKK, hH0, hA, hlk, hrt, hR, hQ, hxt⟩ := hC
  intro ad H locs ls hW hAa hag hn hvl hvs hS hl
  subst hR
  have hcyI : s.vm.findClass (FieldType.array .int).toString = some (G.2 0) := (hKK.1.1.2 0 (G.2 0, .int) rfl).2
  refine va_mna (X := pool G ad M) (L := []) (f := fun _ => .inr (0, [])) (ty := .int) (cy := G.2 0) (z := (9, .inl (fun _ => 0))) (N' := 5) (K' := 9) hx hb hown (hts _ hw) hKK.1.2.2.2.1.2.2 (hts _ w_arr4) hcyI hKK.1.1 (by simpa [va_pl] using hW.1) (by simpa [va_pl] using pool_D hW hAa) hS (by rw [hH0]; exact hA) (by decide) (by decide) (by decide) (by decide) (by decide) (by decide +kernel) (by decide) (by decide) (by decide) hce hsl (fun c => by rw [vp_cell_i]; rfl) hdg (fun q r cA H1 hri hrL hK1 hP1 hD1 hS1 => ?_)
  have ec := K_same hK1 (t0 := 5) (by decide) rfl
  subst ec
  have hag6 : ∀ i, i < M.1 → ad6 ad M.1 q r i = ad i := fun i hi => by
    have h1 : i ≠ M.1 := Nat.ne_of_lt hi
    have h2 : ¬ (M.1 < i ∧ i < M.1 + 6) := by omega
    simp only [ad6, h1, h2, if_false]
  have e5 : (List.range 5).map r = [r 0, r 1, r 2, r 3, r 4] := rfl
  have ew : (pool G ad M ++ [(q, .inl (G.2 5, 5, .inr (.inr (.inr (.inr (fun i => if i < 5 then some (r i) else none))))))]) ++ va_pl ([] ++ (List.range 5).map r) (vr_up (fun _ => .inr (0, [])) ((List.range 5).map r) (.inl (G.2 0, 9, .inl (fun _ => 0)))) = pool G (ad6 ad M.1 q r) (al6 M) := by
    have hr : List.range (M.1 + 6) = List.range M.1 ++ [M.1, M.1 + 1, M.1 + 2, M.1 + 3, M.1 + 4, M.1 + 5] := by
      simp only [List.range_succ, List.append_assoc, List.cons_append, List.nil_append]
    show _ = (List.range (M.1 + 6)).map _
    rw [hr, List.map_append, e5]
    have k0 := hi.2.2 0 (by decide)
    have k1 := hi.2.2 1 (by decide)
    have k2 := hi.2.2 2 (by decide)
    have k3 := hi.2.2 3 (by decide)
    have k4 := hi.2.2 4 (by decide)
    simp only [Nat.add_zero] at k0
    have z : ∀ j, M.1 ≤ j → j < M.1 + 6 → mI (al6 M) j = fun _ => 0 := fun j h1 h2 => by show (if _ then _ else _) = _; rw [if_pos ⟨h1, h2⟩]
    rw [List.append_assoc]
    congr 1
    · refine (List.map_congr_left fun i hi9 => ?_).symm
      have hi9 := List.mem_range.mp hi9
      have hne : i ≠ M.1 := Nat.ne_of_lt hi9
      have hn6 : ¬ (M.1 ≤ i ∧ i < M.1 + 6) := by omega
      rw [hag6 i hi9, ent_ag (M2 := al6 M) (M := M) (ad := ad) (if_neg hn6) (if_neg hn6) (by show (if _ then _ else _) = _; rw [if_neg hne, if_neg hn6]) (if_neg hn6) (fun k j e => hag6 j (hW.2.2 i k j hi9 e))]
    · have f0 : ent G (ad6 ad M.1 q r) (al6 M) M.1 = .inl (G.2 5, 5, .inr (.inr (.inr (.inr (fun i => if i < 5 then some (r i) else none))))) := by
        rw [ent_9 hi.1, hi.2.1]
        congr 7
        funext k
        show Option.map _ ((if M.1 = M.1 then (fun k => if k < 5 then some (M.1 + 1 + k) else none) else _) k) = _
        rw [if_pos rfl]
        by_cases hk : k < 5
        · have h1 : M.1 + 1 + k ≠ M.1 := by omega
          have h2 : M.1 < M.1 + 1 + k ∧ M.1 + 1 + k < M.1 + 6 := by omega
          have h3 : M.1 + 1 + k - M.1 - 1 = k := by omega
          simp only [hk, if_true, Option.map_some, ad6, h1, if_false, h2, and_self, h3]
        · simp [hk]
      have fk : ∀ k, k < 5 → ent G (ad6 ad M.1 q r) (al6 M) (M.1 + 1 + k) = .inl (G.2 0, 9, .inl (fun _ => 0)) := fun k hk => by
        rw [ent_4 (hi.2.2 k hk).1, (hi.2.2 k hk).2, z _ (by omega) (by omega)]
      have ak : ∀ k, k < 5 → ad6 ad M.1 q r (M.1 + 1 + k) = r k := fun k hk => by
        have h1 : M.1 + 1 + k ≠ M.1 := by omega
        have h2 : M.1 < M.1 + 1 + k ∧ M.1 + 1 + k < M.1 + 6 := by omega
        have h3 : M.1 + 1 + k - M.1 - 1 = k := by omega
        simp only [ad6, h1, if_false, h2, and_self, if_true, h3]
      have a0 : ad6 ad M.1 q r M.1 = q := by simp [ad6]
      simp only [va_pl, List.nil_append, List.map_cons, List.map_nil, List.cons_append, f0, a0]
      have g := fun k hk => fk k hk
      have b := fun k hk => ak k hk
      have g1 := g 0 (by decide); have g2 := g 1 (by decide); have g3 := g 2 (by decide); have g4 := g 3 (by decide); have g5 := g 4 (by decide)
      have b1 := b 0 (by decide); have b2 := b 1 (by decide); have b3 := b 2 (by decide); have b4 := b 3 (by decide); have b5 := b 4 (by decide)
      simp only [Nat.add_zero, Nat.add_assoc, Nat.reduceAdd] at g1 g2 g3 g4 g5 b1 b2 b3 b4 b5
      rw [g1, g2, g3, g4, g5, b1, b2, b3, b4, b5]
      simp [vr_up]
  rw [ew] at hP1 hD1
  have hA6 : ∀ i, i < (al6 M).1 → A (ad6 ad M.1 q r i) := fun i hi9 => hD1.2 i _ (pool_at hi9)
  have w1 : Wd G (ad6 ad M.1 q r) (al6 M) H1 := by
    refine ⟨hP1, fun i j hi9 hj9 hij => hD1.1 i j _ _ (pool_at hi9) (pool_at hj9) hij, fun i k j hi9 hr => ?_⟩
    have hi9 : i < M.1 + 6 := hi9
    show j < M.1 + 6
    have hr : (if i = M.1 then (fun k => if k < 5 then some (M.1 + 1 + k) else none) else if M.1 ≤ i ∧ i < M.1 + 6 then fun _ => none else mR M i) k = some j := hr
    by_cases h1 : i = M.1
    · rw [if_pos h1] at hr
      by_cases hk : k < 5
      · simp only [hk, if_true, Option.some.injEq] at hr; omega
      · simp [hk] at hr
    · rw [if_neg h1] at hr
      by_cases h2 : M.1 ≤ i ∧ i < M.1 + 6
      · rw [if_pos h2] at hr; cases hr
      · rw [if_neg h2] at hr
        have := hW.2.2 i k j (by omega) hr
        omega
  have hle : M.1 ≤ (al6 M).1 := Nat.le_add_right _ 6
  have hvt := vs_t (vs_t hvs)
  have k2 := kk (ad6 ad M.1 q r) H1 locs ls w1 hA6 (fun i hi => (hag6 i (Nat.lt_of_lt_of_le hi hn)).trans (hag i hi)) (Nat.le_trans hn hle) (fun q hq => Vok_mono hle (hvl q hq)) (vs_c (fun i e => by cases e; exact Nat.lt_add_of_pos_right (by decide)) (fun v hv => Vok_mono hle (hvt v hv))) hS1 (by rw [mapl_ag hag6 hvl]; exact hl)
  rw [List.map_cons, map_ag hag6 hvt] at k2
  have e9 : phys (ad6 ad M.1 q r) (rf (some M.1)) = .ref q := congrArg Value.ref (by simp [ad6])
  rw [e9] at k2
  exact k2
