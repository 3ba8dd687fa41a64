theorem str_102 {s : State} {b : Nat} (hts : ∀ w ∈ lw_tbl, w.before #[Value.ref b] s = true) (hq : ∀ w ∈ flatC (Jvm.Cond.and given_1 narrow_1), w.before #[Value.ref b] s = true) : ∃ sa, vk_R RX2 102 "a root is -9 to 9" sa s := by
  obtain ⟨a, c, cell, kc, h1, -⟩ := Cond.exactly_spec (hq (Cond.exactly (Term.string "SignRoots" 102) "java/lang/String") (by decide +kernel))
  exact ⟨a, vk_R.of (hts _ (List.mem_of_getElem? (i := 413) (by decide +kernel))) h1⟩
theorem str_147 {s : State} {b : Nat} (hts : ∀ w ∈ lw_tbl, w.before #[Value.ref b] s = true) (hq : ∀ w ∈ flatC (Jvm.Cond.and given_1 narrow_1), w.before #[Value.ref b] s = true) : ∃ sa, vk_R RX2 147 "the slot is empty" sa s := by
  obtain ⟨a, c, cell, kc, h1, -⟩ := Cond.exactly_spec (hq (Cond.exactly (Term.string "SignRoots" 147) "java/lang/String") (by decide +kernel))
  exact ⟨a, vk_R.of (hts _ (List.mem_of_getElem? (i := 422) (by decide +kernel))) h1⟩
theorem str_149 {s : State} {b : Nat} (hts : ∀ w ∈ lw_tbl, w.before #[Value.ref b] s = true) (hq : ∀ w ∈ flatC (Jvm.Cond.and given_1 narrow_1), w.before #[Value.ref b] s = true) : ∃ sa, vk_R RX2 149 "there is no saved state" sa s := by
  obtain ⟨a, c, cell, kc, h1, -⟩ := Cond.exactly_spec (hq (Cond.exactly (Term.string "SignRoots" 149) "java/lang/String") (by decide +kernel))
  exact ⟨a, vk_R.of (hts _ (List.mem_of_getElem? (i := 234) (by decide +kernel))) h1⟩
theorem str_220 {s : State} {b : Nat} (hts : ∀ w ∈ lw_tbl, w.before #[Value.ref b] s = true) (hq : ∀ w ∈ flatC (Jvm.Cond.and given_1 narrow_1), w.before #[Value.ref b] s = true) : ∃ sa, vk_R RX2 220 "there is no such polynomial" sa s := by
  obtain ⟨a, c, cell, kc, h1, -⟩ := Cond.exactly_spec (hq (Cond.exactly (Term.string "SignRoots" 220) "java/lang/String") (by decide +kernel))
  exact ⟨a, vk_R.of (hts _ (List.mem_of_getElem? (i := 300) (by decide +kernel))) h1⟩
theorem str_223 {s : State} {b : Nat} (hts : ∀ w ∈ lw_tbl, w.before #[Value.ref b] s = true) (hq : ∀ w ∈ flatC (Jvm.Cond.and given_1 narrow_1), w.before #[Value.ref b] s = true) : ∃ sa, vk_R RX2 223 "a power is 0 to 8" sa s := by
  obtain ⟨a, c, cell, kc, h1, -⟩ := Cond.exactly_spec (hq (Cond.exactly (Term.string "SignRoots" 223) "java/lang/String") (by decide +kernel))
  exact ⟨a, vk_R.of (hts _ (List.mem_of_getElem? (i := 248) (by decide +kernel))) h1⟩
theorem str_225 {s : State} {b : Nat} (hts : ∀ w ∈ lw_tbl, w.before #[Value.ref b] s = true) (hq : ∀ w ∈ flatC (Jvm.Cond.and given_1 narrow_1), w.before #[Value.ref b] s = true) : ∃ sa, vk_R RX2 225 "a sign is -1, 0 or 1" sa s := by
  obtain ⟨a, c, cell, kc, h1, -⟩ := Cond.exactly_spec (hq (Cond.exactly (Term.string "SignRoots" 225) "java/lang/String") (by decide +kernel))
  exact ⟨a, vk_R.of (hts _ (List.mem_of_getElem? (i := 351) (by decide +kernel))) h1⟩
theorem str_227 {s : State} {b : Nat} (hts : ∀ w ∈ lw_tbl, w.before #[Value.ref b] s = true) (hq : ∀ w ∈ flatC (Jvm.Cond.and given_1 narrow_1), w.before #[Value.ref b] s = true) : ∃ sa, vk_R RX2 227 "a slot is 0 or 1" sa s := by
  obtain ⟨a, c, cell, kc, h1, -⟩ := Cond.exactly_spec (hq (Cond.exactly (Term.string "SignRoots" 227) "java/lang/String") (by decide +kernel))
  exact ⟨a, vk_R.of (hts _ (List.mem_of_getElem? (i := 180) (by decide +kernel))) h1⟩
theorem str_229 {s : State} {b : Nat} (hts : ∀ w ∈ lw_tbl, w.before #[Value.ref b] s = true) (hq : ∀ w ∈ flatC (Jvm.Cond.and given_1 narrow_1), w.before #[Value.ref b] s = true) : ∃ sa, vk_R RX2 229 "there is no such thing to tell" sa s := by
  obtain ⟨a, c, cell, kc, h1, -⟩ := Cond.exactly_spec (hq (Cond.exactly (Term.string "SignRoots" 229) "java/lang/String") (by decide +kernel))
  exact ⟨a, vk_R.of (hts _ (List.mem_of_getElem? (i := 260) (by decide +kernel))) h1⟩
theorem arr_of {s : State} {A : Array Value} {ty : FieldType} (h : (Cond.arrayClass ty).before A s = true) (hty : ∀ C, ty ≠ .object C) : ∃ cA : ClassId, ArrOfT s cA ty ∧ va_RA s cA ty := by
  obtain ⟨cA, kA, comp, h1, h2, h3⟩ := Cond.arrayClass_spec h
  refine ⟨cA, fun n z => ⟨fun k h => (by cases h), kA, h2, comp, h3⟩, ?_⟩
  cases ty <;> first | exact h1 | exact absurd rfl (hty _)
theorem arr_over {s : State} {C : String} (h : va_AO C s) : ∃ cA : ClassId, ArrOfT s cA (.object C) ∧ va_RA s cA (.object C) := by
  obtain ⟨comp, c, k, h1, h2, h3, h4, h5⟩ := Cond.arrayOver_spec h
  exact ⟨c, fun n z => ⟨fun k h => (by cases h), k, h3, comp, h4⟩, k, comp, h3, h4, h1, h5⟩
theorem arr_overA {s : State} {t : FieldType} (h : va_AOA t s) : ∃ cA : ClassId, ArrOfT s cA (.array t) ∧ va_RA s cA (.array t) := by
  obtain ⟨comp, c, k, h1, h2, h3, h4, h5⟩ := Jvm.Stand.arrayOver_specB h
  exact ⟨c, fun n z => ⟨fun k h => (by cases h), k, h3, comp, h4⟩, h5⟩
set_option maxHeartbeats 4000000 in
set_option maxRecDepth 100000 in
theorem KK_start {s : State} {b : Nat} (hts : ∀ w ∈ lw_tbl, w.before #[Value.ref b] s = true) (hgv : (Jvm.Cond.and given_1 narrow_1).before #[Value.ref b] s = true) : ∃ G : Geo, KK G (fun q => s.heap.size ≤ q) s s.heap := by
  have hq : ∀ w ∈ flatC (Jvm.Cond.and given_1 narrow_1), w.before #[Value.ref b] s = true := flat_of_before _ hgv
  have hbig : ∀ w ∈ BIG, w.before #[Value.ref b] s = true := fun w h => hts w (List.mem_filter.mp h).1
  obtain ⟨c0, i0, k0⟩ := u_known (C := RX0) (T := TX0) (N := 6) (n := 6) hbig inB0 (hbig _ w_inst0)
  obtain ⟨c1, i1, k1⟩ := u_known (C := RX1) (T := TX1) (N := 5) (n := 5) hbig inB1 (hbig _ w_inst1)
  obtain ⟨c2, i2, k2⟩ := u_known (C := RX2) (T := TX2) (N := 10) (n := 10) hbig inB2 (hbig _ w_inst2)
  obtain ⟨c3, i3, k3⟩ := u_known (C := RXT) (T := TXT) (N := 1) (n := 1) hbig inB11 (hbig _ w_inst11)
  have o0 : va_AO RX0 s := va_AO.of (hts _ (List.mem_of_getElem? (i := 62) (by decide +kernel)))
  have o1 : va_AO RX1 s := va_AO.of (hts _ (List.mem_of_getElem? (i := 60) (by decide +kernel)))
  have o2h : (Cond.arrayOver (.array .int)).before #[Value.ref b] s = true := (hts _ (List.mem_of_getElem? (i := 37) (by decide +kernel)))
  have o2 : va_AOA .int s := o2h
  obtain ⟨a0, e0⟩ := arr_of (hbig _ w_arr4) (fun C h => by cases h)
  obtain ⟨a1, e1⟩ := arr_of (hbig _ w_arr5) (fun C h => by cases h)
  obtain ⟨a2, e2⟩ := arr_of (hbig _ w_arr6) (fun C h => by cases h)
  obtain ⟨a3, e3⟩ := arr_over o0
  obtain ⟨a4, e4⟩ := arr_over o1
  obtain ⟨a5, e5⟩ := arr_overA o2
  refine ⟨((fun k => match k with | 0 => c0 | 1 => c1 | 2 => c2 | _ => c3, fun k => match k with | 0 => i0 | 1 => i1 | 2 => i2 | _ => i3), fun k => match k with | 0 => a0 | 1 => a1 | 2 => a2 | 3 => a3 | 4 => a4 | _ => a5), ⟨⟨?_, ?_⟩, ⟨⟨(va_Nw.of rfl (hts _ (List.mem_of_getElem? (i := 76) (by decide +kernel)))), (va_Nw.of rfl (hts _ (List.mem_of_getElem? (i := 379) (by decide +kernel))))⟩, (va_Nw.of rfl (hts _ (List.mem_of_getElem? (i := 390) (by decide +kernel)))), (va_Nw.of rfl (hts _ (List.mem_of_getElem? (i := 391) (by decide +kernel)))), (va_Nw.of rfl (hts _ (List.mem_of_getElem? (i := 65) (by decide +kernel))))⟩, ?_, ⟨o0, o1, o2⟩, ?_⟩, ?_, ?_⟩
  · intro k q hk
    match k, hk with
    | 0, hk => cases hk; exact k0
    | 1, hk => cases hk; exact k1
    | 2, hk => cases hk; exact k2
    | 3, hk => cases hk; exact k3
    | k + 4, hk => simp [vwCl] at hk
  · intro k q hk
    match k, hk with
    | 0, hk => cases hk; exact e0
    | 1, hk => cases hk; exact e1
    | 2, hk => cases hk; exact e2
    | 3, hk => cases hk; exact e3
    | 4, hk => cases hk; exact e4
    | 5, hk => cases hk; exact e5
    | k + 6, hk => simp [tysOf] at hk
  · intro q hk
    simp only [List.mem_cons, List.not_mem_nil, or_false] at hk
    rcases hk with rfl | rfl | rfl | rfl | rfl | rfl | rfl | rfl
    · exact str_102 hts hq
    · exact str_147 hts hq
    · exact str_149 hts hq
    · exact str_220 hts hq
    · exact str_223 hts hq
    · exact str_225 hts hq
    · exact str_227 hts hq
    · exact str_229 hts hq
  · refine ⟨⟨va_Nw.of rfl (hts _ (List.mem_of_getElem? (i := 141) (by decide +kernel))), va_Nw.of rfl (hts _ (List.mem_of_getElem? (i := 293) (by decide +kernel))), va_Nw.of rfl (hts _ (List.mem_of_getElem? (i := 227) (by decide +kernel)))⟩, va_Nw.of rfl (hts _ (List.mem_of_getElem? (i := 143) (by decide +kernel))), va_Nw.of rfl (hts _ (List.mem_of_getElem? (i := 145) (by decide +kernel))), va_Nw.of rfl (hts _ (List.mem_of_getElem? (i := 147) (by decide +kernel))), trivial⟩
  · exact vx_Zqof (hts _ (List.mem_of_getElem? (i := 166) (by decide +kernel))) (hts _ (List.mem_of_getElem? (i := 15) (by decide +kernel))) (hq (Cond.isRef (.static "java/lang/Throwable" "UNASSIGNED_STACK" "[Ljava/lang/StackTraceElement;")) (by decide +kernel)) (fun a ha => Nat.not_le.mpr ha)
  · exact vx_Zqof (hts _ (List.mem_of_getElem? (i := 168) (by decide +kernel))) (hts _ (List.mem_of_getElem? (i := 15) (by decide +kernel))) (hq (Cond.isRef (.static "java/lang/Throwable" "SUPPRESSED_SENTINEL" "Ljava/util/List;")) (by decide +kernel)) (fun a ha => Nat.not_le.mpr ha)
